section
variable {p : Program} {l : Launch} {e : Env} {s : State} {m : MethodId} {args : Array Value} {below : List Frame} {meth : Method} {c : Code} {E : EnvT}
set_option maxRecDepth 100000 in
set_option maxHeartbeats 4000000 in
theorem w_X12_in_b0 {r : Int32} (C0 : Cx E p m c cX12_in 6 s args RX12 meth (some .boolean))  (v0 : Int64) (v2 : Int64) (v4 : Int64)  {σ : Mem} {H : Heap} {locs : List Loc} {ls : Array Slot} (hH : Hs E s σ H locs) (hl : lv_has ls 6 [(0, .long v0), (2, .long v2), (4, .long v4)]) (h : X12_in_b0 v0 v2 v4 = r) : W p l e (rmD 0) s m args below meth c H locs 0 0 (MQ below (QiM E r σ) args s 0 0 (eA E)) (F0 m 0 ls []) := by
  obtain ⟨⟨hx, hb, hml, hown, hts⟩, hr, hlocks, hF, hAd⟩ := id C0
  unfold X12_in_b0 at h
  refine lv_lload_n hx hb dX12_in_0 rfl (lv_at hl 0 rfl) ?_
  refine lv_lload_n hx hb dX12_in_1 rfl (lv_at hl 1 rfl) ?_
  refine W.lcmp hx hb dX12_in_2 ?_
  refine lv_if_lt (tgt := 17) hx hb dX12_in_3 (by decide) (fun c1 => ?_) (fun c1 => ?_)
  · replace h := if_t h c1
    refine lv_iconst (v := 0) hx hb dX12_in_17 (by decide) ?_
    exact r_zret C0 rfl hH h rfl dX12_in_18
  · replace h := if_f h c1
    refine lv_lload_n hx hb dX12_in_6 rfl (lv_at hl 0 rfl) ?_
    refine lv_lload hx hb dX12_in_7 (lv_at hl 2 rfl) ?_
    refine W.lcmp hx hb dX12_in_9 ?_
    refine lv_if_gt (tgt := 17) hx hb dX12_in_10 (by decide) (fun c2 => ?_) (fun c2 => ?_)
    · replace h := if_t h c2
      refine lv_iconst (v := 0) hx hb dX12_in_17 (by decide) ?_
      exact r_zret C0 rfl hH h rfl dX12_in_18
    · replace h := if_f h c2
      refine lv_iconst (v := 1) hx hb dX12_in_13 (by decide) ?_
      refine lv_goto (tgt := 18) hx hb dX12_in_14 (by decide) ?_
      exact r_zret C0 rfl hH h rfl dX12_in_18
theorem c_X12_in {l : Launch} {E : EnvT} (hAd : Ad E) (v0 : Int64) (v2 : Int64) (v4 : Int64)  (σ : Mem) {r : Int32} (h : X12_in v0 v2 v4 = r) : Met l yX12_in (wsM yX12_in cX12_in 6 (some .boolean)) (rmD 0) (PcM E [.long v0, .long v2, .long v4] σ) (QiM E r σ) 0 0 (eA E) :=
  Met.ofM (by decide) (Nat.le_of_ble_eq_true rfl) (fun p e s m below meth c ls C0 hH hl => w_X12_in_b0 C0 v0 v2 v4  hH hl h) hAd
set_option maxRecDepth 100000 in
set_option maxHeartbeats 4000000 in
theorem w_X12_finding_b0 {r : Int32} {σ' : Mem} (C0 : Cx E p m c cX12_finding 2 s args RX12 meth (some .int))  (k0 : Nat) (v1 : Int32) (hk0 : kd k0 = 12) {σ : Mem} {H : Heap} {locs : List Loc} {ls : Array Slot} (hH : Hs E s σ H locs) (hl : lv_has ls 2 [(0, .ref (ea E k0)), (1, .int v1)]) (h : X12_finding_b0 k0 v1 σ = some (r, σ')) : W p l e (rmD 0) s m args below meth c H locs 0 0 (MQ below (QiM E r σ') args s 0 0 (eA E)) (F0 m 0 ls []) := by
  obtain ⟨⟨hx, hb, hml, hown, hts⟩, hr, hlocks, hF, hAd⟩ := id C0
  unfold X12_finding_b0 at h
  refine lv_aload_n hx hb dX12_finding_0 rfl (lv_at hl 0 rfl) ?_
  refine lv_iload_n hx hb dX12_finding_1 rfl (lv_at hl 1 rfl) ?_
  refine pf_X12_68 C0 hH hk0 dX12_finding_2 (fun H locs hH => ?_)
  refine lv_ldc hx hb hown (hts _ qK_X12_72) dX12_finding_5 ?_
  refine lv_iload_n hx hb dX12_finding_7 rfl (lv_at hl 1 rfl) ?_
  refine lv_isub hx hb dX12_finding_8 ?_
  exact r_iret C0 hH (pj1 h) (pj2 h) dX12_finding_9
theorem c_X12_finding {l : Launch} {E : EnvT} (hAd : Ad E) (k0 : Nat) (v1 : Int32) (hk0 : kd k0 = 12) (σ : Mem) {r : Int32} {σ' : Mem} (h : X12_finding k0 v1 σ = some (r, σ')) : Met l yX12_finding (wsM yX12_finding cX12_finding 2 (some .int)) (rmD 0) (PcM E [.ref (ea E k0), .int v1] σ) (QiM E r σ') 0 0 (eA E) :=
  Met.ofM (by decide) (Nat.le_of_ble_eq_true rfl) (fun p e s m below meth c ls C0 hH hl => w_X12_finding_b0 C0 k0 v1 hk0 hH hl h) hAd
set_option maxRecDepth 100000 in
set_option maxHeartbeats 4000000 in
theorem w_X12_isRow_b0 {r : Int32} (C0 : Cx E p m c cX12_isRow 1 s args RX12 meth (some .boolean))  (v0 : Int32)  {σ : Mem} {H : Heap} {locs : List Loc} {ls : Array Slot} (hH : Hs E s σ H locs) (hl : lv_has ls 1 [(0, .int v0)]) (h : X12_isRow_b0 v0 = r) : W p l e (rmD 1) s m args below meth c H locs 0 0 (MQ below (QiM E r σ) args s 0 0 (eA E)) (F0 m 0 ls []) := by
  obtain ⟨⟨hx, hb, hml, hown, hts⟩, hr, hlocks, hF, hAd⟩ := id C0
  unfold X12_isRow_b0 at h
  refine lv_iload_n hx hb dX12_isRow_0 rfl (lv_at hl 0 rfl) ?_
  refine lv_i2l (v := Int32.toInt64 v0) hx hb dX12_isRow_1 rfl ?_
  refine lv_lconst (v := 0) hx hb dX12_isRow_2 (by decide) ?_
  refine lv_ldc2 hx hb hown (hts _ qL_X12_73) dX12_isRow_3 ?_
  refine go_i hH (va_run_S (As := [.long (Int32.toInt64 v0), .long 0, .long 7]) (rest := []) C0 hH lk_X12_75 (c_X12_in hAd (Int32.toInt64 v0) 0 7  σ rfl) (by decide) rfl hl.1 rfl (Nat.le_of_ble_eq_true rfl) dX12_isRow_6) (fun H locs hH => ?_)
  exact r_zret C0 (bit_nar (z_X12_in _ _ _)) hH h rfl dX12_isRow_9
theorem c_X12_isRow {l : Launch} {E : EnvT} (hAd : Ad E) (v0 : Int32)  (σ : Mem) {r : Int32} (h : X12_isRow v0 = r) : Met l yX12_isRow (wsM yX12_isRow cX12_isRow 1 (some .boolean)) (rmD 1) (PcM E [.int v0] σ) (QiM E r σ) 0 0 (eA E) :=
  Met.ofM (by decide) (Nat.le_of_ble_eq_true rfl) (fun p e s m below meth c ls C0 hH hl => w_X12_isRow_b0 C0 v0  hH hl h) hAd
set_option maxRecDepth 100000 in
set_option maxHeartbeats 4000000 in
theorem w_X12_row_b60 {r : Int32} {σ' : Mem} (C0 : Cx E p m c cX12_row 5 s args RX12 meth (some .int)) (K60 : Nat → Int32 → Int32 → Int32 → Mem → Option (Int32 × Mem)) (hK60 : ∀ (k0 : Nat) (v1 : Int32) (v3 : Int32) (v4 : Int32) (hk0 : kd k0 = 12) (σ : Mem) (H : Heap) (locs : List Loc) (ls : Array Slot), Hs E s σ H locs → lv_has ls 5 [(0, .ref (ea E k0)), (1, .int v1), (3, .int v3), (4, .int v4)] → K60 k0 v1 v3 v4 σ = some (r, σ') → W p l e (rmD 2) s m args below meth c H locs 0 0 (MQ below (QiM E r σ') args s 0 0 (eA E)) (F0 m 60 ls []))  (k0 : Nat) (v1 : Int32) (v3 : Int32) (v4 : Int32) (hk0 : kd k0 = 12) {σ : Mem} {H : Heap} {locs : List Loc} {ls : Array Slot} (hH : Hs E s σ H locs) (hl : lv_has ls 5 [(0, .ref (ea E k0)), (1, .int v1), (3, .int v3), (4, .int v4)]) (h : X12_row_b60 K60 k0 v1 v3 v4 σ = some (r, σ')) : W p l e (rmD 2) s m args below meth c H locs 0 0 (MQ below (QiM E r σ') args s 0 0 (eA E)) (F0 m 60 ls []) := by
  obtain ⟨⟨hx, hb, hml, hown, hts⟩, hr, hlocks, hF, hAd⟩ := id C0
  unfold X12_row_b60 at h
  refine lv_iload hx hb dX12_row_60 (lv_at hl 3 rfl) ?_
  refine lv_bipush (v := 40) hx hb dX12_row_62 (by decide) ?_
  refine lv_icmp_ge (tgt := 86) hx hb dX12_row_64 (by decide) (fun c1 => ?_) (fun c1 => ?_)
  · replace h := if_t h c1
    refine lv_iload_n hx hb dX12_row_86 rfl (lv_at hl 2 rfl) ?_
    exact r_iret C0 hH (pj1 h) (pj2 h) dX12_row_87
  · replace h := if_f h c1
    refine lv_aload_n hx hb dX12_row_67 rfl (lv_at hl 0 rfl) ?_
    refine gf_X12_16 C0 hH hk0 dX12_row_68 ?_
    refine lv_bipush (v := 40) hx hb dX12_row_71 (by decide) ?_
    refine lv_iload_n hx hb dX12_row_73 rfl (lv_at hl 1 rfl) ?_
    refine lv_imul hx hb dX12_row_74 ?_
    refine lv_iload hx hb dX12_row_75 (lv_at hl 3 rfl) ?_
    refine lv_iadd hx hb dX12_row_77 ?_
    refine lv_iconst (v := 0) hx hb dX12_row_78 (by decide) ?_
    obtain ⟨b2, h⟩ := gdx_s h
    refine r_iast C0 hH (n := 320) (kf_12_3 hk0) b2 dX12_row_79 (fun H locs hH => ?_)
    refine lv_iinc (v := v4 + 1) (lv' := [(4, .int (v4 + 1)), (0, .ref (ea E k0)), (1, .int v1), (3, .int v3)]) hx hb dX12_row_80 hl (k := 3) rfl rfl (by decide) rfl (fun ls hl => ?_)
    refine lv_goto (tgt := 60) hx hb dX12_row_83 (by decide) ?_
    exact hK60 k0 v1 v3 (v4 + 1) hk0 _ _ _ _ hH (lv_sub hl [1, 2, 3, 0] rfl) h
set_option maxRecDepth 100000 in
set_option maxHeartbeats 4000000 in
theorem w_X12_row_l60 {r : Int32} {σ' : Mem} (C0 : Cx E p m c cX12_row 5 s args RX12 meth (some .int))  (n : Nat) : ∀ (k0 : Nat) (v1 : Int32) (v3 : Int32) (v4 : Int32) (hk0 : kd k0 = 12) (σ : Mem) (H : Heap) (locs : List Loc) (ls : Array Slot), Hs E s σ H locs → lv_has ls 5 [(0, .ref (ea E k0)), (1, .int v1), (3, .int v3), (4, .int v4)] → X12_row_l60 n k0 v1 v3 v4 σ = some (r, σ') → W p l e (rmD 2) s m args below meth c H locs 0 0 (MQ below (QiM E r σ') args s 0 0 (eA E)) (F0 m 60 ls []) := by
  induction n with
  | zero =>
    intro k0 v1 v3 v4 hk0 σ H locs ls hH hl h
    cases h
  | succ n ih =>
    intro k0 v1 v3 v4 hk0 σ H locs ls hH hl h
    exact w_X12_row_b60 C0 (X12_row_l60 n)  ih k0 v1 v3 v4 hk0 hH hl h
set_option maxRecDepth 100000 in
set_option maxHeartbeats 4000000 in
theorem w_X12_row_b0 {r : Int32} {σ' : Mem} (C0 : Cx E p m c cX12_row 5 s args RX12 meth (some .int))  (k0 : Nat) (v1 : Int32) (v2 : Int32) (v3 : Int32) (hk0 : kd k0 = 12) {σ : Mem} {H : Heap} {locs : List Loc} {ls : Array Slot} (hH : Hs E s σ H locs) (hl : lv_has ls 5 [(0, .ref (ea E k0)), (1, .int v1), (2, .int v2), (3, .int v3)]) (h : X12_row_b0 k0 v1 v2 v3 σ = some (r, σ')) : W p l e (rmD 2) s m args below meth c H locs 0 0 (MQ below (QiM E r σ') args s 0 0 (eA E)) (F0 m 0 ls []) := by
  obtain ⟨⟨hx, hb, hml, hown, hts⟩, hr, hlocks, hF, hAd⟩ := id C0
  unfold X12_row_b0 at h
  refine lv_iload_n hx hb dX12_row_0 rfl (lv_at hl 1 rfl) ?_
  refine go_i hH (va_run_S (As := [.int v1]) (rest := []) C0 hH lk_X12_79 (c_X12_isRow hAd v1  σ rfl) (by decide) rfl hl.1 rfl (Nat.le_of_ble_eq_true rfl) dX12_row_1) (fun H locs hH => ?_)
  refine lv_if_eq (tgt := 25) hx hb dX12_row_4 (by decide) (fun c1 => ?_) (fun c1 => ?_)
  · replace h := if_t h c1
    refine lv_ldc hx hb hown (hts _ qK_X12_85) dX12_row_25 ?_
    exact r_iret C0 hH (pj1 h) (pj2 h) dX12_row_27
  · replace h := if_f h c1
    refine lv_iload_n hx hb dX12_row_7 rfl (lv_at hl 2 rfl) ?_
    refine lv_i2l (v := Int32.toInt64 v2) hx hb dX12_row_8 rfl ?_
    refine lv_lconst (v := 0) hx hb dX12_row_9 (by decide) ?_
    refine lv_ldc2 hx hb hown (hts _ qL_X12_83) dX12_row_10 ?_
    refine go_i hH (va_run_S (As := [.long (Int32.toInt64 v2), .long 0, .long 2]) (rest := []) C0 hH lk_X12_75 (c_X12_in hAd (Int32.toInt64 v2) 0 2  σ rfl) (by decide) rfl hl.1 rfl (Nat.le_of_ble_eq_true rfl) dX12_row_13) (fun H locs hH => ?_)
    refine lv_if_eq (tgt := 25) hx hb dX12_row_16 (by decide) (fun c2 => ?_) (fun c2 => ?_)
    · replace h := if_t h c2
      refine lv_ldc hx hb hown (hts _ qK_X12_85) dX12_row_25 ?_
      exact r_iret C0 hH (pj1 h) (pj2 h) dX12_row_27
    · replace h := if_f h c2
      refine lv_iload_n hx hb dX12_row_19 rfl (lv_at hl 3 rfl) ?_
      refine lv_bipush (v := 40) hx hb dX12_row_20 (by decide) ?_
      refine lv_icmp_le (tgt := 28) hx hb dX12_row_22 (by decide) (fun c3 => ?_) (fun c3 => ?_)
      · replace h := if_t h c3
        refine lv_aload_n hx hb dX12_row_28 rfl (lv_at hl 0 rfl) ?_
        refine lv_iconst (v := 0) hx hb dX12_row_29 (by decide) ?_
        refine pf_X12_68 C0 hH hk0 dX12_row_30 (fun H locs hH => ?_)
        refine lv_iload_n hx hb dX12_row_33 rfl (lv_at hl 3 rfl) ?_
        refine lv_if_ge (tgt := 43) hx hb dX12_row_34 (by decide) (fun c4 => ?_) (fun c4 => ?_)
        · replace h := if_t h c4
          refine lv_aload_n hx hb dX12_row_43 rfl (lv_at hl 0 rfl) ?_
          refine gf_X12_7 C0 hH hk0 dX12_row_44 ?_
          refine lv_iload_n hx hb dX12_row_47 rfl (lv_at hl 1 rfl) ?_
          refine lv_iload_n hx hb dX12_row_48 rfl (lv_at hl 2 rfl) ?_
          obtain ⟨σ5, eσ5, h⟩ := letv_s h
          replace hH := hs_of eσ5 hH
          obtain ⟨b6, h⟩ := gdx_s h
          refine r_iast C0 hH (n := 8) (kf_12_1 hk0) b6 dX12_row_49 (fun H locs hH => ?_)
          refine lv_aload_n hx hb dX12_row_50 rfl (lv_at hl 0 rfl) ?_
          refine gf_X12_13 C0 hH hk0 dX12_row_51 ?_
          refine lv_iload_n hx hb dX12_row_54 rfl (lv_at hl 1 rfl) ?_
          refine lv_iload_n hx hb dX12_row_55 rfl (lv_at hl 3 rfl) ?_
          obtain ⟨σ7, eσ7, h⟩ := letv_s h
          replace hH := hs_of eσ7 hH
          obtain ⟨b8, h⟩ := gdx_s h
          refine r_iast C0 hH (n := 8) (kf_12_2 hk0) b8 dX12_row_56 (fun H locs hH => ?_)
          refine lv_iconst (v := 0) hx hb dX12_row_57 (by decide) ?_
          refine lv_istore (lv' := [(4, .int 0), (0, .ref (ea E k0)), (1, .int v1), (2, .int v2), (3, .int v3)]) hx hb dX12_row_58 hl (by decide) rfl (fun ls hl => ?_)
          exact w_X12_row_l60 C0  FU k0 v1 v3 0 hk0 _ _ _ _ hH (lv_sub hl [1, 2, 4, 0] rfl) h
        · replace h := if_f h c4
          refine lv_aload_n hx hb dX12_row_37 rfl (lv_at hl 0 rfl) ?_
          refine lv_iconst (v := 4) hx hb dX12_row_38 (by decide) ?_
          obtain ⟨r9, σ10, qr9, h⟩ := ob2_s h
          refine go_i hH (va_run_V (As := [.int 4]) (rest := []) C0 hH lk_X12_86 (c_X12_finding hAd k0 4 hk0 (wr σ k0 0 0) qr9) (by decide) (ci := 12) hk0 (by decide) (cob_12 _ _ _) rfl rfl hl.1 rfl (Nat.le_of_ble_eq_true rfl) dX12_row_39) (fun H locs hH => ?_)
          exact r_iret C0 hH (pj1 h) (pj2 h) dX12_row_42
      · replace h := if_f h c3
        refine lv_ldc hx hb hown (hts _ qK_X12_85) dX12_row_25 ?_
        exact r_iret C0 hH (pj1 h) (pj2 h) dX12_row_27
theorem c_X12_row {l : Launch} {E : EnvT} (hAd : Ad E) (k0 : Nat) (v1 : Int32) (v2 : Int32) (v3 : Int32) (hk0 : kd k0 = 12) (σ : Mem) {r : Int32} {σ' : Mem} (h : X12_row k0 v1 v2 v3 σ = some (r, σ')) : Met l yX12_row (wsM yX12_row cX12_row 5 (some .int)) (rmD 2) (PcM E [.ref (ea E k0), .int v1, .int v2, .int v3] σ) (QiM E r σ') 0 0 (eA E) :=
  Met.ofM (by decide) (Nat.le_of_ble_eq_true rfl) (fun p e s m below meth c ls C0 hH hl => w_X12_row_b0 C0 k0 v1 v2 v3 hk0 hH hl h) hAd
set_option maxRecDepth 100000 in
set_option maxHeartbeats 4000000 in
theorem w_X12_set_b94 {r : Int32} {σ' : Mem} (C0 : Cx E p m c cX12_set 4 s args RX12 meth (some .int))  (k0 : Nat) (v1 : Int32) (v2 : Int32) (s0 : Nat) (s1 : Int32) (s2 : Int32) (hk0 : kd k0 = 12) (hs0 : kd s0 = 420) {σ : Mem} {H : Heap} {locs : List Loc} {ls : Array Slot} (hH : Hs E s σ H locs) (hl : lv_has ls 4 [(0, .ref (ea E k0)), (1, .int v1), (2, .int v2)]) (h : X12_set_b94 k0 v1 v2 s0 s1 s2 σ = some (r, σ')) : W p l e (rmD 2) s m args below meth c H locs 0 0 (MQ below (QiM E r σ') args s 0 0 (eA E)) (F0 m 94 ls [.int s2, .int s1, .ref (ea E s0)]) := by
  obtain ⟨⟨hx, hb, hml, hown, hts⟩, hr, hlocks, hF, hAd⟩ := id C0
  unfold X12_set_b94 at h
  obtain ⟨b1, h⟩ := gdx_s h
  refine r_iast C0 hH (n := 320) hs0 b1 dX12_set_94 (fun H locs hH => ?_)
  refine lv_aload_n hx hb dX12_set_95 rfl (lv_at hl 0 rfl) ?_
  refine gf_X12_16 C0 hH hk0 dX12_set_96 ?_
  refine lv_bipush (v := 40) hx hb dX12_set_99 (by decide) ?_
  refine lv_iload_n hx hb dX12_set_101 rfl (lv_at hl 1 rfl) ?_
  refine lv_imul hx hb dX12_set_102 ?_
  refine lv_iload_n hx hb dX12_set_103 rfl (lv_at hl 2 rfl) ?_
  refine lv_iadd hx hb dX12_set_104 ?_
  obtain ⟨σ2, eσ2, h⟩ := letv_s h
  replace hH := hs_of eσ2 hH
  obtain ⟨b3, h⟩ := gdx_s h
  refine r_iald C0 hH (n := 320) (kf_12_3 hk0) b3 dX12_set_105 ?_
  exact r_iret C0 hH (pj1 h) (pj2 h) dX12_set_106
set_option maxRecDepth 100000 in
set_option maxHeartbeats 4000000 in
theorem w_X12_set_b0 {r : Int32} {σ' : Mem} (C0 : Cx E p m c cX12_set 4 s args RX12 meth (some .int))  (k0 : Nat) (v1 : Int32) (v2 : Int32) (v3 : Int32) (hk0 : kd k0 = 12) {σ : Mem} {H : Heap} {locs : List Loc} {ls : Array Slot} (hH : Hs E s σ H locs) (hl : lv_has ls 4 [(0, .ref (ea E k0)), (1, .int v1), (2, .int v2), (3, .int v3)]) (h : X12_set_b0 k0 v1 v2 v3 σ = some (r, σ')) : W p l e (rmD 2) s m args below meth c H locs 0 0 (MQ below (QiM E r σ') args s 0 0 (eA E)) (F0 m 0 ls []) := by
  obtain ⟨⟨hx, hb, hml, hown, hts⟩, hr, hlocks, hF, hAd⟩ := id C0
  unfold X12_set_b0 at h
  refine lv_iload_n hx hb dX12_set_0 rfl (lv_at hl 1 rfl) ?_
  refine go_i hH (va_run_S (As := [.int v1]) (rest := []) C0 hH lk_X12_79 (c_X12_isRow hAd v1  σ rfl) (by decide) rfl hl.1 rfl (Nat.le_of_ble_eq_true rfl) dX12_set_1) (fun H locs hH => ?_)
  refine lv_if_ne (tgt := 10) hx hb dX12_set_4 (by decide) (fun c1 => ?_) (fun c1 => ?_)
  · replace h := if_f h c1
    refine lv_aload_n hx hb dX12_set_10 rfl (lv_at hl 0 rfl) ?_
    refine lv_iconst (v := 0) hx hb dX12_set_11 (by decide) ?_
    refine pf_X12_68 C0 hH hk0 dX12_set_12 (fun H locs hH => ?_)
    refine lv_aload_n hx hb dX12_set_15 rfl (lv_at hl 0 rfl) ?_
    refine gf_X12_7 C0 hH hk0 dX12_set_16 ?_
    refine lv_iload_n hx hb dX12_set_19 rfl (lv_at hl 1 rfl) ?_
    obtain ⟨σ2, eσ2, h⟩ := letv_s h
    replace hH := hs_of eσ2 hH
    obtain ⟨b3, h⟩ := gdx_s h
    refine r_iald C0 hH (n := 8) (kf_12_1 hk0) b3 dX12_set_20 ?_
    refine lv_if_ge (tgt := 30) hx hb dX12_set_21 (by decide) (fun c4 => ?_) (fun c4 => ?_)
    · replace h := if_t h c4
      refine lv_iload_n hx hb dX12_set_30 rfl (lv_at hl 2 rfl) ?_
      refine lv_i2l (v := Int32.toInt64 v2) hx hb dX12_set_31 rfl ?_
      refine lv_lconst (v := 0) hx hb dX12_set_32 (by decide) ?_
      refine lv_aload_n hx hb dX12_set_33 rfl (lv_at hl 0 rfl) ?_
      refine gf_X12_13 C0 hH hk0 dX12_set_34 ?_
      refine lv_iload_n hx hb dX12_set_37 rfl (lv_at hl 1 rfl) ?_
      obtain ⟨b5, h⟩ := gdx_s h
      refine r_iald C0 hH (n := 8) (kf_12_2 hk0) b5 dX12_set_38 ?_
      refine lv_iconst (v := 1) hx hb dX12_set_39 (by decide) ?_
      refine lv_isub hx hb dX12_set_40 ?_
      refine lv_i2l (v := Int32.toInt64 ((σ2 (k0 + 2) (nc v1)) - 1)) hx hb dX12_set_41 rfl ?_
      refine go_i hH (va_run_S (As := [.long (Int32.toInt64 v2), .long 0, .long (Int32.toInt64 ((σ2 (k0 + 2) (nc v1)) - 1))]) (rest := []) C0 hH lk_X12_75 (c_X12_in hAd (Int32.toInt64 v2) 0 (Int32.toInt64 ((σ2 (k0 + 2) (nc v1)) - 1))  σ2 rfl) (by decide) rfl hl.1 rfl (Nat.le_of_ble_eq_true rfl) dX12_set_42) (fun H locs hH => ?_)
      refine lv_if_ne (tgt := 54) hx hb dX12_set_45 (by decide) (fun c6 => ?_) (fun c6 => ?_)
      · replace h := if_f h c6
        refine lv_aload_n hx hb dX12_set_54 rfl (lv_at hl 0 rfl) ?_
        refine gf_X12_16 C0 hH hk0 dX12_set_55 ?_
        refine lv_bipush (v := 40) hx hb dX12_set_58 (by decide) ?_
        refine lv_iload_n hx hb dX12_set_60 rfl (lv_at hl 1 rfl) ?_
        refine lv_imul hx hb dX12_set_61 ?_
        refine lv_iload_n hx hb dX12_set_62 rfl (lv_at hl 2 rfl) ?_
        refine lv_iadd hx hb dX12_set_63 ?_
        refine lv_aload_n hx hb dX12_set_64 rfl (lv_at hl 0 rfl) ?_
        refine gf_X12_7 C0 hH hk0 dX12_set_65 ?_
        refine lv_iload_n hx hb dX12_set_68 rfl (lv_at hl 1 rfl) ?_
        obtain ⟨b7, h⟩ := gdx_s h
        refine r_iald C0 hH (n := 8) (kf_12_1 hk0) b7 dX12_set_69 ?_
        refine lv_if_ne (tgt := 78) hx hb dX12_set_70 (by decide) (fun c8 => ?_) (fun c8 => ?_)
        · replace h := if_f h c8
          refine lv_aload_n hx hb dX12_set_78 rfl (lv_at hl 0 rfl) ?_
          refine gf_X12_7 C0 hH hk0 dX12_set_79 ?_
          refine lv_iload_n hx hb dX12_set_82 rfl (lv_at hl 1 rfl) ?_
          obtain ⟨b9, h⟩ := gdx_s h
          refine r_iald C0 hH (n := 8) (kf_12_1 hk0) b9 dX12_set_83 ?_
          refine lv_iconst (v := 1) hx hb dX12_set_84 (by decide) ?_
          refine lv_icmp_ne (tgt := 93) hx hb dX12_set_85 (by decide) (fun c10 => ?_) (fun c10 => ?_)
          · replace h := if_f h c10
            refine lv_iload_n hx hb dX12_set_93 rfl (lv_at hl 3 rfl) ?_
            exact w_X12_set_b94 C0  k0 v1 v2 (k0 + 3) ((40 * v1) + v2) v3 hk0 (kf_12_3 hk0) hH (lv_sub hl [0, 1, 2] rfl) h
          · replace h := if_t h c10
            refine lv_iload_n hx hb dX12_set_88 rfl (lv_at hl 3 rfl) ?_
            refine lv_i2s (v := i2s v3) hx hb dX12_set_89 rfl ?_
            refine lv_goto (tgt := 94) hx hb dX12_set_90 (by decide) ?_
            exact w_X12_set_b94 C0  k0 v1 v2 (k0 + 3) ((40 * v1) + v2) (i2s v3) hk0 (kf_12_3 hk0) hH (lv_sub hl [0, 1, 2] rfl) h
        · replace h := if_t h c8
          refine lv_iload_n hx hb dX12_set_73 rfl (lv_at hl 3 rfl) ?_
          refine lv_i2b (v := i2b v3) hx hb dX12_set_74 rfl ?_
          refine lv_goto (tgt := 94) hx hb dX12_set_75 (by decide) ?_
          exact w_X12_set_b94 C0  k0 v1 v2 (k0 + 3) ((40 * v1) + v2) (i2b v3) hk0 (kf_12_3 hk0) hH (lv_sub hl [0, 1, 2] rfl) h
      · replace h := if_t h c6
        refine lv_aload_n hx hb dX12_set_48 rfl (lv_at hl 0 rfl) ?_
        refine lv_iconst (v := 2) hx hb dX12_set_49 (by decide) ?_
        obtain ⟨r11, σ12, qr11, h⟩ := ob2_s h
        refine go_i hH (va_run_V (As := [.int 2]) (rest := []) C0 hH lk_X12_86 (c_X12_finding hAd k0 2 hk0 σ2 qr11) (by decide) (ci := 12) hk0 (by decide) (cob_12 _ _ _) rfl rfl hl.1 rfl (Nat.le_of_ble_eq_true rfl) dX12_set_50) (fun H locs hH => ?_)
        exact r_iret C0 hH (pj1 h) (pj2 h) dX12_set_53
    · replace h := if_f h c4
      refine lv_aload_n hx hb dX12_set_24 rfl (lv_at hl 0 rfl) ?_
      refine lv_iconst (v := 1) hx hb dX12_set_25 (by decide) ?_
      obtain ⟨r13, σ14, qr13, h⟩ := ob2_s h
      refine go_i hH (va_run_V (As := [.int 1]) (rest := []) C0 hH lk_X12_86 (c_X12_finding hAd k0 1 hk0 σ2 qr13) (by decide) (ci := 12) hk0 (by decide) (cob_12 _ _ _) rfl rfl hl.1 rfl (Nat.le_of_ble_eq_true rfl) dX12_set_26) (fun H locs hH => ?_)
      exact r_iret C0 hH (pj1 h) (pj2 h) dX12_set_29
  · replace h := if_t h c1
    refine lv_ldc hx hb hown (hts _ qK_X12_85) dX12_set_7 ?_
    exact r_iret C0 hH (pj1 h) (pj2 h) dX12_set_9
theorem c_X12_set {l : Launch} {E : EnvT} (hAd : Ad E) (k0 : Nat) (v1 : Int32) (v2 : Int32) (v3 : Int32) (hk0 : kd k0 = 12) (σ : Mem) {r : Int32} {σ' : Mem} (h : X12_set k0 v1 v2 v3 σ = some (r, σ')) : Met l yX12_set (wsM yX12_set cX12_set 4 (some .int)) (rmD 2) (PcM E [.ref (ea E k0), .int v1, .int v2, .int v3] σ) (QiM E r σ') 0 0 (eA E) :=
  Met.ofM (by decide) (Nat.le_of_ble_eq_true rfl) (fun p e s m below meth c ls C0 hH hl => w_X12_set_b0 C0 k0 v1 v2 v3 hk0 hH hl h) hAd
set_option maxRecDepth 100000 in
set_option maxHeartbeats 4000000 in
theorem w_X12_copy_b40 {r : Int32} {σ' : Mem} (C0 : Cx E p m c cX12_copy 9 s args RX12 meth (some .int))  (k0 : Nat) (hk0 : kd k0 = 12) {σ : Mem} {H : Heap} {locs : List Loc} {ls : Array Slot} (hH : Hs E s σ H locs) (hl : lv_has ls 9 [(0, .ref (ea E k0))]) (h : X12_copy_b40 k0 σ = some (r, σ')) : W p l e (rmD 2) s m args below meth c H locs 0 0 (MQ below (QiM E r σ') args s 0 0 (eA E)) (F0 m 40 ls []) := by
  obtain ⟨⟨hx, hb, hml, hown, hts⟩, hr, hlocks, hF, hAd⟩ := id C0
  unfold X12_copy_b40 at h
  refine lv_aload_n hx hb dX12_copy_40 rfl (lv_at hl 0 rfl) ?_
  refine lv_iconst (v := 1) hx hb dX12_copy_41 (by decide) ?_
  obtain ⟨r1, σ2, qr1, h⟩ := ob2_s h
  refine go_i hH (va_run_V (As := [.int 1]) (rest := []) C0 hH lk_X12_86 (c_X12_finding hAd k0 1 hk0 σ qr1) (by decide) (ci := 12) hk0 (by decide) (cob_12 _ _ _) rfl rfl hl.1 rfl (Nat.le_of_ble_eq_true rfl) dX12_copy_42) (fun H locs hH => ?_)
  exact r_iret C0 hH (pj1 h) (pj2 h) dX12_copy_45
set_option maxRecDepth 100000 in
set_option maxHeartbeats 4000000 in
theorem w_X12_copy_b116 {r : Int32} {σ' : Mem} (C0 : Cx E p m c cX12_copy 9 s args RX12 meth (some .int))  (k0 : Nat) (hk0 : kd k0 = 12) {σ : Mem} {H : Heap} {locs : List Loc} {ls : Array Slot} (hH : Hs E s σ H locs) (hl : lv_has ls 9 [(0, .ref (ea E k0))]) (h : X12_copy_b116 k0 σ = some (r, σ')) : W p l e (rmD 2) s m args below meth c H locs 0 0 (MQ below (QiM E r σ') args s 0 0 (eA E)) (F0 m 116 ls []) := by
  obtain ⟨⟨hx, hb, hml, hown, hts⟩, hr, hlocks, hF, hAd⟩ := id C0
  unfold X12_copy_b116 at h
  refine lv_aload_n hx hb dX12_copy_116 rfl (lv_at hl 0 rfl) ?_
  refine lv_iconst (v := 2) hx hb dX12_copy_117 (by decide) ?_
  obtain ⟨r1, σ2, qr1, h⟩ := ob2_s h
  refine go_i hH (va_run_V (As := [.int 2]) (rest := []) C0 hH lk_X12_86 (c_X12_finding hAd k0 2 hk0 σ qr1) (by decide) (ci := 12) hk0 (by decide) (cob_12 _ _ _) rfl rfl hl.1 rfl (Nat.le_of_ble_eq_true rfl) dX12_copy_118) (fun H locs hH => ?_)
  exact r_iret C0 hH (pj1 h) (pj2 h) dX12_copy_121
set_option maxRecDepth 100000 in
set_option maxHeartbeats 4000000 in
theorem w_X12_copy_b162 {r : Int32} {σ' : Mem} (C0 : Cx E p m c cX12_copy 9 s args RX12 meth (some .int)) (K138 : Nat → Int32 → Int32 → Int32 → Int32 → Int32 → Int32 → Int32 → Mem → Option (Int32 × Mem)) (hK138 : ∀ (k0 : Nat) (v1 : Int32) (v2 : Int32) (v3 : Int32) (v4 : Int32) (v5 : Int32) (v6 : Int32) (v7 : Int32) (hk0 : kd k0 = 12) (σ : Mem) (H : Heap) (locs : List Loc) (ls : Array Slot), Hs E s σ H locs → lv_has ls 9 [(0, .ref (ea E k0)), (1, .int v1), (2, .int v2), (3, .int v3), (4, .int v4), (5, .int v5), (6, .int v6), (7, .int v7)] → K138 k0 v1 v2 v3 v4 v5 v6 v7 σ = some (r, σ') → W p l e (rmD 2) s m args below meth c H locs 0 0 (MQ below (QiM E r σ') args s 0 0 (eA E)) (F0 m 138 ls []))  (k0 : Nat) (v1 : Int32) (v2 : Int32) (v3 : Int32) (v4 : Int32) (v5 : Int32) (v6 : Int32) (v7 : Int32) (s0 : Int32) (hk0 : kd k0 = 12) {σ : Mem} {H : Heap} {locs : List Loc} {ls : Array Slot} (hH : Hs E s σ H locs) (hl : lv_has ls 9 [(0, .ref (ea E k0)), (1, .int v1), (2, .int v2), (3, .int v3), (4, .int v4), (5, .int v5), (6, .int v6), (7, .int v7)]) (h : X12_copy_b162 K138 k0 v1 v2 v3 v4 v5 v6 v7 s0 σ = some (r, σ')) : W p l e (rmD 2) s m args below meth c H locs 0 0 (MQ below (QiM E r σ') args s 0 0 (eA E)) (F0 m 162 ls [.int s0]) := by
  obtain ⟨⟨hx, hb, hml, hown, hts⟩, hr, hlocks, hF, hAd⟩ := id C0
  unfold X12_copy_b162 at h
  refine lv_istore (lv' := [(8, .int s0), (0, .ref (ea E k0)), (1, .int v1), (2, .int v2), (3, .int v3), (4, .int v4), (5, .int v5), (6, .int v6), (7, .int v7)]) hx hb dX12_copy_162 hl (by decide) rfl (fun ls hl => ?_)
  refine lv_aload_n hx hb dX12_copy_164 rfl (lv_at hl 1 rfl) ?_
  refine gf_X12_16 C0 hH hk0 dX12_copy_165 ?_
  refine lv_bipush (v := 40) hx hb dX12_copy_168 (by decide) ?_
  refine lv_iload_n hx hb dX12_copy_170 rfl (lv_at hl 4 rfl) ?_
  refine lv_imul hx hb dX12_copy_171 ?_
  refine lv_iload hx hb dX12_copy_172 (lv_at hl 5 rfl) ?_
  refine lv_iadd hx hb dX12_copy_174 ?_
  refine lv_iload hx hb dX12_copy_175 (lv_at hl 0 rfl) ?_
  refine lv_iadd hx hb dX12_copy_177 ?_
  refine lv_aload_n hx hb dX12_copy_178 rfl (lv_at hl 1 rfl) ?_
  refine gf_X12_16 C0 hH hk0 dX12_copy_179 ?_
  refine lv_bipush (v := 40) hx hb dX12_copy_182 (by decide) ?_
  refine lv_iload_n hx hb dX12_copy_184 rfl (lv_at hl 2 rfl) ?_
  refine lv_imul hx hb dX12_copy_185 ?_
  refine lv_iload_n hx hb dX12_copy_186 rfl (lv_at hl 3 rfl) ?_
  refine lv_iadd hx hb dX12_copy_187 ?_
  refine lv_iload hx hb dX12_copy_188 (lv_at hl 0 rfl) ?_
  refine lv_iadd hx hb dX12_copy_190 ?_
  obtain ⟨b1, h⟩ := gdx_s h
  refine r_iald C0 hH (n := 320) (kf_12_3 hk0) b1 dX12_copy_191 ?_
  obtain ⟨b2, h⟩ := gdx_s h
  refine r_iast C0 hH (n := 320) (kf_12_3 hk0) b2 dX12_copy_192 (fun H locs hH => ?_)
  refine lv_iinc (v := v7 + 1) (lv' := [(7, .int (v7 + 1)), (8, .int s0), (0, .ref (ea E k0)), (1, .int v1), (2, .int v2), (3, .int v3), (4, .int v4), (5, .int v5), (6, .int v6)]) hx hb dX12_copy_193 hl (k := 8) rfl rfl (by decide) rfl (fun ls hl => ?_)
  refine lv_goto (tgt := 138) hx hb dX12_copy_196 (by decide) ?_
  exact hK138 k0 v1 v2 v3 v4 v5 v6 (v7 + 1) hk0 _ _ _ _ hH (lv_sub hl [2, 3, 4, 5, 6, 7, 8, 0] rfl) h
set_option maxRecDepth 100000 in
set_option maxHeartbeats 4000000 in
theorem w_X12_copy_b138 {r : Int32} {σ' : Mem} (C0 : Cx E p m c cX12_copy 9 s args RX12 meth (some .int)) (K138 : Nat → Int32 → Int32 → Int32 → Int32 → Int32 → Int32 → Int32 → Mem → Option (Int32 × Mem)) (hK138 : ∀ (k0 : Nat) (v1 : Int32) (v2 : Int32) (v3 : Int32) (v4 : Int32) (v5 : Int32) (v6 : Int32) (v7 : Int32) (hk0 : kd k0 = 12) (σ : Mem) (H : Heap) (locs : List Loc) (ls : Array Slot), Hs E s σ H locs → lv_has ls 9 [(0, .ref (ea E k0)), (1, .int v1), (2, .int v2), (3, .int v3), (4, .int v4), (5, .int v5), (6, .int v6), (7, .int v7)] → K138 k0 v1 v2 v3 v4 v5 v6 v7 σ = some (r, σ') → W p l e (rmD 2) s m args below meth c H locs 0 0 (MQ below (QiM E r σ') args s 0 0 (eA E)) (F0 m 138 ls []))  (k0 : Nat) (v1 : Int32) (v2 : Int32) (v3 : Int32) (v4 : Int32) (v5 : Int32) (v6 : Int32) (v7 : Int32) (hk0 : kd k0 = 12) {σ : Mem} {H : Heap} {locs : List Loc} {ls : Array Slot} (hH : Hs E s σ H locs) (hl : lv_has ls 9 [(0, .ref (ea E k0)), (1, .int v1), (2, .int v2), (3, .int v3), (4, .int v4), (5, .int v5), (6, .int v6), (7, .int v7)]) (h : X12_copy_b138 K138 k0 v1 v2 v3 v4 v5 v6 v7 σ = some (r, σ')) : W p l e (rmD 2) s m args below meth c H locs 0 0 (MQ below (QiM E r σ') args s 0 0 (eA E)) (F0 m 138 ls []) := by
  obtain ⟨⟨hx, hb, hml, hown, hts⟩, hr, hlocks, hF, hAd⟩ := id C0
  unfold X12_copy_b138 at h
  refine lv_iload hx hb dX12_copy_138 (lv_at hl 7 rfl) ?_
  refine lv_iload hx hb dX12_copy_140 (lv_at hl 5 rfl) ?_
  refine lv_icmp_ge (tgt := 199) hx hb dX12_copy_142 (by decide) (fun c1 => ?_) (fun c1 => ?_)
  · replace h := if_t h c1
    refine lv_iload hx hb dX12_copy_199 (lv_at hl 5 rfl) ?_
    exact r_iret C0 hH (pj1 h) (pj2 h) dX12_copy_201
  · replace h := if_f h c1
    refine lv_iload hx hb dX12_copy_145 (lv_at hl 6 rfl) ?_
    refine lv_if_eq (tgt := 155) hx hb dX12_copy_147 (by decide) (fun c2 => ?_) (fun c2 => ?_)
    · replace h := if_t h c2
      refine lv_iload hx hb dX12_copy_155 (lv_at hl 5 rfl) ?_
      refine lv_iconst (v := 1) hx hb dX12_copy_157 (by decide) ?_
      refine lv_isub hx hb dX12_copy_158 ?_
      refine lv_iload hx hb dX12_copy_159 (lv_at hl 7 rfl) ?_
      refine lv_isub hx hb dX12_copy_161 ?_
      exact w_X12_copy_b162 C0 K138 hK138 k0 v1 v2 v3 v4 v5 v6 v7 ((v5 - 1) - v7) hk0 hH (lv_sub hl [0, 1, 2, 3, 4, 5, 6, 7] rfl) h
    · replace h := if_f h c2
      refine lv_iload hx hb dX12_copy_150 (lv_at hl 7 rfl) ?_
      refine lv_goto (tgt := 162) hx hb dX12_copy_152 (by decide) ?_
      exact w_X12_copy_b162 C0 K138 hK138 k0 v1 v2 v3 v4 v5 v6 v7 v7 hk0 hH (lv_sub hl [0, 1, 2, 3, 4, 5, 6, 7] rfl) h
set_option maxRecDepth 100000 in
set_option maxHeartbeats 4000000 in
theorem w_X12_copy_l138 {r : Int32} {σ' : Mem} (C0 : Cx E p m c cX12_copy 9 s args RX12 meth (some .int))  (n : Nat) : ∀ (k0 : Nat) (v1 : Int32) (v2 : Int32) (v3 : Int32) (v4 : Int32) (v5 : Int32) (v6 : Int32) (v7 : Int32) (hk0 : kd k0 = 12) (σ : Mem) (H : Heap) (locs : List Loc) (ls : Array Slot), Hs E s σ H locs → lv_has ls 9 [(0, .ref (ea E k0)), (1, .int v1), (2, .int v2), (3, .int v3), (4, .int v4), (5, .int v5), (6, .int v6), (7, .int v7)] → X12_copy_l138 n k0 v1 v2 v3 v4 v5 v6 v7 σ = some (r, σ') → W p l e (rmD 2) s m args below meth c H locs 0 0 (MQ below (QiM E r σ') args s 0 0 (eA E)) (F0 m 138 ls []) := by
  induction n with
  | zero =>
    intro k0 v1 v2 v3 v4 v5 v6 v7 hk0 σ H locs ls hH hl h
    cases h
  | succ n ih =>
    intro k0 v1 v2 v3 v4 v5 v6 v7 hk0 σ H locs ls hH hl h
    exact w_X12_copy_b138 C0 (X12_copy_l138 n)  ih k0 v1 v2 v3 v4 v5 v6 v7 hk0 hH hl h
set_option maxRecDepth 100000 in
set_option maxHeartbeats 4000000 in
theorem w_X12_copy_b133 {r : Int32} {σ' : Mem} (C0 : Cx E p m c cX12_copy 9 s args RX12 meth (some .int))  (k0 : Nat) (v1 : Int32) (v2 : Int32) (v3 : Int32) (v4 : Int32) (v5 : Int32) (s0 : Int32) (hk0 : kd k0 = 12) {σ : Mem} {H : Heap} {locs : List Loc} {ls : Array Slot} (hH : Hs E s σ H locs) (hl : lv_has ls 9 [(0, .ref (ea E k0)), (1, .int v1), (2, .int v2), (3, .int v3), (4, .int v4), (5, .int v5)]) (h : X12_copy_b133 k0 v1 v2 v3 v4 v5 s0 σ = some (r, σ')) : W p l e (rmD 2) s m args below meth c H locs 0 0 (MQ below (QiM E r σ') args s 0 0 (eA E)) (F0 m 133 ls [.int s0]) := by
  obtain ⟨⟨hx, hb, hml, hown, hts⟩, hr, hlocks, hF, hAd⟩ := id C0
  unfold X12_copy_b133 at h
  refine lv_istore (lv' := [(6, .int s0), (0, .ref (ea E k0)), (1, .int v1), (2, .int v2), (3, .int v3), (4, .int v4), (5, .int v5)]) hx hb dX12_copy_133 hl (by decide) rfl (fun ls hl => ?_)
  refine lv_iconst (v := 0) hx hb dX12_copy_135 (by decide) ?_
  refine lv_istore (lv' := [(7, .int 0), (6, .int s0), (0, .ref (ea E k0)), (1, .int v1), (2, .int v2), (3, .int v3), (4, .int v4), (5, .int v5)]) hx hb dX12_copy_136 hl (by decide) rfl (fun ls hl => ?_)
  exact w_X12_copy_l138 C0  FU k0 v1 v2 v3 v4 v5 s0 0 hk0 _ _ _ _ hH (lv_sub hl [2, 3, 4, 5, 6, 7, 1, 0] rfl) h
set_option maxRecDepth 100000 in
set_option maxHeartbeats 4000000 in
theorem w_X12_copy_b0 {r : Int32} {σ' : Mem} (C0 : Cx E p m c cX12_copy 9 s args RX12 meth (some .int))  (k0 : Nat) (v1 : Int32) (v2 : Int32) (v3 : Int32) (v4 : Int32) (v5 : Int32) (hk0 : kd k0 = 12) {σ : Mem} {H : Heap} {locs : List Loc} {ls : Array Slot} (hH : Hs E s σ H locs) (hl : lv_has ls 9 [(0, .ref (ea E k0)), (1, .int v1), (2, .int v2), (3, .int v3), (4, .int v4), (5, .int v5)]) (h : X12_copy_b0 k0 v1 v2 v3 v4 v5 σ = some (r, σ')) : W p l e (rmD 2) s m args below meth c H locs 0 0 (MQ below (QiM E r σ') args s 0 0 (eA E)) (F0 m 0 ls []) := by
  obtain ⟨⟨hx, hb, hml, hown, hts⟩, hr, hlocks, hF, hAd⟩ := id C0
  unfold X12_copy_b0 at h
  refine lv_iload_n hx hb dX12_copy_0 rfl (lv_at hl 1 rfl) ?_
  refine go_i hH (va_run_S (As := [.int v1]) (rest := []) C0 hH lk_X12_79 (c_X12_isRow hAd v1  σ rfl) (by decide) rfl hl.1 rfl (Nat.le_of_ble_eq_true rfl) dX12_copy_1) (fun H locs hH => ?_)
  refine lv_if_eq (tgt := 14) hx hb dX12_copy_4 (by decide) (fun c1 => ?_) (fun c1 => ?_)
  · replace h := if_t h c1
    refine lv_ldc hx hb hown (hts _ qK_X12_85) dX12_copy_14 ?_
    exact r_iret C0 hH (pj1 h) (pj2 h) dX12_copy_16
  · replace h := if_f h c1
    refine lv_iload_n hx hb dX12_copy_7 rfl (lv_at hl 3 rfl) ?_
    refine go_i hH (va_run_S (As := [.int v3]) (rest := []) C0 hH lk_X12_79 (c_X12_isRow hAd v3  σ rfl) (by decide) rfl hl.1 rfl (Nat.le_of_ble_eq_true rfl) dX12_copy_8) (fun H locs hH => ?_)
    refine lv_if_ne (tgt := 17) hx hb dX12_copy_11 (by decide) (fun c2 => ?_) (fun c2 => ?_)
    · replace h := if_f h c2
      refine lv_aload_n hx hb dX12_copy_17 rfl (lv_at hl 0 rfl) ?_
      refine lv_iconst (v := 0) hx hb dX12_copy_18 (by decide) ?_
      refine pf_X12_68 C0 hH hk0 dX12_copy_19 (fun H locs hH => ?_)
      refine lv_aload_n hx hb dX12_copy_22 rfl (lv_at hl 0 rfl) ?_
      refine gf_X12_7 C0 hH hk0 dX12_copy_23 ?_
      refine lv_iload_n hx hb dX12_copy_26 rfl (lv_at hl 1 rfl) ?_
      obtain ⟨σ3, eσ3, h⟩ := letv_s h
      replace hH := hs_of eσ3 hH
      obtain ⟨b4, h⟩ := gdx_s h
      refine r_iald C0 hH (n := 8) (kf_12_1 hk0) b4 dX12_copy_27 ?_
      refine lv_if_lt (tgt := 40) hx hb dX12_copy_28 (by decide) (fun c5 => ?_) (fun c5 => ?_)
      · replace h := if_t h c5
        exact w_X12_copy_b40 C0  k0 hk0 hH (lv_sub hl [0] rfl) h
      · replace h := if_f h c5
        refine lv_aload_n hx hb dX12_copy_31 rfl (lv_at hl 0 rfl) ?_
        refine gf_X12_7 C0 hH hk0 dX12_copy_32 ?_
        refine lv_iload_n hx hb dX12_copy_35 rfl (lv_at hl 3 rfl) ?_
        obtain ⟨b6, h⟩ := gdx_s h
        refine r_iald C0 hH (n := 8) (kf_12_1 hk0) b6 dX12_copy_36 ?_
        refine lv_if_ge (tgt := 46) hx hb dX12_copy_37 (by decide) (fun c7 => ?_) (fun c7 => ?_)
        · replace h := if_t h c7
          refine lv_aload_n hx hb dX12_copy_46 rfl (lv_at hl 0 rfl) ?_
          refine gf_X12_7 C0 hH hk0 dX12_copy_47 ?_
          refine lv_iload_n hx hb dX12_copy_50 rfl (lv_at hl 1 rfl) ?_
          obtain ⟨b8, h⟩ := gdx_s h
          refine r_iald C0 hH (n := 8) (kf_12_1 hk0) b8 dX12_copy_51 ?_
          refine lv_aload_n hx hb dX12_copy_52 rfl (lv_at hl 0 rfl) ?_
          refine gf_X12_7 C0 hH hk0 dX12_copy_53 ?_
          refine lv_iload_n hx hb dX12_copy_56 rfl (lv_at hl 3 rfl) ?_
          obtain ⟨b9, h⟩ := gdx_s h
          refine r_iald C0 hH (n := 8) (kf_12_1 hk0) b9 dX12_copy_57 ?_
          refine lv_icmp_eq (tgt := 67) hx hb dX12_copy_58 (by decide) (fun c10 => ?_) (fun c10 => ?_)
          · replace h := if_t h c10
            refine lv_iload_n hx hb dX12_copy_67 rfl (lv_at hl 2 rfl) ?_
            refine lv_if_lt (tgt := 116) hx hb dX12_copy_68 (by decide) (fun c11 => ?_) (fun c11 => ?_)
            · replace h := if_t h c11
              exact w_X12_copy_b116 C0  k0 hk0 hH (lv_sub hl [0] rfl) h
            · replace h := if_f h c11
              refine lv_iload hx hb dX12_copy_71 (lv_at hl 4 rfl) ?_
              refine lv_if_lt (tgt := 116) hx hb dX12_copy_73 (by decide) (fun c12 => ?_) (fun c12 => ?_)
              · replace h := if_t h c12
                exact w_X12_copy_b116 C0  k0 hk0 hH (lv_sub hl [0] rfl) h
              · replace h := if_f h c12
                refine lv_iload hx hb dX12_copy_76 (lv_at hl 5 rfl) ?_
                refine lv_if_lt (tgt := 116) hx hb dX12_copy_78 (by decide) (fun c13 => ?_) (fun c13 => ?_)
                · replace h := if_t h c13
                  exact w_X12_copy_b116 C0  k0 hk0 hH (lv_sub hl [0] rfl) h
                · replace h := if_f h c13
                  refine lv_iload_n hx hb dX12_copy_81 rfl (lv_at hl 2 rfl) ?_
                  refine lv_i2l (v := Int32.toInt64 v2) hx hb dX12_copy_82 rfl ?_
                  refine lv_iload hx hb dX12_copy_83 (lv_at hl 5 rfl) ?_
                  refine lv_i2l (v := Int32.toInt64 v5) hx hb dX12_copy_85 rfl ?_
                  refine lv_ladd hx hb dX12_copy_86 ?_
                  refine lv_aload_n hx hb dX12_copy_87 rfl (lv_at hl 0 rfl) ?_
                  refine gf_X12_13 C0 hH hk0 dX12_copy_88 ?_
                  refine lv_iload_n hx hb dX12_copy_91 rfl (lv_at hl 1 rfl) ?_
                  obtain ⟨b14, h⟩ := gdx_s h
                  refine r_iald C0 hH (n := 8) (kf_12_2 hk0) b14 dX12_copy_92 ?_
                  refine lv_i2l (v := Int32.toInt64 (σ3 (k0 + 2) (nc v1))) hx hb dX12_copy_93 rfl ?_
                  refine W.lcmp hx hb dX12_copy_94 ?_
                  refine lv_if_gt (tgt := 116) hx hb dX12_copy_95 (by decide) (fun c15 => ?_) (fun c15 => ?_)
                  · replace h := if_t h c15
                    exact w_X12_copy_b116 C0  k0 hk0 hH (lv_sub hl [0] rfl) h
                  · replace h := if_f h c15
                    refine lv_iload hx hb dX12_copy_98 (lv_at hl 4 rfl) ?_
                    refine lv_i2l (v := Int32.toInt64 v4) hx hb dX12_copy_100 rfl ?_
                    refine lv_iload hx hb dX12_copy_101 (lv_at hl 5 rfl) ?_
                    refine lv_i2l (v := Int32.toInt64 v5) hx hb dX12_copy_103 rfl ?_
                    refine lv_ladd hx hb dX12_copy_104 ?_
                    refine lv_aload_n hx hb dX12_copy_105 rfl (lv_at hl 0 rfl) ?_
                    refine gf_X12_13 C0 hH hk0 dX12_copy_106 ?_
                    refine lv_iload_n hx hb dX12_copy_109 rfl (lv_at hl 3 rfl) ?_
                    obtain ⟨b16, h⟩ := gdx_s h
                    refine r_iald C0 hH (n := 8) (kf_12_2 hk0) b16 dX12_copy_110 ?_
                    refine lv_i2l (v := Int32.toInt64 (σ3 (k0 + 2) (nc v3))) hx hb dX12_copy_111 rfl ?_
                    refine W.lcmp hx hb dX12_copy_112 ?_
                    refine lv_if_le (tgt := 122) hx hb dX12_copy_113 (by decide) (fun c17 => ?_) (fun c17 => ?_)
                    · replace h := if_t h c17
                      refine lv_iload_n hx hb dX12_copy_122 rfl (lv_at hl 2 rfl) ?_
                      refine lv_iload hx hb dX12_copy_123 (lv_at hl 4 rfl) ?_
                      refine lv_icmp_lt (tgt := 132) hx hb dX12_copy_125 (by decide) (fun c18 => ?_) (fun c18 => ?_)
                      · replace h := if_t h c18
                        refine lv_iconst (v := 0) hx hb dX12_copy_132 (by decide) ?_
                        exact w_X12_copy_b133 C0  k0 v1 v2 v3 v4 v5 0 hk0 hH (lv_sub hl [0, 1, 2, 3, 4, 5] rfl) h
                      · replace h := if_f h c18
                        refine lv_iconst (v := 1) hx hb dX12_copy_128 (by decide) ?_
                        refine lv_goto (tgt := 133) hx hb dX12_copy_129 (by decide) ?_
                        exact w_X12_copy_b133 C0  k0 v1 v2 v3 v4 v5 1 hk0 hH (lv_sub hl [0, 1, 2, 3, 4, 5] rfl) h
                    · replace h := if_f h c17
                      exact w_X12_copy_b116 C0  k0 hk0 hH (lv_sub hl [0] rfl) h
          · replace h := if_f h c10
            refine lv_aload_n hx hb dX12_copy_61 rfl (lv_at hl 0 rfl) ?_
            refine lv_iconst (v := 5) hx hb dX12_copy_62 (by decide) ?_
            obtain ⟨r19, σ20, qr19, h⟩ := ob2_s h
            refine go_i hH (va_run_V (As := [.int 5]) (rest := []) C0 hH lk_X12_86 (c_X12_finding hAd k0 5 hk0 σ3 qr19) (by decide) (ci := 12) hk0 (by decide) (cob_12 _ _ _) rfl rfl hl.1 rfl (Nat.le_of_ble_eq_true rfl) dX12_copy_63) (fun H locs hH => ?_)
            exact r_iret C0 hH (pj1 h) (pj2 h) dX12_copy_66
        · replace h := if_f h c7
          exact w_X12_copy_b40 C0  k0 hk0 hH (lv_sub hl [0] rfl) h
    · replace h := if_t h c2
      refine lv_ldc hx hb hown (hts _ qK_X12_85) dX12_copy_14 ?_
      exact r_iret C0 hH (pj1 h) (pj2 h) dX12_copy_16
theorem c_X12_copy {l : Launch} {E : EnvT} (hAd : Ad E) (k0 : Nat) (v1 : Int32) (v2 : Int32) (v3 : Int32) (v4 : Int32) (v5 : Int32) (hk0 : kd k0 = 12) (σ : Mem) {r : Int32} {σ' : Mem} (h : X12_copy k0 v1 v2 v3 v4 v5 σ = some (r, σ')) : Met l yX12_copy (wsM yX12_copy cX12_copy 9 (some .int)) (rmD 2) (PcM E [.ref (ea E k0), .int v1, .int v2, .int v3, .int v4, .int v5] σ) (QiM E r σ') 0 0 (eA E) :=
  Met.ofM (by decide) (Nat.le_of_ble_eq_true rfl) (fun p e s m below meth c ls C0 hH hl => w_X12_copy_b0 C0 k0 v1 v2 v3 v4 v5 hk0 hH hl h) hAd
set_option maxRecDepth 100000 in
set_option maxHeartbeats 4000000 in
theorem w_X12_drop_b0 {r : Int32} {σ' : Mem} (C0 : Cx E p m c cX12_drop 2 s args RX12 meth (some .int))  (k0 : Nat) (v1 : Int32) (hk0 : kd k0 = 12) {σ : Mem} {H : Heap} {locs : List Loc} {ls : Array Slot} (hH : Hs E s σ H locs) (hl : lv_has ls 2 [(0, .ref (ea E k0)), (1, .int v1)]) (h : X12_drop_b0 k0 v1 σ = some (r, σ')) : W p l e (rmD 2) s m args below meth c H locs 0 0 (MQ below (QiM E r σ') args s 0 0 (eA E)) (F0 m 0 ls []) := by
  obtain ⟨⟨hx, hb, hml, hown, hts⟩, hr, hlocks, hF, hAd⟩ := id C0
  unfold X12_drop_b0 at h
  refine lv_iload_n hx hb dX12_drop_0 rfl (lv_at hl 1 rfl) ?_
  refine go_i hH (va_run_S (As := [.int v1]) (rest := []) C0 hH lk_X12_79 (c_X12_isRow hAd v1  σ rfl) (by decide) rfl hl.1 rfl (Nat.le_of_ble_eq_true rfl) dX12_drop_1) (fun H locs hH => ?_)
  refine lv_if_ne (tgt := 10) hx hb dX12_drop_4 (by decide) (fun c1 => ?_) (fun c1 => ?_)
  · replace h := if_f h c1
    refine lv_aload_n hx hb dX12_drop_10 rfl (lv_at hl 0 rfl) ?_
    refine lv_iconst (v := 0) hx hb dX12_drop_11 (by decide) ?_
    refine pf_X12_68 C0 hH hk0 dX12_drop_12 (fun H locs hH => ?_)
    refine lv_aload_n hx hb dX12_drop_15 rfl (lv_at hl 0 rfl) ?_
    refine gf_X12_7 C0 hH hk0 dX12_drop_16 ?_
    refine lv_iload_n hx hb dX12_drop_19 rfl (lv_at hl 1 rfl) ?_
    obtain ⟨σ2, eσ2, h⟩ := letv_s h
    replace hH := hs_of eσ2 hH
    obtain ⟨b3, h⟩ := gdx_s h
    refine r_iald C0 hH (n := 8) (kf_12_1 hk0) b3 dX12_drop_20 ?_
    refine lv_if_ge (tgt := 30) hx hb dX12_drop_21 (by decide) (fun c4 => ?_) (fun c4 => ?_)
    · replace h := if_t h c4
      refine lv_aload_n hx hb dX12_drop_30 rfl (lv_at hl 0 rfl) ?_
      refine gf_X12_7 C0 hH hk0 dX12_drop_31 ?_
      refine lv_iload_n hx hb dX12_drop_34 rfl (lv_at hl 1 rfl) ?_
      refine lv_iconst (v := (-1)) hx hb dX12_drop_35 (by decide) ?_
      obtain ⟨b5, h⟩ := gdx_s h
      refine r_iast C0 hH (n := 8) (kf_12_1 hk0) b5 dX12_drop_36 (fun H locs hH => ?_)
      refine lv_aload_n hx hb dX12_drop_37 rfl (lv_at hl 0 rfl) ?_
      refine gf_X12_13 C0 hH hk0 dX12_drop_38 ?_
      refine lv_iload_n hx hb dX12_drop_41 rfl (lv_at hl 1 rfl) ?_
      obtain ⟨σ6, eσ6, h⟩ := letv_s h
      replace hH := hs_of eσ6 hH
      obtain ⟨b7, h⟩ := gdx_s h
      refine r_iald C0 hH (n := 8) (kf_12_2 hk0) b7 dX12_drop_42 ?_
      exact r_iret C0 hH (pj1 h) (pj2 h) dX12_drop_43
    · replace h := if_f h c4
      refine lv_aload_n hx hb dX12_drop_24 rfl (lv_at hl 0 rfl) ?_
      refine lv_iconst (v := 1) hx hb dX12_drop_25 (by decide) ?_
      obtain ⟨r8, σ9, qr8, h⟩ := ob2_s h
      refine go_i hH (va_run_V (As := [.int 1]) (rest := []) C0 hH lk_X12_86 (c_X12_finding hAd k0 1 hk0 σ2 qr8) (by decide) (ci := 12) hk0 (by decide) (cob_12 _ _ _) rfl rfl hl.1 rfl (Nat.le_of_ble_eq_true rfl) dX12_drop_26) (fun H locs hH => ?_)
      exact r_iret C0 hH (pj1 h) (pj2 h) dX12_drop_29
  · replace h := if_t h c1
    refine lv_ldc hx hb hown (hts _ qK_X12_85) dX12_drop_7 ?_
    exact r_iret C0 hH (pj1 h) (pj2 h) dX12_drop_9
theorem c_X12_drop {l : Launch} {E : EnvT} (hAd : Ad E) (k0 : Nat) (v1 : Int32) (hk0 : kd k0 = 12) (σ : Mem) {r : Int32} {σ' : Mem} (h : X12_drop k0 v1 σ = some (r, σ')) : Met l yX12_drop (wsM yX12_drop cX12_drop 2 (some .int)) (rmD 2) (PcM E [.ref (ea E k0), .int v1] σ) (QiM E r σ') 0 0 (eA E) :=
  Met.ofM (by decide) (Nat.le_of_ble_eq_true rfl) (fun p e s m below meth c ls C0 hH hl => w_X12_drop_b0 C0 k0 v1 hk0 hH hl h) hAd
set_option maxRecDepth 100000 in
set_option maxHeartbeats 4000000 in
theorem w_X12_isThere_b0 {r : Int32} (C0 : Cx E p m c cX12_isThere 1 s args RX12 meth (some .boolean))  (k0 : Nat) (hk0 : kd k0 = 12) {σ : Mem} {H : Heap} {locs : List Loc} {ls : Array Slot} (hH : Hs E s σ H locs) (hl : lv_has ls 1 [(0, .ref (ea E k0))]) (h : X12_isThere_b0 k0 σ = some r) : W p l e (rmD 0) s m args below meth c H locs 0 0 (MQ below (QiM E r σ) args s 0 0 (eA E)) (F0 m 0 ls []) := by
  obtain ⟨⟨hx, hb, hml, hown, hts⟩, hr, hlocks, hF, hAd⟩ := id C0
  unfold X12_isThere_b0 at h
  refine lv_aload_n hx hb dX12_isThere_0 rfl (lv_at hl 0 rfl) ?_
  refine gf_X12_19 C0 hH hk0 dX12_isThere_1 ?_
  refine lv_iconst (v := 0) hx hb dX12_isThere_4 (by decide) ?_
  refine r_iald C0 hH (n := 43) (kf_12_4 hk0) (vin (by decide)) dX12_isThere_5 ?_
  refine lv_if_le (tgt := 13) hx hb dX12_isThere_6 (by decide) (fun c1 => ?_) (fun c1 => ?_)
  · replace h := if_t h c1
    refine lv_iconst (v := 0) hx hb dX12_isThere_13 (by decide) ?_
    exact r_zret C0 rfl hH (Option.some.inj h) rfl dX12_isThere_14
  · replace h := if_f h c1
    refine lv_iconst (v := 1) hx hb dX12_isThere_9 (by decide) ?_
    refine lv_goto (tgt := 14) hx hb dX12_isThere_10 (by decide) ?_
    exact r_zret C0 rfl hH (Option.some.inj h) rfl dX12_isThere_14
theorem c_X12_isThere {l : Launch} {E : EnvT} (hAd : Ad E) (k0 : Nat) (hk0 : kd k0 = 12) (σ : Mem) {r : Int32} (h : X12_isThere k0 σ = some r) : Met l yX12_isThere (wsM yX12_isThere cX12_isThere 1 (some .boolean)) (rmD 0) (PcM E [.ref (ea E k0)] σ) (QiM E r σ) 0 0 (eA E) :=
  Met.ofM (by decide) (Nat.le_of_ble_eq_true rfl) (fun p e s m below meth c ls C0 hH hl => w_X12_isThere_b0 C0 k0 hk0 hH hl h) hAd
set_option maxRecDepth 100000 in
set_option maxHeartbeats 4000000 in
theorem w_X12_isPage_b0 {r : Int32} (C0 : Cx E p m c cX12_isPage 2 s args RX12 meth (some .boolean))  (k0 : Nat) (v1 : Int32) (hk0 : kd k0 = 12) {σ : Mem} {H : Heap} {locs : List Loc} {ls : Array Slot} (hH : Hs E s σ H locs) (hl : lv_has ls 2 [(0, .ref (ea E k0)), (1, .int v1)]) (h : X12_isPage_b0 k0 v1 σ = some r) : W p l e (rmD 1) s m args below meth c H locs 0 0 (MQ below (QiM E r σ) args s 0 0 (eA E)) (F0 m 0 ls []) := by
  obtain ⟨⟨hx, hb, hml, hown, hts⟩, hr, hlocks, hF, hAd⟩ := id C0
  unfold X12_isPage_b0 at h
  refine lv_iload_n hx hb dX12_isPage_0 rfl (lv_at hl 1 rfl) ?_
  refine lv_i2l (v := Int32.toInt64 v1) hx hb dX12_isPage_1 rfl ?_
  refine lv_lconst (v := 0) hx hb dX12_isPage_2 (by decide) ?_
  refine lv_aload_n hx hb dX12_isPage_3 rfl (lv_at hl 0 rfl) ?_
  refine gf_X12_19 C0 hH hk0 dX12_isPage_4 ?_
  refine lv_iconst (v := 0) hx hb dX12_isPage_7 (by decide) ?_
  refine r_iald C0 hH (n := 43) (kf_12_4 hk0) (vin (by decide)) dX12_isPage_8 ?_
  refine lv_iconst (v := 1) hx hb dX12_isPage_9 (by decide) ?_
  refine lv_isub hx hb dX12_isPage_10 ?_
  refine lv_i2l (v := Int32.toInt64 ((σ (k0 + 4) (nc 0)) - 1)) hx hb dX12_isPage_11 rfl ?_
  refine go_i hH (va_run_S (As := [.long (Int32.toInt64 v1), .long 0, .long (Int32.toInt64 ((σ (k0 + 4) (nc 0)) - 1))]) (rest := []) C0 hH lk_X12_75 (c_X12_in hAd (Int32.toInt64 v1) 0 (Int32.toInt64 ((σ (k0 + 4) (nc 0)) - 1))  σ rfl) (by decide) rfl hl.1 rfl (Nat.le_of_ble_eq_true rfl) dX12_isPage_12) (fun H locs hH => ?_)
  obtain ⟨z1, h⟩ := gdb_s h
  exact r_zret C0 (bit_nar z1) hH (Option.some.inj h) rfl dX12_isPage_15
theorem c_X12_isPage {l : Launch} {E : EnvT} (hAd : Ad E) (k0 : Nat) (v1 : Int32) (hk0 : kd k0 = 12) (σ : Mem) {r : Int32} (h : X12_isPage k0 v1 σ = some r) : Met l yX12_isPage (wsM yX12_isPage cX12_isPage 2 (some .boolean)) (rmD 1) (PcM E [.ref (ea E k0), .int v1] σ) (QiM E r σ) 0 0 (eA E) :=
  Met.ofM (by decide) (Nat.le_of_ble_eq_true rfl) (fun p e s m below meth c ls C0 hH hl => w_X12_isPage_b0 C0 k0 v1 hk0 hH hl h) hAd
set_option maxRecDepth 100000 in
set_option maxHeartbeats 4000000 in
theorem w_X12_layThen_b2 {σ' : Mem} (C0 : Cx E p m c cX12_layThen 2 s args RX12 meth (none)) (K2 : Nat → Int32 → Mem → Option Mem) (hK2 : ∀ (k0 : Nat) (v1 : Int32) (hk0 : kd k0 = 12) (σ : Mem) (H : Heap) (locs : List Loc) (ls : Array Slot), Hs E s σ H locs → lv_has ls 2 [(0, .ref (ea E k0)), (1, .int v1)] → K2 k0 v1 σ = some σ' → W p l e (rmD 0) s m args below meth c H locs 0 0 (MQ below (QvM E σ') args s 0 0 (eA E)) (F0 m 2 ls []))  (k0 : Nat) (v1 : Int32) (hk0 : kd k0 = 12) {σ : Mem} {H : Heap} {locs : List Loc} {ls : Array Slot} (hH : Hs E s σ H locs) (hl : lv_has ls 2 [(0, .ref (ea E k0)), (1, .int v1)]) (h : X12_layThen_b2 K2 k0 v1 σ = some σ') : W p l e (rmD 0) s m args below meth c H locs 0 0 (MQ below (QvM E σ') args s 0 0 (eA E)) (F0 m 2 ls []) := by
  obtain ⟨⟨hx, hb, hml, hown, hts⟩, hr, hlocks, hF, hAd⟩ := id C0
  unfold X12_layThen_b2 at h
  refine lv_iload_n hx hb dX12_layThen_2 rfl (lv_at hl 1 rfl) ?_
  refine lv_bipush (v := 43) hx hb dX12_layThen_3 (by decide) ?_
  refine lv_icmp_ge (tgt := 26) hx hb dX12_layThen_5 (by decide) (fun c1 => ?_) (fun c1 => ?_)
  · replace h := if_t h c1
    exact r_vret C0 hH (Option.some.inj h) dX12_layThen_26
  · replace h := if_f h c1
    refine lv_aload_n hx hb dX12_layThen_8 rfl (lv_at hl 0 rfl) ?_
    refine gf_X12_25 C0 hH hk0 dX12_layThen_9 ?_
    refine lv_iload_n hx hb dX12_layThen_12 rfl (lv_at hl 1 rfl) ?_
    refine lv_aload_n hx hb dX12_layThen_13 rfl (lv_at hl 0 rfl) ?_
    refine gf_X12_19 C0 hH hk0 dX12_layThen_14 ?_
    refine lv_iload_n hx hb dX12_layThen_17 rfl (lv_at hl 1 rfl) ?_
    obtain ⟨b2, h⟩ := gdx_s h
    refine r_iald C0 hH (n := 43) (kf_12_4 hk0) b2 dX12_layThen_18 ?_
    obtain ⟨b3, h⟩ := gdx_s h
    refine r_iast C0 hH (n := 43) (kf_12_6 hk0) b3 dX12_layThen_19 (fun H locs hH => ?_)
    refine lv_iinc (v := v1 + 1) (lv' := [(1, .int (v1 + 1)), (0, .ref (ea E k0))]) hx hb dX12_layThen_20 hl (k := 1) rfl rfl (by decide) rfl (fun ls hl => ?_)
    refine lv_goto (tgt := 2) hx hb dX12_layThen_23 (by decide) ?_
    exact hK2 k0 (v1 + 1) hk0 _ _ _ _ hH (lv_sub hl [1, 0] rfl) h
set_option maxRecDepth 100000 in
set_option maxHeartbeats 4000000 in
theorem w_X12_layThen_l2 {σ' : Mem} (C0 : Cx E p m c cX12_layThen 2 s args RX12 meth (none))  (n : Nat) : ∀ (k0 : Nat) (v1 : Int32) (hk0 : kd k0 = 12) (σ : Mem) (H : Heap) (locs : List Loc) (ls : Array Slot), Hs E s σ H locs → lv_has ls 2 [(0, .ref (ea E k0)), (1, .int v1)] → X12_layThen_l2 n k0 v1 σ = some σ' → W p l e (rmD 0) s m args below meth c H locs 0 0 (MQ below (QvM E σ') args s 0 0 (eA E)) (F0 m 2 ls []) := by
  induction n with
  | zero =>
    intro k0 v1 hk0 σ H locs ls hH hl h
    cases h
  | succ n ih =>
    intro k0 v1 hk0 σ H locs ls hH hl h
    exact w_X12_layThen_b2 C0 (X12_layThen_l2 n)  ih k0 v1 hk0 hH hl h
set_option maxRecDepth 100000 in
set_option maxHeartbeats 4000000 in
theorem w_X12_layThen_b0 {σ' : Mem} (C0 : Cx E p m c cX12_layThen 2 s args RX12 meth (none))  (k0 : Nat) (hk0 : kd k0 = 12) {σ : Mem} {H : Heap} {locs : List Loc} {ls : Array Slot} (hH : Hs E s σ H locs) (hl : lv_has ls 2 [(0, .ref (ea E k0))]) (h : X12_layThen_b0 k0 σ = some σ') : W p l e (rmD 0) s m args below meth c H locs 0 0 (MQ below (QvM E σ') args s 0 0 (eA E)) (F0 m 0 ls []) := by
  obtain ⟨⟨hx, hb, hml, hown, hts⟩, hr, hlocks, hF, hAd⟩ := id C0
  unfold X12_layThen_b0 at h
  refine lv_iconst (v := 0) hx hb dX12_layThen_0 (by decide) ?_
  refine lv_istore_n (lv' := [(1, .int 0), (0, .ref (ea E k0))]) hx hb dX12_layThen_1 rfl hl (by decide) rfl (fun ls hl => ?_)
  exact w_X12_layThen_l2 C0  FU k0 0 hk0 _ _ _ _ hH (lv_sub hl [1, 0] rfl) h
theorem c_X12_layThen {l : Launch} {E : EnvT} (hAd : Ad E) (k0 : Nat) (hk0 : kd k0 = 12) (σ : Mem) {σ' : Mem} (h : X12_layThen k0 σ = some σ') : Met l yX12_layThen (wsM yX12_layThen cX12_layThen 2 (none)) (rmD 0) (PcM E [.ref (ea E k0)] σ) (QvM E σ') 0 0 (eA E) :=
  Met.ofM (by decide) (Nat.le_of_ble_eq_true rfl) (fun p e s m below meth c ls C0 hH hl => w_X12_layThen_b0 C0 k0 hk0 hH hl h) hAd
set_option maxRecDepth 100000 in
set_option maxHeartbeats 4000000 in
theorem w_X12_allOf_b0 {r : Int32} (C0 : Cx E p m c cX12_allOf 1 s args RX12 meth (some .int))  (k0 : Nat) (hk0 : kd k0 = 143) {σ : Mem} {H : Heap} {locs : List Loc} {ls : Array Slot} (hH : Hs E s σ H locs) (hl : lv_has ls 1 [(0, .ref (ea E k0))]) (h : X12_allOf_b0 k0 σ = some r) : W p l e (rmD 0) s m args below meth c H locs 0 0 (MQ below (QiM E r σ) args s 0 0 (eA E)) (F0 m 0 ls []) := by
  obtain ⟨⟨hx, hb, hml, hown, hts⟩, hr, hlocks, hF, hAd⟩ := id C0
  unfold X12_allOf_b0 at h
  refine lv_iconst (v := 1) hx hb dX12_allOf_0 (by decide) ?_
  refine lv_aload_n hx hb dX12_allOf_1 rfl (lv_at hl 0 rfl) ?_
  refine lv_iconst (v := 0) hx hb dX12_allOf_2 (by decide) ?_
  refine r_iald C0 hH (n := 43) hk0 (vin (by decide)) dX12_allOf_3 ?_
  refine lv_ishl hx hb dX12_allOf_4 ?_
  refine lv_iconst (v := 1) hx hb dX12_allOf_5 (by decide) ?_
  refine lv_isub hx hb dX12_allOf_6 ?_
  exact r_iret C0 hH (Option.some.inj h) rfl dX12_allOf_7
theorem c_X12_allOf {l : Launch} {E : EnvT} (hAd : Ad E) (k0 : Nat) (hk0 : kd k0 = 143) (σ : Mem) {r : Int32} (h : X12_allOf k0 σ = some r) : Met l yX12_allOf (wsM yX12_allOf cX12_allOf 1 (some .int)) (rmD 0) (PcM E [.ref (ea E k0)] σ) (QiM E r σ) 0 0 (eA E) :=
  Met.ofM (by decide) (Nat.le_of_ble_eq_true rfl) (fun p e s m below meth c ls C0 hH hl => w_X12_allOf_b0 C0 k0 hk0 hH hl h) hAd
set_option maxRecDepth 100000 in
set_option maxHeartbeats 4000000 in
theorem w_X12_has_b0 {r : Int32} (C0 : Cx E p m c cX12_has 2 s args RX12 meth (some .boolean))  (v0 : Int32) (v1 : Int32)  {σ : Mem} {H : Heap} {locs : List Loc} {ls : Array Slot} (hH : Hs E s σ H locs) (hl : lv_has ls 2 [(0, .int v0), (1, .int v1)]) (h : X12_has_b0 v0 v1 = r) : W p l e (rmD 0) s m args below meth c H locs 0 0 (MQ below (QiM E r σ) args s 0 0 (eA E)) (F0 m 0 ls []) := by
  obtain ⟨⟨hx, hb, hml, hown, hts⟩, hr, hlocks, hF, hAd⟩ := id C0
  unfold X12_has_b0 at h
  refine lv_iload_n hx hb dX12_has_0 rfl (lv_at hl 0 rfl) ?_
  refine lv_iload_n hx hb dX12_has_1 rfl (lv_at hl 1 rfl) ?_
  refine lv_ishr hx hb dX12_has_2 ?_
  refine lv_iconst (v := 1) hx hb dX12_has_3 (by decide) ?_
  refine lv_iand hx hb dX12_has_4 ?_
  refine lv_iconst (v := 1) hx hb dX12_has_5 (by decide) ?_
  refine lv_icmp_ne (tgt := 13) hx hb dX12_has_6 (by decide) (fun c1 => ?_) (fun c1 => ?_)
  · replace h := if_f h c1
    refine lv_iconst (v := 0) hx hb dX12_has_13 (by decide) ?_
    exact r_zret C0 rfl hH h rfl dX12_has_14
  · replace h := if_t h c1
    refine lv_iconst (v := 1) hx hb dX12_has_9 (by decide) ?_
    refine lv_goto (tgt := 14) hx hb dX12_has_10 (by decide) ?_
    exact r_zret C0 rfl hH h rfl dX12_has_14
theorem c_X12_has {l : Launch} {E : EnvT} (hAd : Ad E) (v0 : Int32) (v1 : Int32)  (σ : Mem) {r : Int32} (h : X12_has v0 v1 = r) : Met l yX12_has (wsM yX12_has cX12_has 2 (some .boolean)) (rmD 0) (PcM E [.int v0, .int v1] σ) (QiM E r σ) 0 0 (eA E) :=
  Met.ofM (by decide) (Nat.le_of_ble_eq_true rfl) (fun p e s m below meth c ls C0 hH hl => w_X12_has_b0 C0 v0 v1  hH hl h) hAd
set_option maxRecDepth 100000 in
set_option maxHeartbeats 4000000 in
theorem w_X12_sizeOf_b24 {r : Int32} (C0 : Cx E p m c cX12_sizeOf 3 s args RX12 meth (some .int)) (K4 : Int32 → Int32 → Int32 → Option Int32) (hK4 : ∀ (v0 : Int32) (v1 : Int32) (v2 : Int32)  (σ : Mem) (H : Heap) (locs : List Loc) (ls : Array Slot), Hs E s σ H locs → lv_has ls 3 [(0, .int v0), (1, .int v1), (2, .int v2)] → K4 v0 v1 v2 = some r → W p l e (rmD 1) s m args below meth c H locs 0 0 (MQ below (QiM E r σ) args s 0 0 (eA E)) (F0 m 4 ls []))  (v0 : Int32) (v2 : Int32) (s0 : Int32) (s1 : Int32)  {σ : Mem} {H : Heap} {locs : List Loc} {ls : Array Slot} (hH : Hs E s σ H locs) (hl : lv_has ls 3 [(0, .int v0), (2, .int v2)]) (h : X12_sizeOf_b24 K4 v0 v2 s0 s1 = some r) : W p l e (rmD 1) s m args below meth c H locs 0 0 (MQ below (QiM E r σ) args s 0 0 (eA E)) (F0 m 24 ls [.int s1, .int s0]) := by
  obtain ⟨⟨hx, hb, hml, hown, hts⟩, hr, hlocks, hF, hAd⟩ := id C0
  unfold X12_sizeOf_b24 at h
  refine lv_iadd hx hb dX12_sizeOf_24 ?_
  obtain ⟨x1, ex1, h⟩ := letv_s h
  refine topi_of ex1 ?_
  refine lv_istore_n (lv' := [(1, .int x1), (0, .int v0), (2, .int v2)]) hx hb dX12_sizeOf_25 rfl hl (by decide) rfl (fun ls hl => ?_)
  refine lv_iinc (v := v2 + 1) (lv' := [(2, .int (v2 + 1)), (1, .int x1), (0, .int v0)]) hx hb dX12_sizeOf_26 hl (k := 2) rfl rfl (by decide) rfl (fun ls hl => ?_)
  refine lv_goto (tgt := 4) hx hb dX12_sizeOf_29 (by decide) ?_
  exact hK4 v0 x1 (v2 + 1)  _ _ _ _ hH (lv_sub hl [2, 1, 0] rfl) h
set_option maxRecDepth 100000 in
set_option maxHeartbeats 4000000 in
theorem w_X12_sizeOf_b4 {r : Int32} (C0 : Cx E p m c cX12_sizeOf 3 s args RX12 meth (some .int)) (K4 : Int32 → Int32 → Int32 → Option Int32) (hK4 : ∀ (v0 : Int32) (v1 : Int32) (v2 : Int32)  (σ : Mem) (H : Heap) (locs : List Loc) (ls : Array Slot), Hs E s σ H locs → lv_has ls 3 [(0, .int v0), (1, .int v1), (2, .int v2)] → K4 v0 v1 v2 = some r → W p l e (rmD 1) s m args below meth c H locs 0 0 (MQ below (QiM E r σ) args s 0 0 (eA E)) (F0 m 4 ls []))  (v0 : Int32) (v1 : Int32) (v2 : Int32)  {σ : Mem} {H : Heap} {locs : List Loc} {ls : Array Slot} (hH : Hs E s σ H locs) (hl : lv_has ls 3 [(0, .int v0), (1, .int v1), (2, .int v2)]) (h : X12_sizeOf_b4 K4 v0 v1 v2 = some r) : W p l e (rmD 1) s m args below meth c H locs 0 0 (MQ below (QiM E r σ) args s 0 0 (eA E)) (F0 m 4 ls []) := by
  obtain ⟨⟨hx, hb, hml, hown, hts⟩, hr, hlocks, hF, hAd⟩ := id C0
  unfold X12_sizeOf_b4 at h
  refine lv_iload_n hx hb dX12_sizeOf_4 rfl (lv_at hl 2 rfl) ?_
  refine lv_bipush (v := 10) hx hb dX12_sizeOf_5 (by decide) ?_
  refine lv_icmp_ge (tgt := 32) hx hb dX12_sizeOf_7 (by decide) (fun c1 => ?_) (fun c1 => ?_)
  · replace h := if_t h c1
    refine lv_iload_n hx hb dX12_sizeOf_32 rfl (lv_at hl 1 rfl) ?_
    exact r_iret C0 hH (Option.some.inj h) rfl dX12_sizeOf_33
  · replace h := if_f h c1
    refine lv_iload_n hx hb dX12_sizeOf_10 rfl (lv_at hl 1 rfl) ?_
    refine lv_iload_n hx hb dX12_sizeOf_11 rfl (lv_at hl 0 rfl) ?_
    refine lv_iload_n hx hb dX12_sizeOf_12 rfl (lv_at hl 2 rfl) ?_
    refine go_i hH (va_run_S (As := [.int v0, .int v2]) (rest := [.int v1]) C0 hH lk_X12_90 (c_X12_has hAd v0 v2  σ rfl) (by decide) rfl hl.1 rfl (Nat.le_of_ble_eq_true rfl) dX12_sizeOf_13) (fun H locs hH => ?_)
    refine lv_if_eq (tgt := 23) hx hb dX12_sizeOf_16 (by decide) (fun c2 => ?_) (fun c2 => ?_)
    · replace h := if_t h c2
      refine lv_iconst (v := 0) hx hb dX12_sizeOf_23 (by decide) ?_
      exact w_X12_sizeOf_b24 C0 K4 hK4 v0 v2 v1 0  hH (lv_sub hl [0, 2] rfl) h
    · replace h := if_f h c2
      refine lv_iconst (v := 1) hx hb dX12_sizeOf_19 (by decide) ?_
      refine lv_goto (tgt := 24) hx hb dX12_sizeOf_20 (by decide) ?_
      exact w_X12_sizeOf_b24 C0 K4 hK4 v0 v2 v1 1  hH (lv_sub hl [0, 2] rfl) h
set_option maxRecDepth 100000 in
set_option maxHeartbeats 4000000 in
theorem w_X12_sizeOf_l4 {r : Int32} (C0 : Cx E p m c cX12_sizeOf 3 s args RX12 meth (some .int))  (n : Nat) : ∀ (v0 : Int32) (v1 : Int32) (v2 : Int32)  (σ : Mem) (H : Heap) (locs : List Loc) (ls : Array Slot), Hs E s σ H locs → lv_has ls 3 [(0, .int v0), (1, .int v1), (2, .int v2)] → X12_sizeOf_l4 n v0 v1 v2 = some r → W p l e (rmD 1) s m args below meth c H locs 0 0 (MQ below (QiM E r σ) args s 0 0 (eA E)) (F0 m 4 ls []) := by
  induction n with
  | zero =>
    intro v0 v1 v2  σ H locs ls hH hl h
    cases h
  | succ n ih =>
    intro v0 v1 v2  σ H locs ls hH hl h
    exact w_X12_sizeOf_b4 C0 (X12_sizeOf_l4 n)  ih v0 v1 v2  hH hl h
set_option maxRecDepth 100000 in
set_option maxHeartbeats 4000000 in
theorem w_X12_sizeOf_b0 {r : Int32} (C0 : Cx E p m c cX12_sizeOf 3 s args RX12 meth (some .int))  (v0 : Int32)  {σ : Mem} {H : Heap} {locs : List Loc} {ls : Array Slot} (hH : Hs E s σ H locs) (hl : lv_has ls 3 [(0, .int v0)]) (h : X12_sizeOf_b0 v0 = some r) : W p l e (rmD 1) s m args below meth c H locs 0 0 (MQ below (QiM E r σ) args s 0 0 (eA E)) (F0 m 0 ls []) := by
  obtain ⟨⟨hx, hb, hml, hown, hts⟩, hr, hlocks, hF, hAd⟩ := id C0
  unfold X12_sizeOf_b0 at h
  refine lv_iconst (v := 0) hx hb dX12_sizeOf_0 (by decide) ?_
  refine lv_istore_n (lv' := [(1, .int 0), (0, .int v0)]) hx hb dX12_sizeOf_1 rfl hl (by decide) rfl (fun ls hl => ?_)
  refine lv_iconst (v := 0) hx hb dX12_sizeOf_2 (by decide) ?_
  refine lv_istore_n (lv' := [(2, .int 0), (1, .int 0), (0, .int v0)]) hx hb dX12_sizeOf_3 rfl hl (by decide) rfl (fun ls hl => ?_)
  exact w_X12_sizeOf_l4 C0  FU v0 0 0  _ _ _ _ hH (lv_sub hl [2, 1, 0] rfl) h
theorem c_X12_sizeOf {l : Launch} {E : EnvT} (hAd : Ad E) (v0 : Int32)  (σ : Mem) {r : Int32} (h : X12_sizeOf v0 = some r) : Met l yX12_sizeOf (wsM yX12_sizeOf cX12_sizeOf 3 (some .int)) (rmD 1) (PcM E [.int v0] σ) (QiM E r σ) 0 0 (eA E) :=
  Met.ofM (by decide) (Nat.le_of_ble_eq_true rfl) (fun p e s m below meth c ls C0 hH hl => w_X12_sizeOf_b0 C0 v0  hH hl h) hAd
set_option maxRecDepth 100000 in
set_option maxHeartbeats 4000000 in
theorem w_X12_firstOf_b2 {r : Int32} (C0 : Cx E p m c cX12_firstOf 2 s args RX12 meth (some .int)) (K2 : Int32 → Int32 → Option Int32) (hK2 : ∀ (v0 : Int32) (v1 : Int32)  (σ : Mem) (H : Heap) (locs : List Loc) (ls : Array Slot), Hs E s σ H locs → lv_has ls 2 [(0, .int v0), (1, .int v1)] → K2 v0 v1 = some r → W p l e (rmD 1) s m args below meth c H locs 0 0 (MQ below (QiM E r σ) args s 0 0 (eA E)) (F0 m 2 ls []))  (v0 : Int32) (v1 : Int32)  {σ : Mem} {H : Heap} {locs : List Loc} {ls : Array Slot} (hH : Hs E s σ H locs) (hl : lv_has ls 2 [(0, .int v0), (1, .int v1)]) (h : X12_firstOf_b2 K2 v0 v1 = some r) : W p l e (rmD 1) s m args below meth c H locs 0 0 (MQ below (QiM E r σ) args s 0 0 (eA E)) (F0 m 2 ls []) := by
  obtain ⟨⟨hx, hb, hml, hown, hts⟩, hr, hlocks, hF, hAd⟩ := id C0
  unfold X12_firstOf_b2 at h
  refine lv_iload_n hx hb dX12_firstOf_2 rfl (lv_at hl 1 rfl) ?_
  refine lv_bipush (v := 10) hx hb dX12_firstOf_3 (by decide) ?_
  refine lv_icmp_ge (tgt := 22) hx hb dX12_firstOf_5 (by decide) (fun c1 => ?_) (fun c1 => ?_)
  · replace h := if_t h c1
    refine lv_iload_n hx hb dX12_firstOf_22 rfl (lv_at hl 1 rfl) ?_
    exact r_iret C0 hH (Option.some.inj h) rfl dX12_firstOf_23
  · replace h := if_f h c1
    refine lv_iload_n hx hb dX12_firstOf_8 rfl (lv_at hl 0 rfl) ?_
    refine lv_iload_n hx hb dX12_firstOf_9 rfl (lv_at hl 1 rfl) ?_
    refine go_i hH (va_run_S (As := [.int v0, .int v1]) (rest := []) C0 hH lk_X12_90 (c_X12_has hAd v0 v1  σ rfl) (by decide) rfl hl.1 rfl (Nat.le_of_ble_eq_true rfl) dX12_firstOf_10) (fun H locs hH => ?_)
    refine lv_if_ne (tgt := 22) hx hb dX12_firstOf_13 (by decide) (fun c2 => ?_) (fun c2 => ?_)
    · replace h := if_f h c2
      refine lv_iload_n hx hb dX12_firstOf_22 rfl (lv_at hl 1 rfl) ?_
      exact r_iret C0 hH (Option.some.inj h) rfl dX12_firstOf_23
    · replace h := if_t h c2
      refine lv_iinc (v := v1 + 1) (lv' := [(1, .int (v1 + 1)), (0, .int v0)]) hx hb dX12_firstOf_16 hl (k := 1) rfl rfl (by decide) rfl (fun ls hl => ?_)
      refine lv_goto (tgt := 2) hx hb dX12_firstOf_19 (by decide) ?_
      exact hK2 v0 (v1 + 1)  _ _ _ _ hH (lv_sub hl [1, 0] rfl) h
set_option maxRecDepth 100000 in
set_option maxHeartbeats 4000000 in
theorem w_X12_firstOf_l2 {r : Int32} (C0 : Cx E p m c cX12_firstOf 2 s args RX12 meth (some .int))  (n : Nat) : ∀ (v0 : Int32) (v1 : Int32)  (σ : Mem) (H : Heap) (locs : List Loc) (ls : Array Slot), Hs E s σ H locs → lv_has ls 2 [(0, .int v0), (1, .int v1)] → X12_firstOf_l2 n v0 v1 = some r → W p l e (rmD 1) s m args below meth c H locs 0 0 (MQ below (QiM E r σ) args s 0 0 (eA E)) (F0 m 2 ls []) := by
  induction n with
  | zero =>
    intro v0 v1  σ H locs ls hH hl h
    cases h
  | succ n ih =>
    intro v0 v1  σ H locs ls hH hl h
    exact w_X12_firstOf_b2 C0 (X12_firstOf_l2 n)  ih v0 v1  hH hl h
set_option maxRecDepth 100000 in
set_option maxHeartbeats 4000000 in
theorem w_X12_firstOf_b0 {r : Int32} (C0 : Cx E p m c cX12_firstOf 2 s args RX12 meth (some .int))  (v0 : Int32)  {σ : Mem} {H : Heap} {locs : List Loc} {ls : Array Slot} (hH : Hs E s σ H locs) (hl : lv_has ls 2 [(0, .int v0)]) (h : X12_firstOf_b0 v0 = some r) : W p l e (rmD 1) s m args below meth c H locs 0 0 (MQ below (QiM E r σ) args s 0 0 (eA E)) (F0 m 0 ls []) := by
  obtain ⟨⟨hx, hb, hml, hown, hts⟩, hr, hlocks, hF, hAd⟩ := id C0
  unfold X12_firstOf_b0 at h
  refine lv_iconst (v := 0) hx hb dX12_firstOf_0 (by decide) ?_
  refine lv_istore_n (lv' := [(1, .int 0), (0, .int v0)]) hx hb dX12_firstOf_1 rfl hl (by decide) rfl (fun ls hl => ?_)
  exact w_X12_firstOf_l2 C0  FU v0 0  _ _ _ _ hH (lv_sub hl [1, 0] rfl) h
theorem c_X12_firstOf {l : Launch} {E : EnvT} (hAd : Ad E) (v0 : Int32)  (σ : Mem) {r : Int32} (h : X12_firstOf v0 = some r) : Met l yX12_firstOf (wsM yX12_firstOf cX12_firstOf 2 (some .int)) (rmD 1) (PcM E [.int v0] σ) (QiM E r σ) 0 0 (eA E) :=
  Met.ofM (by decide) (Nat.le_of_ble_eq_true rfl) (fun p e s m below meth c ls C0 hH hl => w_X12_firstOf_b0 C0 v0  hH hl h) hAd
set_option maxRecDepth 100000 in
set_option maxHeartbeats 4000000 in
theorem w_X12_feed_b0 {r : Int32} {σ' : Mem} (C0 : Cx E p m c cX12_feed 2 s args RX12 meth (some .int))  (k0 : Nat) (v1 : Int32) (hk0 : kd k0 = 12) {σ : Mem} {H : Heap} {locs : List Loc} {ls : Array Slot} (hH : Hs E s σ H locs) (hl : lv_has ls 2 [(0, .ref (ea E k0)), (1, .int v1)]) (h : X12_feed_b0 k0 v1 σ = some (r, σ')) : W p l e (rmD 1) s m args below meth c H locs 0 0 (MQ below (QiM E r σ') args s 0 0 (eA E)) (F0 m 0 ls []) := by
  obtain ⟨⟨hx, hb, hml, hown, hts⟩, hr, hlocks, hF, hAd⟩ := id C0
  unfold X12_feed_b0 at h
  refine lv_iload_n hx hb dX12_feed_0 rfl (lv_at hl 1 rfl) ?_
  refine lv_i2l (v := Int32.toInt64 v1) hx hb dX12_feed_1 rfl ?_
  refine lv_lconst (v := 0) hx hb dX12_feed_2 (by decide) ?_
  refine lv_ldc2 hx hb hown (hts _ qL_X12_94) dX12_feed_3 ?_
  refine go_i hH (va_run_S (As := [.long (Int32.toInt64 v1), .long 0, .long 255]) (rest := []) C0 hH lk_X12_75 (c_X12_in hAd (Int32.toInt64 v1) 0 255  σ rfl) (by decide) rfl hl.1 rfl (Nat.le_of_ble_eq_true rfl) dX12_feed_6) (fun H locs hH => ?_)
  refine lv_if_ne (tgt := 15) hx hb dX12_feed_9 (by decide) (fun c1 => ?_) (fun c1 => ?_)
  · replace h := if_f h c1
    refine lv_aload_n hx hb dX12_feed_15 rfl (lv_at hl 0 rfl) ?_
    refine gf_X12_96 C0 hH hk0 dX12_feed_16 ?_
    refine lv_sipush (v := 130) hx hb dX12_feed_19 (by decide) ?_
    refine lv_icmp_ne (tgt := 28) hx hb dX12_feed_22 (by decide) (fun c2 => ?_) (fun c2 => ?_)
    · replace h := if_f h c2
      refine lv_aload_n hx hb dX12_feed_28 rfl (lv_at hl 0 rfl) ?_
      refine gf_X12_31 C0 hH hk0 dX12_feed_29 ?_
      refine lv_aload_n hx hb dX12_feed_32 rfl (lv_at hl 0 rfl) ?_
      refine gf_X12_96 C0 hH hk0 dX12_feed_33 ?_
      refine lv_iload_n hx hb dX12_feed_36 rfl (lv_at hl 1 rfl) ?_
      obtain ⟨b3, h⟩ := gdx_s h
      refine r_iast C0 hH (n := 130) (kf_12_9 hk0) b3 dX12_feed_37 (fun H locs hH => ?_)
      refine lv_aload_n hx hb dX12_feed_38 rfl (lv_at hl 0 rfl) ?_
      refine lv_dup hx hb dX12_feed_39 rfl ?_
      obtain ⟨σ4, eσ4, h⟩ := letv_s h
      replace hH := hs_of eσ4 hH
      refine gf_X12_96 C0 hH hk0 dX12_feed_40 ?_
      refine lv_iconst (v := 1) hx hb dX12_feed_43 (by decide) ?_
      refine lv_iadd hx hb dX12_feed_44 ?_
      refine pf_X12_96 C0 hH hk0 dX12_feed_45 (fun H locs hH => ?_)
      refine lv_aload_n hx hb dX12_feed_48 rfl (lv_at hl 0 rfl) ?_
      obtain ⟨σ5, eσ5, h⟩ := letv_s h
      replace hH := hs_of eσ5 hH
      refine gf_X12_96 C0 hH hk0 dX12_feed_49 ?_
      exact r_iret C0 hH (pj1 h) (pj2 h) dX12_feed_52
    · replace h := if_t h c2
      refine lv_ldc hx hb hown (hts _ qK_X12_99) dX12_feed_25 ?_
      exact r_iret C0 hH (pj1 h) (pj2 h) dX12_feed_27
  · replace h := if_t h c1
    refine lv_ldc hx hb hown (hts _ qK_X12_85) dX12_feed_12 ?_
    exact r_iret C0 hH (pj1 h) (pj2 h) dX12_feed_14
theorem c_X12_feed {l : Launch} {E : EnvT} (hAd : Ad E) (k0 : Nat) (v1 : Int32) (hk0 : kd k0 = 12) (σ : Mem) {r : Int32} {σ' : Mem} (h : X12_feed k0 v1 σ = some (r, σ')) : Met l yX12_feed (wsM yX12_feed cX12_feed 2 (some .int)) (rmD 1) (PcM E [.ref (ea E k0), .int v1] σ) (QiM E r σ') 0 0 (eA E) :=
  Met.ofM (by decide) (Nat.le_of_ble_eq_true rfl) (fun p e s m below meth c ls C0 hH hl => w_X12_feed_b0 C0 k0 v1 hk0 hH hl h) hAd
set_option maxRecDepth 100000 in
set_option maxHeartbeats 4000000 in
theorem w_X12_bad_b0 {σ' : Mem} (C0 : Cx E p m c cX12_bad 2 s args RX12 meth (none))  (k0 : Nat) (v1 : Int32) (hk0 : kd k0 = 12) {σ : Mem} {H : Heap} {locs : List Loc} {ls : Array Slot} (hH : Hs E s σ H locs) (hl : lv_has ls 2 [(0, .ref (ea E k0)), (1, .int v1)]) (h : X12_bad_b0 k0 v1 σ = some σ') : W p l e (rmD 0) s m args below meth c H locs 0 0 (MQ below (QvM E σ') args s 0 0 (eA E)) (F0 m 0 ls []) := by
  obtain ⟨⟨hx, hb, hml, hown, hts⟩, hr, hlocks, hF, hAd⟩ := id C0
  unfold X12_bad_b0 at h
  refine lv_aload_n hx hb dX12_bad_0 rfl (lv_at hl 0 rfl) ?_
  refine gf_X12_100 C0 hH hk0 dX12_bad_1 ?_
  refine lv_if_ne (tgt := 20) hx hb dX12_bad_4 (by decide) (fun c1 => ?_) (fun c1 => ?_)
  · replace h := if_f h c1
    exact r_vret C0 hH (Option.some.inj h) dX12_bad_20
  · replace h := if_t h c1
    refine lv_aload_n hx hb dX12_bad_7 rfl (lv_at hl 0 rfl) ?_
    refine lv_iload_n hx hb dX12_bad_8 rfl (lv_at hl 1 rfl) ?_
    refine pf_X12_100 C0 hH hk0 dX12_bad_9 (fun H locs hH => ?_)
    refine lv_aload_n hx hb dX12_bad_12 rfl (lv_at hl 0 rfl) ?_
    refine lv_aload_n hx hb dX12_bad_13 rfl (lv_at hl 0 rfl) ?_
    obtain ⟨σ2, eσ2, h⟩ := letv_s h
    replace hH := hs_of eσ2 hH
    refine gf_X12_103 C0 hH hk0 dX12_bad_14 ?_
    refine pf_X12_106 C0 hH hk0 dX12_bad_17 (fun H locs hH => ?_)
    exact r_vret C0 hH (Option.some.inj h) dX12_bad_20
theorem c_X12_bad {l : Launch} {E : EnvT} (hAd : Ad E) (k0 : Nat) (v1 : Int32) (hk0 : kd k0 = 12) (σ : Mem) {σ' : Mem} (h : X12_bad k0 v1 σ = some σ') : Met l yX12_bad (wsM yX12_bad cX12_bad 2 (none)) (rmD 0) (PcM E [.ref (ea E k0), .int v1] σ) (QvM E σ') 0 0 (eA E) :=
  Met.ofM (by decide) (Nat.le_of_ble_eq_true rfl) (fun p e s m below meth c ls C0 hH hl => w_X12_bad_b0 C0 k0 v1 hk0 hH hl h) hAd
set_option maxRecDepth 100000 in
set_option maxHeartbeats 4000000 in
theorem w_X12_nextToken_b255 {σ' : Mem} (C0 : Cx E p m c cX12_nextToken 1 s args RX12 meth (none))  (k0 : Nat) (hk0 : kd k0 = 12) {σ : Mem} {H : Heap} {locs : List Loc} {ls : Array Slot} (hH : Hs E s σ H locs) (hl : lv_has ls 1 [(0, .ref (ea E k0))]) (h : X12_nextToken_b255 k0 σ = some σ') : W p l e (rmD 1) s m args below meth c H locs 0 0 (MQ below (QvM E σ') args s 0 0 (eA E)) (F0 m 255 ls []) := by
  obtain ⟨⟨hx, hb, hml, hown, hts⟩, hr, hlocks, hF, hAd⟩ := id C0
  unfold X12_nextToken_b255 at h
  refine lv_aload_n hx hb dX12_nextToken_255 rfl (lv_at hl 0 rfl) ?_
  refine lv_aload_n hx hb dX12_nextToken_256 rfl (lv_at hl 0 rfl) ?_
  refine gf_X12_109 C0 hH hk0 dX12_nextToken_257 ?_
  refine lv_aload_n hx hb dX12_nextToken_260 rfl (lv_at hl 0 rfl) ?_
  refine gf_X12_103 C0 hH hk0 dX12_nextToken_261 ?_
  refine lv_isub hx hb dX12_nextToken_264 ?_
  refine lv_iconst (v := 2) hx hb dX12_nextToken_265 (by decide) ?_
  refine lv_icmp_le (tgt := 273) hx hb dX12_nextToken_266 (by decide) (fun c1 => ?_) (fun c1 => ?_)
  · replace h := if_t h c1
    refine lv_iconst (v := 3) hx hb dX12_nextToken_273 (by decide) ?_
    refine pf_X12_124 C0 hH hk0 dX12_nextToken_274 (fun H locs hH => ?_)
    exact r_vret C0 hH (Option.some.inj h) dX12_nextToken_277
  · replace h := if_f h c1
    refine lv_iconst (v := 0) hx hb dX12_nextToken_269 (by decide) ?_
    refine lv_goto (tgt := 274) hx hb dX12_nextToken_270 (by decide) ?_
    refine pf_X12_124 C0 hH hk0 dX12_nextToken_274 (fun H locs hH => ?_)
    exact r_vret C0 hH (Option.some.inj h) dX12_nextToken_277
set_option maxRecDepth 100000 in
set_option maxHeartbeats 4000000 in
theorem w_X12_nextToken_b239 {σ' : Mem} (C0 : Cx E p m c cX12_nextToken 1 s args RX12 meth (none)) (K165 : Nat → Mem → Option Mem) (hK165 : ∀ (k0 : Nat) (hk0 : kd k0 = 12) (σ : Mem) (H : Heap) (locs : List Loc) (ls : Array Slot), Hs E s σ H locs → lv_has ls 1 [(0, .ref (ea E k0))] → K165 k0 σ = some σ' → W p l e (rmD 1) s m args below meth c H locs 0 0 (MQ below (QvM E σ') args s 0 0 (eA E)) (F0 m 165 ls []))  (k0 : Nat) (s0 : Nat) (s1 : Int32) (hk0 : kd k0 = 12) (hs0 : kd s0 = 12) {σ : Mem} {H : Heap} {locs : List Loc} {ls : Array Slot} (hH : Hs E s σ H locs) (hl : lv_has ls 1 [(0, .ref (ea E k0))]) (h : X12_nextToken_b239 K165 k0 s0 s1 σ = some σ') : W p l e (rmD 1) s m args below meth c H locs 0 0 (MQ below (QvM E σ') args s 0 0 (eA E)) (F0 m 239 ls [.int s1, .ref (ea E s0)]) := by
  obtain ⟨⟨hx, hb, hml, hown, hts⟩, hr, hlocks, hF, hAd⟩ := id C0
  unfold X12_nextToken_b239 at h
  refine pf_X12_113 C0 hH hs0 dX12_nextToken_239 (fun H locs hH => ?_)
  refine lv_aload_n hx hb dX12_nextToken_242 rfl (lv_at hl 0 rfl) ?_
  refine lv_dup hx hb dX12_nextToken_243 rfl ?_
  obtain ⟨σ1, eσ1, h⟩ := letv_s h
  replace hH := hs_of eσ1 hH
  refine gf_X12_109 C0 hH hk0 dX12_nextToken_244 ?_
  refine lv_iconst (v := 1) hx hb dX12_nextToken_247 (by decide) ?_
  refine lv_iadd hx hb dX12_nextToken_248 ?_
  refine pf_X12_109 C0 hH hk0 dX12_nextToken_249 (fun H locs hH => ?_)
  refine lv_goto (tgt := 165) hx hb dX12_nextToken_252 (by decide) ?_
  exact hK165 k0 hk0 _ _ _ _ hH (lv_sub hl [0] rfl) h
set_option maxRecDepth 100000 in
set_option maxHeartbeats 4000000 in
theorem w_X12_nextToken_b165 {σ' : Mem} (C0 : Cx E p m c cX12_nextToken 1 s args RX12 meth (none)) (K165 : Nat → Mem → Option Mem) (hK165 : ∀ (k0 : Nat) (hk0 : kd k0 = 12) (σ : Mem) (H : Heap) (locs : List Loc) (ls : Array Slot), Hs E s σ H locs → lv_has ls 1 [(0, .ref (ea E k0))] → K165 k0 σ = some σ' → W p l e (rmD 1) s m args below meth c H locs 0 0 (MQ below (QvM E σ') args s 0 0 (eA E)) (F0 m 165 ls []))  (k0 : Nat) (hk0 : kd k0 = 12) {σ : Mem} {H : Heap} {locs : List Loc} {ls : Array Slot} (hH : Hs E s σ H locs) (hl : lv_has ls 1 [(0, .ref (ea E k0))]) (h : X12_nextToken_b165 K165 k0 σ = some σ') : W p l e (rmD 1) s m args below meth c H locs 0 0 (MQ below (QvM E σ') args s 0 0 (eA E)) (F0 m 165 ls []) := by
  obtain ⟨⟨hx, hb, hml, hown, hts⟩, hr, hlocks, hF, hAd⟩ := id C0
  unfold X12_nextToken_b165 at h
  refine lv_aload_n hx hb dX12_nextToken_165 rfl (lv_at hl 0 rfl) ?_
  refine gf_X12_109 C0 hH hk0 dX12_nextToken_166 ?_
  refine lv_aload_n hx hb dX12_nextToken_169 rfl (lv_at hl 0 rfl) ?_
  refine gf_X12_96 C0 hH hk0 dX12_nextToken_170 ?_
  refine lv_icmp_ge (tgt := 255) hx hb dX12_nextToken_173 (by decide) (fun c1 => ?_) (fun c1 => ?_)
  · replace h := if_t h c1
    exact w_X12_nextToken_b255 C0  k0 hk0 hH (lv_sub hl [0] rfl) h
  · replace h := if_f h c1
    refine lv_aload_n hx hb dX12_nextToken_176 rfl (lv_at hl 0 rfl) ?_
    refine gf_X12_31 C0 hH hk0 dX12_nextToken_177 ?_
    refine lv_aload_n hx hb dX12_nextToken_180 rfl (lv_at hl 0 rfl) ?_
    refine gf_X12_109 C0 hH hk0 dX12_nextToken_181 ?_
    obtain ⟨b2, h⟩ := gdx_s h
    refine r_iald C0 hH (n := 130) (kf_12_9 hk0) b2 dX12_nextToken_184 ?_
    refine lv_i2l (v := Int32.toInt64 (σ (k0 + 8) (nc (σ k0 11)))) hx hb dX12_nextToken_185 rfl ?_
    refine lv_ldc2 hx hb hown (hts _ qL_X12_120) dX12_nextToken_186 ?_
    refine lv_ldc2 hx hb hown (hts _ qL_X12_122) dX12_nextToken_189 ?_
    refine go_i hH (va_run_S (As := [.long (Int32.toInt64 (σ (k0 + 8) (nc (σ k0 11)))), .long 48, .long 57]) (rest := []) C0 hH lk_X12_75 (c_X12_in hAd (Int32.toInt64 (σ (k0 + 8) (nc (σ k0 11)))) 48 57  σ rfl) (by decide) rfl hl.1 rfl (Nat.le_of_ble_eq_true rfl) dX12_nextToken_192) (fun H locs hH => ?_)
    refine lv_if_eq (tgt := 255) hx hb dX12_nextToken_195 (by decide) (fun c3 => ?_) (fun c3 => ?_)
    · replace h := if_t h c3
      exact w_X12_nextToken_b255 C0  k0 hk0 hH (lv_sub hl [0] rfl) h
    · replace h := if_f h c3
      refine lv_aload_n hx hb dX12_nextToken_198 rfl (lv_at hl 0 rfl) ?_
      refine lv_aload_n hx hb dX12_nextToken_199 rfl (lv_at hl 0 rfl) ?_
      refine gf_X12_109 C0 hH hk0 dX12_nextToken_200 ?_
      refine lv_aload_n hx hb dX12_nextToken_203 rfl (lv_at hl 0 rfl) ?_
      refine gf_X12_103 C0 hH hk0 dX12_nextToken_204 ?_
      refine lv_isub hx hb dX12_nextToken_207 ?_
      refine lv_iconst (v := 2) hx hb dX12_nextToken_208 (by decide) ?_
      refine lv_icmp_ge (tgt := 235) hx hb dX12_nextToken_209 (by decide) (fun c4 => ?_) (fun c4 => ?_)
      · replace h := if_t h c4
        refine lv_aload_n hx hb dX12_nextToken_235 rfl (lv_at hl 0 rfl) ?_
        refine gf_X12_113 C0 hH hk0 dX12_nextToken_236 ?_
        exact w_X12_nextToken_b239 C0 K165 hK165 k0 k0 (σ k0 14) hk0 hk0 hH (lv_sub hl [0] rfl) h
      · replace h := if_f h c4
        refine lv_bipush (v := 10) hx hb dX12_nextToken_212 (by decide) ?_
        refine lv_aload_n hx hb dX12_nextToken_214 rfl (lv_at hl 0 rfl) ?_
        refine gf_X12_113 C0 hH hk0 dX12_nextToken_215 ?_
        refine lv_imul hx hb dX12_nextToken_218 ?_
        refine lv_aload_n hx hb dX12_nextToken_219 rfl (lv_at hl 0 rfl) ?_
        refine gf_X12_31 C0 hH hk0 dX12_nextToken_220 ?_
        refine lv_aload_n hx hb dX12_nextToken_223 rfl (lv_at hl 0 rfl) ?_
        refine gf_X12_109 C0 hH hk0 dX12_nextToken_224 ?_
        obtain ⟨b5, h⟩ := gdx_s h
        refine r_iald C0 hH (n := 130) (kf_12_9 hk0) b5 dX12_nextToken_227 ?_
        refine lv_iadd hx hb dX12_nextToken_228 ?_
        refine lv_bipush (v := 48) hx hb dX12_nextToken_229 (by decide) ?_
        refine lv_isub hx hb dX12_nextToken_231 ?_
        refine lv_goto (tgt := 239) hx hb dX12_nextToken_232 (by decide) ?_
        exact w_X12_nextToken_b239 C0 K165 hK165 k0 k0 (((10 * (σ k0 14)) + (σ (k0 + 8) (nc (σ k0 11)))) - 48) hk0 hk0 hH (lv_sub hl [0] rfl) h
set_option maxRecDepth 100000 in
set_option maxHeartbeats 4000000 in
theorem w_X12_nextToken_l165 {σ' : Mem} (C0 : Cx E p m c cX12_nextToken 1 s args RX12 meth (none))  (n : Nat) : ∀ (k0 : Nat) (hk0 : kd k0 = 12) (σ : Mem) (H : Heap) (locs : List Loc) (ls : Array Slot), Hs E s σ H locs → lv_has ls 1 [(0, .ref (ea E k0))] → X12_nextToken_l165 n k0 σ = some σ' → W p l e (rmD 1) s m args below meth c H locs 0 0 (MQ below (QvM E σ') args s 0 0 (eA E)) (F0 m 165 ls []) := by
  induction n with
  | zero =>
    intro k0 hk0 σ H locs ls hH hl h
    cases h
  | succ n ih =>
    intro k0 hk0 σ H locs ls hH hl h
    exact w_X12_nextToken_b165 C0 (X12_nextToken_l165 n)  ih k0 hk0 hH hl h
set_option maxRecDepth 100000 in
set_option maxHeartbeats 4000000 in
theorem w_X12_nextToken_b142 {σ' : Mem} (C0 : Cx E p m c cX12_nextToken 1 s args RX12 meth (none))  (k0 : Nat) (s0 : Nat) (s1 : Int32) (s2 : Int32) (hk0 : kd k0 = 12) (hs0 : kd s0 = 12) {σ : Mem} {H : Heap} {locs : List Loc} {ls : Array Slot} (hH : Hs E s σ H locs) (hl : lv_has ls 1 [(0, .ref (ea E k0))]) (h : X12_nextToken_b142 k0 s0 s1 s2 σ = some σ') : W p l e (rmD 1) s m args below meth c H locs 0 0 (MQ below (QvM E σ') args s 0 0 (eA E)) (F0 m 142 ls [.int s2, .int s1, .ref (ea E s0)]) := by
  obtain ⟨⟨hx, hb, hml, hown, hts⟩, hr, hlocks, hF, hAd⟩ := id C0
  unfold X12_nextToken_b142 at h
  refine lv_iadd hx hb dX12_nextToken_142 ?_
  refine pf_X12_109 C0 hH hs0 dX12_nextToken_143 (fun H locs hH => ?_)
  refine lv_aload_n hx hb dX12_nextToken_146 rfl (lv_at hl 0 rfl) ?_
  obtain ⟨σ1, eσ1, h⟩ := letv_s h
  replace hH := hs_of eσ1 hH
  refine gf_X12_124 C0 hH hk0 dX12_nextToken_147 ?_
  refine lv_iconst (v := 3) hx hb dX12_nextToken_150 (by decide) ?_
  refine lv_icmp_ne (tgt := 277) hx hb dX12_nextToken_151 (by decide) (fun c2 => ?_) (fun c2 => ?_)
  · replace h := if_f h c2
    exact r_vret C0 hH (Option.some.inj h) dX12_nextToken_277
  · replace h := if_t h c2
    refine lv_aload_n hx hb dX12_nextToken_154 rfl (lv_at hl 0 rfl) ?_
    refine lv_dup hx hb dX12_nextToken_155 rfl ?_
    refine gf_X12_113 C0 hH hk0 dX12_nextToken_156 ?_
    refine lv_bipush (v := 48) hx hb dX12_nextToken_159 (by decide) ?_
    refine lv_isub hx hb dX12_nextToken_161 ?_
    refine pf_X12_113 C0 hH hk0 dX12_nextToken_162 (fun H locs hH => ?_)
    exact w_X12_nextToken_l165 C0  FU k0 hk0 _ _ _ _ hH (lv_sub hl [0] rfl) h
set_option maxRecDepth 100000 in
set_option maxHeartbeats 4000000 in
theorem w_X12_nextToken_b118 {σ' : Mem} (C0 : Cx E p m c cX12_nextToken 1 s args RX12 meth (none))  (k0 : Nat) (s0 : Nat) (s1 : Int32) (hk0 : kd k0 = 12) (hs0 : kd s0 = 12) {σ : Mem} {H : Heap} {locs : List Loc} {ls : Array Slot} (hH : Hs E s σ H locs) (hl : lv_has ls 1 [(0, .ref (ea E k0))]) (h : X12_nextToken_b118 k0 s0 s1 σ = some σ') : W p l e (rmD 1) s m args below meth c H locs 0 0 (MQ below (QvM E σ') args s 0 0 (eA E)) (F0 m 118 ls [.int s1, .ref (ea E s0)]) := by
  obtain ⟨⟨hx, hb, hml, hown, hts⟩, hr, hlocks, hF, hAd⟩ := id C0
  unfold X12_nextToken_b118 at h
  refine pf_X12_124 C0 hH hs0 dX12_nextToken_118 (fun H locs hH => ?_)
  refine lv_aload_n hx hb dX12_nextToken_121 rfl (lv_at hl 0 rfl) ?_
  refine lv_dup hx hb dX12_nextToken_122 rfl ?_
  obtain ⟨σ1, eσ1, h⟩ := letv_s h
  replace hH := hs_of eσ1 hH
  refine gf_X12_109 C0 hH hk0 dX12_nextToken_123 ?_
  refine lv_aload_n hx hb dX12_nextToken_126 rfl (lv_at hl 0 rfl) ?_
  refine gf_X12_109 C0 hH hk0 dX12_nextToken_127 ?_
  refine lv_aload_n hx hb dX12_nextToken_130 rfl (lv_at hl 0 rfl) ?_
  refine gf_X12_96 C0 hH hk0 dX12_nextToken_131 ?_
  refine lv_icmp_ge (tgt := 141) hx hb dX12_nextToken_134 (by decide) (fun c2 => ?_) (fun c2 => ?_)
  · replace h := if_t h c2
    refine lv_iconst (v := 0) hx hb dX12_nextToken_141 (by decide) ?_
    exact w_X12_nextToken_b142 C0  k0 k0 (σ1 k0 11) 0 hk0 hk0 hH (lv_sub hl [0] rfl) h
  · replace h := if_f h c2
    refine lv_iconst (v := 1) hx hb dX12_nextToken_137 (by decide) ?_
    refine lv_goto (tgt := 142) hx hb dX12_nextToken_138 (by decide) ?_
    exact w_X12_nextToken_b142 C0  k0 k0 (σ1 k0 11) 1 hk0 hk0 hH (lv_sub hl [0] rfl) h
set_option maxRecDepth 100000 in
set_option maxHeartbeats 4000000 in
theorem w_X12_nextToken_b113 {σ' : Mem} (C0 : Cx E p m c cX12_nextToken 1 s args RX12 meth (none))  (k0 : Nat) (s0 : Nat) (hk0 : kd k0 = 12) (hs0 : kd s0 = 12) {σ : Mem} {H : Heap} {locs : List Loc} {ls : Array Slot} (hH : Hs E s σ H locs) (hl : lv_has ls 1 [(0, .ref (ea E k0))]) (h : X12_nextToken_b113 k0 s0 σ = some σ') : W p l e (rmD 1) s m args below meth c H locs 0 0 (MQ below (QvM E σ') args s 0 0 (eA E)) (F0 m 113 ls [.ref (ea E s0)]) := by
  obtain ⟨⟨hx, hb, hml, hown, hts⟩, hr, hlocks, hF, hAd⟩ := id C0
  unfold X12_nextToken_b113 at h
  refine lv_iconst (v := 4) hx hb dX12_nextToken_113 (by decide) ?_
  refine lv_goto (tgt := 118) hx hb dX12_nextToken_114 (by decide) ?_
  exact w_X12_nextToken_b118 C0  k0 s0 4 hk0 hs0 hH (lv_sub hl [0] rfl) h
set_option maxRecDepth 100000 in
set_option maxHeartbeats 4000000 in
theorem w_X12_nextToken_b34 {σ' : Mem} (C0 : Cx E p m c cX12_nextToken 1 s args RX12 meth (none))  (k0 : Nat) (s0 : Nat) (s1 : Int32) (hk0 : kd k0 = 12) (hs0 : kd s0 = 12) {σ : Mem} {H : Heap} {locs : List Loc} {ls : Array Slot} (hH : Hs E s σ H locs) (hl : lv_has ls 1 [(0, .ref (ea E k0))]) (h : X12_nextToken_b34 k0 s0 s1 σ = some σ') : W p l e (rmD 1) s m args below meth c H locs 0 0 (MQ below (QvM E σ') args s 0 0 (eA E)) (F0 m 34 ls [.int s1, .ref (ea E s0)]) := by
  obtain ⟨⟨hx, hb, hml, hown, hts⟩, hr, hlocks, hF, hAd⟩ := id C0
  unfold X12_nextToken_b34 at h
  refine pf_X12_113 C0 hH hs0 dX12_nextToken_34 (fun H locs hH => ?_)
  refine lv_aload_n hx hb dX12_nextToken_37 rfl (lv_at hl 0 rfl) ?_
  refine lv_aload_n hx hb dX12_nextToken_38 rfl (lv_at hl 0 rfl) ?_
  obtain ⟨σ1, eσ1, h⟩ := letv_s h
  replace hH := hs_of eσ1 hH
  refine gf_X12_109 C0 hH hk0 dX12_nextToken_39 ?_
  refine lv_aload_n hx hb dX12_nextToken_42 rfl (lv_at hl 0 rfl) ?_
  refine gf_X12_96 C0 hH hk0 dX12_nextToken_43 ?_
  refine lv_icmp_ne (tgt := 53) hx hb dX12_nextToken_46 (by decide) (fun c2 => ?_) (fun c2 => ?_)
  · replace h := if_f h c2
    refine lv_aload_n hx hb dX12_nextToken_53 rfl (lv_at hl 0 rfl) ?_
    refine gf_X12_113 C0 hH hk0 dX12_nextToken_54 ?_
    refine lv_i2l (v := Int32.toInt64 (σ1 k0 14)) hx hb dX12_nextToken_57 rfl ?_
    refine lv_ldc2 hx hb hown (hts _ qL_X12_116) dX12_nextToken_58 ?_
    refine lv_ldc2 hx hb hown (hts _ qL_X12_118) dX12_nextToken_61 ?_
    refine go_i hH (va_run_S (As := [.long (Int32.toInt64 (σ1 k0 14)), .long 97, .long 122]) (rest := [.ref (ea E k0)]) C0 hH lk_X12_75 (c_X12_in hAd (Int32.toInt64 (σ1 k0 14)) 97 122  σ1 rfl) (by decide) rfl hl.1 rfl (Nat.le_of_ble_eq_true rfl) dX12_nextToken_64) (fun H locs hH => ?_)
    refine lv_if_eq (tgt := 74) hx hb dX12_nextToken_67 (by decide) (fun c3 => ?_) (fun c3 => ?_)
    · replace h := if_t h c3
      refine lv_aload_n hx hb dX12_nextToken_74 rfl (lv_at hl 0 rfl) ?_
      refine gf_X12_113 C0 hH hk0 dX12_nextToken_75 ?_
      refine lv_i2l (v := Int32.toInt64 (σ1 k0 14)) hx hb dX12_nextToken_78 rfl ?_
      refine lv_ldc2 hx hb hown (hts _ qL_X12_120) dX12_nextToken_79 ?_
      refine lv_ldc2 hx hb hown (hts _ qL_X12_122) dX12_nextToken_82 ?_
      refine go_i hH (va_run_S (As := [.long (Int32.toInt64 (σ1 k0 14)), .long 48, .long 57]) (rest := [.ref (ea E k0)]) C0 hH lk_X12_75 (c_X12_in hAd (Int32.toInt64 (σ1 k0 14)) 48 57  σ1 rfl) (by decide) rfl hl.1 rfl (Nat.le_of_ble_eq_true rfl) dX12_nextToken_85) (fun H locs hH => ?_)
      refine lv_if_eq (tgt := 95) hx hb dX12_nextToken_88 (by decide) (fun c4 => ?_) (fun c4 => ?_)
      · replace h := if_t h c4
        refine lv_aload_n hx hb dX12_nextToken_95 rfl (lv_at hl 0 rfl) ?_
        refine gf_X12_113 C0 hH hk0 dX12_nextToken_96 ?_
        refine lv_bipush (v := 44) hx hb dX12_nextToken_99 (by decide) ?_
        refine lv_icmp_eq (tgt := 113) hx hb dX12_nextToken_101 (by decide) (fun c5 => ?_) (fun c5 => ?_)
        · replace h := if_t h c5
          exact w_X12_nextToken_b113 C0  k0 k0 hk0 hk0 hH (lv_sub hl [0] rfl) h
        · replace h := if_f h c5
          refine lv_aload_n hx hb dX12_nextToken_104 rfl (lv_at hl 0 rfl) ?_
          refine gf_X12_113 C0 hH hk0 dX12_nextToken_105 ?_
          refine lv_bipush (v := 59) hx hb dX12_nextToken_108 (by decide) ?_
          refine lv_icmp_ne (tgt := 117) hx hb dX12_nextToken_110 (by decide) (fun c6 => ?_) (fun c6 => ?_)
          · replace h := if_f h c6
            refine lv_iconst (v := 0) hx hb dX12_nextToken_117 (by decide) ?_
            exact w_X12_nextToken_b118 C0  k0 k0 0 hk0 hk0 hH (lv_sub hl [0] rfl) h
          · replace h := if_t h c6
            exact w_X12_nextToken_b113 C0  k0 k0 hk0 hk0 hH (lv_sub hl [0] rfl) h
      · replace h := if_f h c4
        refine lv_iconst (v := 3) hx hb dX12_nextToken_91 (by decide) ?_
        refine lv_goto (tgt := 118) hx hb dX12_nextToken_92 (by decide) ?_
        exact w_X12_nextToken_b118 C0  k0 k0 3 hk0 hk0 hH (lv_sub hl [0] rfl) h
    · replace h := if_f h c3
      refine lv_iconst (v := 2) hx hb dX12_nextToken_70 (by decide) ?_
      refine lv_goto (tgt := 118) hx hb dX12_nextToken_71 (by decide) ?_
      exact w_X12_nextToken_b118 C0  k0 k0 2 hk0 hk0 hH (lv_sub hl [0] rfl) h
  · replace h := if_t h c2
    refine lv_iconst (v := 1) hx hb dX12_nextToken_49 (by decide) ?_
    refine lv_goto (tgt := 118) hx hb dX12_nextToken_50 (by decide) ?_
    exact w_X12_nextToken_b118 C0  k0 k0 1 hk0 hk0 hH (lv_sub hl [0] rfl) h
set_option maxRecDepth 100000 in
set_option maxHeartbeats 4000000 in
theorem w_X12_nextToken_b0 {σ' : Mem} (C0 : Cx E p m c cX12_nextToken 1 s args RX12 meth (none))  (k0 : Nat) (hk0 : kd k0 = 12) {σ : Mem} {H : Heap} {locs : List Loc} {ls : Array Slot} (hH : Hs E s σ H locs) (hl : lv_has ls 1 [(0, .ref (ea E k0))]) (h : X12_nextToken_b0 k0 σ = some σ') : W p l e (rmD 1) s m args below meth c H locs 0 0 (MQ below (QvM E σ') args s 0 0 (eA E)) (F0 m 0 ls []) := by
  obtain ⟨⟨hx, hb, hml, hown, hts⟩, hr, hlocks, hF, hAd⟩ := id C0
  unfold X12_nextToken_b0 at h
  refine lv_aload_n hx hb dX12_nextToken_0 rfl (lv_at hl 0 rfl) ?_
  refine lv_aload_n hx hb dX12_nextToken_1 rfl (lv_at hl 0 rfl) ?_
  refine gf_X12_109 C0 hH hk0 dX12_nextToken_2 ?_
  refine pf_X12_103 C0 hH hk0 dX12_nextToken_5 (fun H locs hH => ?_)
  refine lv_aload_n hx hb dX12_nextToken_8 rfl (lv_at hl 0 rfl) ?_
  refine lv_aload_n hx hb dX12_nextToken_9 rfl (lv_at hl 0 rfl) ?_
  obtain ⟨σ1, eσ1, h⟩ := letv_s h
  replace hH := hs_of eσ1 hH
  refine gf_X12_109 C0 hH hk0 dX12_nextToken_10 ?_
  refine lv_aload_n hx hb dX12_nextToken_13 rfl (lv_at hl 0 rfl) ?_
  refine gf_X12_96 C0 hH hk0 dX12_nextToken_14 ?_
  refine lv_icmp_ge (tgt := 32) hx hb dX12_nextToken_17 (by decide) (fun c2 => ?_) (fun c2 => ?_)
  · replace h := if_t h c2
    refine lv_ldc hx hb hown (hts _ qK_X12_112) dX12_nextToken_32 ?_
    exact w_X12_nextToken_b34 C0  k0 k0 (-1000000) hk0 hk0 hH (lv_sub hl [0] rfl) h
  · replace h := if_f h c2
    refine lv_aload_n hx hb dX12_nextToken_20 rfl (lv_at hl 0 rfl) ?_
    refine gf_X12_31 C0 hH hk0 dX12_nextToken_21 ?_
    refine lv_aload_n hx hb dX12_nextToken_24 rfl (lv_at hl 0 rfl) ?_
    refine gf_X12_109 C0 hH hk0 dX12_nextToken_25 ?_
    obtain ⟨b3, h⟩ := gdx_s h
    refine r_iald C0 hH (n := 130) (kf_12_9 hk0) b3 dX12_nextToken_28 ?_
    refine lv_goto (tgt := 34) hx hb dX12_nextToken_29 (by decide) ?_
    exact w_X12_nextToken_b34 C0  k0 k0 (σ1 (k0 + 8) (nc (σ1 k0 11))) hk0 hk0 hH (lv_sub hl [0] rfl) h
theorem c_X12_nextToken {l : Launch} {E : EnvT} (hAd : Ad E) (k0 : Nat) (hk0 : kd k0 = 12) (σ : Mem) {σ' : Mem} (h : X12_nextToken k0 σ = some σ') : Met l yX12_nextToken (wsM yX12_nextToken cX12_nextToken 1 (none)) (rmD 1) (PcM E [.ref (ea E k0)] σ) (QvM E σ') 0 0 (eA E) :=
  Met.ofM (by decide) (Nat.le_of_ble_eq_true rfl) (fun p e s m below meth c ls C0 hH hl => w_X12_nextToken_b0 C0 k0 hk0 hH hl h) hAd
set_option maxRecDepth 100000 in
set_option maxHeartbeats 4000000 in
theorem w_X12_must_b9 {σ' : Mem} (C0 : Cx E p m c cX12_must 2 s args RX12 meth (none))  (k0 : Nat) (hk0 : kd k0 = 12) {σ : Mem} {H : Heap} {locs : List Loc} {ls : Array Slot} (hH : Hs E s σ H locs) (hl : lv_has ls 2 [(0, .ref (ea E k0))]) (h : X12_must_b9 k0 σ = some σ') : W p l e (rmD 2) s m args below meth c H locs 0 0 (MQ below (QvM E σ') args s 0 0 (eA E)) (F0 m 9 ls []) := by
  obtain ⟨⟨hx, hb, hml, hown, hts⟩, hr, hlocks, hF, hAd⟩ := id C0
  unfold X12_must_b9 at h
  refine lv_aload_n hx hb dX12_must_9 rfl (lv_at hl 0 rfl) ?_
  refine gf_X12_100 C0 hH hk0 dX12_must_10 ?_
  refine lv_if_ne (tgt := 20) hx hb dX12_must_13 (by decide) (fun c1 => ?_) (fun c1 => ?_)
  · replace h := if_f h c1
    exact r_vret C0 hH (Option.some.inj h) dX12_must_20
  · replace h := if_t h c1
    refine lv_aload_n hx hb dX12_must_16 rfl (lv_at hl 0 rfl) ?_
    obtain ⟨σ2, qσ2, h⟩ := ob_s h
    refine go_v hH (va_run_V (As := []) (rest := []) C0 hH lk_X12_131 (c_X12_nextToken hAd k0 hk0 σ qσ2) (by decide) (ci := 12) hk0 (by decide) (cob_12 _ _ _) rfl rfl hl.1 rfl (Nat.le_of_ble_eq_true rfl) dX12_must_17) (fun H locs hH => ?_)
    exact r_vret C0 hH (Option.some.inj h) dX12_must_20
set_option maxRecDepth 100000 in
set_option maxHeartbeats 4000000 in
theorem w_X12_must_b0 {σ' : Mem} (C0 : Cx E p m c cX12_must 2 s args RX12 meth (none))  (k0 : Nat) (v1 : Int32) (hk0 : kd k0 = 12) {σ : Mem} {H : Heap} {locs : List Loc} {ls : Array Slot} (hH : Hs E s σ H locs) (hl : lv_has ls 2 [(0, .ref (ea E k0)), (1, .int v1)]) (h : X12_must_b0 k0 v1 σ = some σ') : W p l e (rmD 2) s m args below meth c H locs 0 0 (MQ below (QvM E σ') args s 0 0 (eA E)) (F0 m 0 ls []) := by
  obtain ⟨⟨hx, hb, hml, hown, hts⟩, hr, hlocks, hF, hAd⟩ := id C0
  unfold X12_must_b0 at h
  refine lv_iload_n hx hb dX12_must_0 rfl (lv_at hl 1 rfl) ?_
  refine lv_if_ne (tgt := 9) hx hb dX12_must_1 (by decide) (fun c1 => ?_) (fun c1 => ?_)
  · replace h := if_f h c1
    exact w_X12_must_b9 C0  k0 hk0 hH (lv_sub hl [0] rfl) h
  · replace h := if_t h c1
    refine lv_aload_n hx hb dX12_must_4 rfl (lv_at hl 0 rfl) ?_
    refine lv_iconst (v := 1) hx hb dX12_must_5 (by decide) ?_
    obtain ⟨σ2, qσ2, h⟩ := ob_s h
    refine go_v hH (va_run_V (As := [.int 1]) (rest := []) C0 hH lk_X12_127 (c_X12_bad hAd k0 1 hk0 σ qσ2) (by decide) (ci := 12) hk0 (by decide) (cob_12 _ _ _) rfl rfl hl.1 rfl (Nat.le_of_ble_eq_true rfl) dX12_must_6) (fun H locs hH => ?_)
    exact w_X12_must_b9 C0  k0 hk0 hH (lv_sub hl [0] rfl) h
theorem c_X12_must {l : Launch} {E : EnvT} (hAd : Ad E) (k0 : Nat) (v1 : Int32) (hk0 : kd k0 = 12) (σ : Mem) {σ' : Mem} (h : X12_must k0 v1 σ = some σ') : Met l yX12_must (wsM yX12_must cX12_must 2 (none)) (rmD 2) (PcM E [.ref (ea E k0), .int v1] σ) (QvM E σ') 0 0 (eA E) :=
  Met.ofM (by decide) (Nat.le_of_ble_eq_true rfl) (fun p e s m below meth c ls C0 hH hl => w_X12_must_b0 C0 k0 v1 hk0 hH hl h) hAd
set_option maxRecDepth 100000 in
set_option maxHeartbeats 4000000 in
theorem w_X12_number_b62 {r : Int32} {σ' : Mem} (C0 : Cx E p m c cX12_number 4 s args RX12 meth (some .int))  (k0 : Nat) (s0 : Int32) (hk0 : kd k0 = 12) {σ : Mem} {H : Heap} {locs : List Loc} {ls : Array Slot} (hH : Hs E s σ H locs) (hl : lv_has ls 4 [(0, .ref (ea E k0))]) (h : X12_number_b62 k0 s0 σ = some (r, σ')) : W p l e (rmD 3) s m args below meth c H locs 0 0 (MQ below (QiM E r σ') args s 0 0 (eA E)) (F0 m 62 ls [.int s0]) := by
  obtain ⟨⟨hx, hb, hml, hown, hts⟩, hr, hlocks, hF, hAd⟩ := id C0
  unfold X12_number_b62 at h
  refine lv_istore_n (lv' := [(3, .int s0), (0, .ref (ea E k0))]) hx hb dX12_number_62 rfl hl (by decide) rfl (fun ls hl => ?_)
  refine lv_aload_n hx hb dX12_number_63 rfl (lv_at hl 1 rfl) ?_
  refine lv_iconst (v := 1) hx hb dX12_number_64 (by decide) ?_
  obtain ⟨σ1, qσ1, h⟩ := ob_s h
  refine go_v hH (va_run_V (As := [.int 1]) (rest := []) C0 hH lk_X12_134 (c_X12_must hAd k0 1 hk0 σ qσ1) (by decide) (ci := 12) hk0 (by decide) (cob_12 _ _ _) rfl rfl hl.1 rfl (Nat.le_of_ble_eq_true rfl) dX12_number_65) (fun H locs hH => ?_)
  refine lv_iload_n hx hb dX12_number_68 rfl (lv_at hl 0 rfl) ?_
  exact r_iret C0 hH (pj1 h) (pj2 h) dX12_number_69
set_option maxRecDepth 100000 in
set_option maxHeartbeats 4000000 in
theorem w_X12_number_b47 {r : Int32} {σ' : Mem} (C0 : Cx E p m c cX12_number 4 s args RX12 meth (some .int))  (k0 : Nat) (v1 : Int32) (hk0 : kd k0 = 12) {σ : Mem} {H : Heap} {locs : List Loc} {ls : Array Slot} (hH : Hs E s σ H locs) (hl : lv_has ls 4 [(0, .ref (ea E k0)), (1, .int v1)]) (h : X12_number_b47 k0 v1 σ = some (r, σ')) : W p l e (rmD 3) s m args below meth c H locs 0 0 (MQ below (QiM E r σ') args s 0 0 (eA E)) (F0 m 47 ls []) := by
  obtain ⟨⟨hx, hb, hml, hown, hts⟩, hr, hlocks, hF, hAd⟩ := id C0
  unfold X12_number_b47 at h
  refine lv_aload_n hx hb dX12_number_47 rfl (lv_at hl 0 rfl) ?_
  refine gf_X12_100 C0 hH hk0 dX12_number_48 ?_
  refine lv_if_ne (tgt := 61) hx hb dX12_number_51 (by decide) (fun c1 => ?_) (fun c1 => ?_)
  · replace h := if_f h c1
    refine lv_iload_n hx hb dX12_number_61 rfl (lv_at hl 1 rfl) ?_
    exact w_X12_number_b62 C0  k0 v1 hk0 hH (lv_sub hl [0] rfl) h
  · replace h := if_t h c1
    refine lv_aload_n hx hb dX12_number_54 rfl (lv_at hl 0 rfl) ?_
    refine gf_X12_113 C0 hH hk0 dX12_number_55 ?_
    refine lv_goto (tgt := 62) hx hb dX12_number_58 (by decide) ?_
    exact w_X12_number_b62 C0  k0 (σ k0 14) hk0 hH (lv_sub hl [0] rfl) h
set_option maxRecDepth 100000 in
set_option maxHeartbeats 4000000 in
theorem w_X12_number_b20 {r : Int32} {σ' : Mem} (C0 : Cx E p m c cX12_number 4 s args RX12 meth (some .int))  (k0 : Nat) (v1 : Int32) (v2 : Int32) (hk0 : kd k0 = 12) {σ : Mem} {H : Heap} {locs : List Loc} {ls : Array Slot} (hH : Hs E s σ H locs) (hl : lv_has ls 4 [(0, .ref (ea E k0)), (1, .int v1), (2, .int v2)]) (h : X12_number_b20 k0 v1 v2 σ = some (r, σ')) : W p l e (rmD 3) s m args below meth c H locs 0 0 (MQ below (QiM E r σ') args s 0 0 (eA E)) (F0 m 20 ls []) := by
  obtain ⟨⟨hx, hb, hml, hown, hts⟩, hr, hlocks, hF, hAd⟩ := id C0
  unfold X12_number_b20 at h
  refine lv_aload_n hx hb dX12_number_20 rfl (lv_at hl 0 rfl) ?_
  refine gf_X12_100 C0 hH hk0 dX12_number_21 ?_
  refine lv_if_ne (tgt := 47) hx hb dX12_number_24 (by decide) (fun c1 => ?_) (fun c1 => ?_)
  · replace h := if_f h c1
    exact w_X12_number_b47 C0  k0 v1 hk0 hH (lv_sub hl [0, 1] rfl) h
  · replace h := if_t h c1
    refine lv_aload_n hx hb dX12_number_27 rfl (lv_at hl 0 rfl) ?_
    refine gf_X12_113 C0 hH hk0 dX12_number_28 ?_
    refine lv_i2l (v := Int32.toInt64 (σ k0 14)) hx hb dX12_number_31 rfl ?_
    refine lv_iload_n hx hb dX12_number_32 rfl (lv_at hl 1 rfl) ?_
    refine lv_i2l (v := Int32.toInt64 v1) hx hb dX12_number_33 rfl ?_
    refine lv_iload_n hx hb dX12_number_34 rfl (lv_at hl 2 rfl) ?_
    refine lv_i2l (v := Int32.toInt64 v2) hx hb dX12_number_35 rfl ?_
    refine go_i hH (va_run_S (As := [.long (Int32.toInt64 (σ k0 14)), .long (Int32.toInt64 v1), .long (Int32.toInt64 v2)]) (rest := []) C0 hH lk_X12_75 (c_X12_in hAd (Int32.toInt64 (σ k0 14)) (Int32.toInt64 v1) (Int32.toInt64 v2)  σ rfl) (by decide) rfl hl.1 rfl (Nat.le_of_ble_eq_true rfl) dX12_number_36) (fun H locs hH => ?_)
    refine lv_if_ne (tgt := 47) hx hb dX12_number_39 (by decide) (fun c2 => ?_) (fun c2 => ?_)
    · replace h := if_f h c2
      exact w_X12_number_b47 C0  k0 v1 hk0 hH (lv_sub hl [0, 1] rfl) h
    · replace h := if_t h c2
      refine lv_aload_n hx hb dX12_number_42 rfl (lv_at hl 0 rfl) ?_
      refine lv_iconst (v := 2) hx hb dX12_number_43 (by decide) ?_
      obtain ⟨σ3, qσ3, h⟩ := ob_s h
      refine go_v hH (va_run_V (As := [.int 2]) (rest := []) C0 hH lk_X12_127 (c_X12_bad hAd k0 2 hk0 σ qσ3) (by decide) (ci := 12) hk0 (by decide) (cob_12 _ _ _) rfl rfl hl.1 rfl (Nat.le_of_ble_eq_true rfl) dX12_number_44) (fun H locs hH => ?_)
      exact w_X12_number_b47 C0  k0 v1 hk0 hH (lv_sub hl [0, 1] rfl) h
set_option maxRecDepth 100000 in
set_option maxHeartbeats 4000000 in
theorem w_X12_number_b0 {r : Int32} {σ' : Mem} (C0 : Cx E p m c cX12_number 4 s args RX12 meth (some .int))  (k0 : Nat) (v1 : Int32) (v2 : Int32) (hk0 : kd k0 = 12) {σ : Mem} {H : Heap} {locs : List Loc} {ls : Array Slot} (hH : Hs E s σ H locs) (hl : lv_has ls 4 [(0, .ref (ea E k0)), (1, .int v1), (2, .int v2)]) (h : X12_number_b0 k0 v1 v2 σ = some (r, σ')) : W p l e (rmD 3) s m args below meth c H locs 0 0 (MQ below (QiM E r σ') args s 0 0 (eA E)) (F0 m 0 ls []) := by
  obtain ⟨⟨hx, hb, hml, hown, hts⟩, hr, hlocks, hF, hAd⟩ := id C0
  unfold X12_number_b0 at h
  refine lv_aload_n hx hb dX12_number_0 rfl (lv_at hl 0 rfl) ?_
  refine gf_X12_100 C0 hH hk0 dX12_number_1 ?_
  refine lv_if_ne (tgt := 20) hx hb dX12_number_4 (by decide) (fun c1 => ?_) (fun c1 => ?_)
  · replace h := if_f h c1
    exact w_X12_number_b20 C0  k0 v1 v2 hk0 hH (lv_sub hl [0, 1, 2] rfl) h
  · replace h := if_t h c1
    refine lv_aload_n hx hb dX12_number_7 rfl (lv_at hl 0 rfl) ?_
    refine gf_X12_124 C0 hH hk0 dX12_number_8 ?_
    refine lv_iconst (v := 3) hx hb dX12_number_11 (by decide) ?_
    refine lv_icmp_eq (tgt := 20) hx hb dX12_number_12 (by decide) (fun c2 => ?_) (fun c2 => ?_)
    · replace h := if_t h c2
      exact w_X12_number_b20 C0  k0 v1 v2 hk0 hH (lv_sub hl [0, 1, 2] rfl) h
    · replace h := if_f h c2
      refine lv_aload_n hx hb dX12_number_15 rfl (lv_at hl 0 rfl) ?_
      refine lv_iconst (v := 1) hx hb dX12_number_16 (by decide) ?_
      obtain ⟨σ3, qσ3, h⟩ := ob_s h
      refine go_v hH (va_run_V (As := [.int 1]) (rest := []) C0 hH lk_X12_127 (c_X12_bad hAd k0 1 hk0 σ qσ3) (by decide) (ci := 12) hk0 (by decide) (cob_12 _ _ _) rfl rfl hl.1 rfl (Nat.le_of_ble_eq_true rfl) dX12_number_17) (fun H locs hH => ?_)
      exact w_X12_number_b20 C0  k0 v1 v2 hk0 hH (lv_sub hl [0, 1, 2] rfl) h
theorem c_X12_number {l : Launch} {E : EnvT} (hAd : Ad E) (k0 : Nat) (v1 : Int32) (v2 : Int32) (hk0 : kd k0 = 12) (σ : Mem) {r : Int32} {σ' : Mem} (h : X12_number k0 v1 v2 σ = some (r, σ')) : Met l yX12_number (wsM yX12_number cX12_number 4 (some .int)) (rmD 3) (PcM E [.ref (ea E k0), .int v1, .int v2] σ) (QiM E r σ') 0 0 (eA E) :=
  Met.ofM (by decide) (Nat.le_of_ble_eq_true rfl) (fun p e s m below meth c ls C0 hH hl => w_X12_number_b0 C0 k0 v1 v2 hk0 hH hl h) hAd
set_option maxRecDepth 100000 in
set_option maxHeartbeats 4000000 in
theorem w_X12_mustSign_b22 {σ' : Mem} (C0 : Cx E p m c cX12_mustSign 2 s args RX12 meth (none))  (s0 : Nat) (s1 : Int32) (hs0 : kd s0 = 12) {σ : Mem} {H : Heap} {locs : List Loc} {ls : Array Slot} (hH : Hs E s σ H locs) (hl : lv_has ls 2 []) (h : X12_mustSign_b22 s0 s1 σ = some σ') : W p l e (rmD 3) s m args below meth c H locs 0 0 (MQ below (QvM E σ') args s 0 0 (eA E)) (F0 m 22 ls [.int s1, .ref (ea E s0)]) := by
  obtain ⟨⟨hx, hb, hml, hown, hts⟩, hr, hlocks, hF, hAd⟩ := id C0
  unfold X12_mustSign_b22 at h
  obtain ⟨σ1, qσ1, h⟩ := ob_s h
  refine go_v hH (va_run_V (As := [.int s1]) (rest := []) C0 hH lk_X12_134 (c_X12_must hAd s0 s1 hs0 σ qσ1) (by decide) (ci := 12) hs0 (by decide) (cob_12 _ _ _) rfl rfl hl.1 rfl (Nat.le_of_ble_eq_true rfl) dX12_mustSign_22) (fun H locs hH => ?_)
  exact r_vret C0 hH (Option.some.inj h) dX12_mustSign_25
set_option maxRecDepth 100000 in
set_option maxHeartbeats 4000000 in
theorem w_X12_mustSign_b21 {σ' : Mem} (C0 : Cx E p m c cX12_mustSign 2 s args RX12 meth (none))  (s0 : Nat) (hs0 : kd s0 = 12) {σ : Mem} {H : Heap} {locs : List Loc} {ls : Array Slot} (hH : Hs E s σ H locs) (hl : lv_has ls 2 []) (h : X12_mustSign_b21 s0 σ = some σ') : W p l e (rmD 3) s m args below meth c H locs 0 0 (MQ below (QvM E σ') args s 0 0 (eA E)) (F0 m 21 ls [.ref (ea E s0)]) := by
  obtain ⟨⟨hx, hb, hml, hown, hts⟩, hr, hlocks, hF, hAd⟩ := id C0
  unfold X12_mustSign_b21 at h
  refine lv_iconst (v := 0) hx hb dX12_mustSign_21 (by decide) ?_
  exact w_X12_mustSign_b22 C0  s0 0 hs0 hH (lv_sub hl [] rfl) h
set_option maxRecDepth 100000 in
set_option maxHeartbeats 4000000 in
theorem w_X12_mustSign_b0 {σ' : Mem} (C0 : Cx E p m c cX12_mustSign 2 s args RX12 meth (none))  (k0 : Nat) (v1 : Int32) (hk0 : kd k0 = 12) {σ : Mem} {H : Heap} {locs : List Loc} {ls : Array Slot} (hH : Hs E s σ H locs) (hl : lv_has ls 2 [(0, .ref (ea E k0)), (1, .int v1)]) (h : X12_mustSign_b0 k0 v1 σ = some σ') : W p l e (rmD 3) s m args below meth c H locs 0 0 (MQ below (QvM E σ') args s 0 0 (eA E)) (F0 m 0 ls []) := by
  obtain ⟨⟨hx, hb, hml, hown, hts⟩, hr, hlocks, hF, hAd⟩ := id C0
  unfold X12_mustSign_b0 at h
  refine lv_aload_n hx hb dX12_mustSign_0 rfl (lv_at hl 0 rfl) ?_
  refine lv_aload_n hx hb dX12_mustSign_1 rfl (lv_at hl 0 rfl) ?_
  refine gf_X12_124 C0 hH hk0 dX12_mustSign_2 ?_
  refine lv_iconst (v := 4) hx hb dX12_mustSign_5 (by decide) ?_
  refine lv_icmp_ne (tgt := 21) hx hb dX12_mustSign_6 (by decide) (fun c1 => ?_) (fun c1 => ?_)
  · replace h := if_f h c1
    exact w_X12_mustSign_b21 C0  k0 hk0 hH (lv_sub hl [] rfl) h
  · replace h := if_t h c1
    refine lv_aload_n hx hb dX12_mustSign_9 rfl (lv_at hl 0 rfl) ?_
    refine gf_X12_113 C0 hH hk0 dX12_mustSign_10 ?_
    refine lv_iload_n hx hb dX12_mustSign_13 rfl (lv_at hl 1 rfl) ?_
    refine lv_icmp_ne (tgt := 21) hx hb dX12_mustSign_14 (by decide) (fun c2 => ?_) (fun c2 => ?_)
    · replace h := if_f h c2
      exact w_X12_mustSign_b21 C0  k0 hk0 hH (lv_sub hl [] rfl) h
    · replace h := if_t h c2
      refine lv_iconst (v := 1) hx hb dX12_mustSign_17 (by decide) ?_
      refine lv_goto (tgt := 22) hx hb dX12_mustSign_18 (by decide) ?_
      exact w_X12_mustSign_b22 C0  k0 1 hk0 hH (lv_sub hl [] rfl) h
theorem c_X12_mustSign {l : Launch} {E : EnvT} (hAd : Ad E) (k0 : Nat) (v1 : Int32) (hk0 : kd k0 = 12) (σ : Mem) {σ' : Mem} (h : X12_mustSign k0 v1 σ = some σ') : Met l yX12_mustSign (wsM yX12_mustSign cX12_mustSign 2 (none)) (rmD 3) (PcM E [.ref (ea E k0), .int v1] σ) (QvM E σ') 0 0 (eA E) :=
  Met.ofM (by decide) (Nat.le_of_ble_eq_true rfl) (fun p e s m below meth c ls C0 hH hl => w_X12_mustSign_b0 C0 k0 v1 hk0 hH hl h) hAd
set_option maxRecDepth 100000 in
set_option maxHeartbeats 4000000 in
theorem w_X12_sortOf_b0 {r : Int32} (C0 : Cx E p m c cX12_sortOf 1 s args RX12 meth (some .int))  (v0 : Int32)  {σ : Mem} {H : Heap} {locs : List Loc} {ls : Array Slot} (hH : Hs E s σ H locs) (hl : lv_has ls 1 [(0, .int v0)]) (h : X12_sortOf_b0 v0 = r) : W p l e (rmD 0) s m args below meth c H locs 0 0 (MQ below (QiM E r σ) args s 0 0 (eA E)) (F0 m 0 ls []) := by
  obtain ⟨⟨hx, hb, hml, hown, hts⟩, hr, hlocks, hF, hAd⟩ := id C0
  unfold X12_sortOf_b0 at h
  refine lv_iload_n hx hb dX12_sortOf_0 rfl (lv_at hl 0 rfl) ?_
  refine lv_bipush (v := 112) hx hb dX12_sortOf_1 (by decide) ?_
  refine lv_icmp_ne (tgt := 10) hx hb dX12_sortOf_3 (by decide) (fun c1 => ?_) (fun c1 => ?_)
  · replace h := if_f h c1
    refine lv_iload_n hx hb dX12_sortOf_10 rfl (lv_at hl 0 rfl) ?_
    refine lv_bipush (v := 102) hx hb dX12_sortOf_11 (by decide) ?_
    refine lv_icmp_ne (tgt := 20) hx hb dX12_sortOf_13 (by decide) (fun c2 => ?_) (fun c2 => ?_)
    · replace h := if_f h c2
      refine lv_iload_n hx hb dX12_sortOf_20 rfl (lv_at hl 0 rfl) ?_
      refine lv_bipush (v := 114) hx hb dX12_sortOf_21 (by decide) ?_
      refine lv_icmp_ne (tgt := 30) hx hb dX12_sortOf_23 (by decide) (fun c3 => ?_) (fun c3 => ?_)
      · replace h := if_f h c3
        refine lv_iload_n hx hb dX12_sortOf_30 rfl (lv_at hl 0 rfl) ?_
        refine lv_bipush (v := 99) hx hb dX12_sortOf_31 (by decide) ?_
        refine lv_icmp_ne (tgt := 40) hx hb dX12_sortOf_33 (by decide) (fun c4 => ?_) (fun c4 => ?_)
        · replace h := if_f h c4
          refine lv_iload_n hx hb dX12_sortOf_40 rfl (lv_at hl 0 rfl) ?_
          refine lv_bipush (v := 103) hx hb dX12_sortOf_41 (by decide) ?_
          refine lv_icmp_ne (tgt := 50) hx hb dX12_sortOf_43 (by decide) (fun c5 => ?_) (fun c5 => ?_)
          · replace h := if_f h c5
            refine lv_iconst (v := 0) hx hb dX12_sortOf_50 (by decide) ?_
            exact r_iret C0 hH h rfl dX12_sortOf_51
          · replace h := if_t h c5
            refine lv_iconst (v := 5) hx hb dX12_sortOf_46 (by decide) ?_
            refine lv_goto (tgt := 51) hx hb dX12_sortOf_47 (by decide) ?_
            exact r_iret C0 hH h rfl dX12_sortOf_51
        · replace h := if_t h c4
          refine lv_iconst (v := 4) hx hb dX12_sortOf_36 (by decide) ?_
          refine lv_goto (tgt := 51) hx hb dX12_sortOf_37 (by decide) ?_
          exact r_iret C0 hH h rfl dX12_sortOf_51
      · replace h := if_t h c3
        refine lv_iconst (v := 3) hx hb dX12_sortOf_26 (by decide) ?_
        refine lv_goto (tgt := 51) hx hb dX12_sortOf_27 (by decide) ?_
        exact r_iret C0 hH h rfl dX12_sortOf_51
    · replace h := if_t h c2
      refine lv_iconst (v := 2) hx hb dX12_sortOf_16 (by decide) ?_
      refine lv_goto (tgt := 51) hx hb dX12_sortOf_17 (by decide) ?_
      exact r_iret C0 hH h rfl dX12_sortOf_51
  · replace h := if_t h c1
    refine lv_iconst (v := 1) hx hb dX12_sortOf_6 (by decide) ?_
    refine lv_goto (tgt := 51) hx hb dX12_sortOf_7 (by decide) ?_
    exact r_iret C0 hH h rfl dX12_sortOf_51
theorem c_X12_sortOf {l : Launch} {E : EnvT} (hAd : Ad E) (v0 : Int32)  (σ : Mem) {r : Int32} (h : X12_sortOf v0 = r) : Met l yX12_sortOf (wsM yX12_sortOf cX12_sortOf 1 (some .int)) (rmD 0) (PcM E [.int v0] σ) (QiM E r σ) 0 0 (eA E) :=
  Met.ofM (by decide) (Nat.le_of_ble_eq_true rfl) (fun p e s m below meth c ls C0 hH hl => w_X12_sortOf_b0 C0 v0  hH hl h) hAd
set_option maxRecDepth 100000 in
set_option maxHeartbeats 4000000 in
theorem w_X12_readPage_b48 {σ' : Mem} (C0 : Cx E p m c cX12_readPage 3 s args RX12 meth (none))  (k0 : Nat) (v1 : Int32) (hk0 : kd k0 = 12) {σ : Mem} {H : Heap} {locs : List Loc} {ls : Array Slot} (hH : Hs E s σ H locs) (hl : lv_has ls 3 [(0, .ref (ea E k0)), (1, .int v1)]) (h : X12_readPage_b48 k0 v1 σ = some σ') : W p l e (rmD 4) s m args below meth c H locs 0 0 (MQ below (QvM E σ') args s 0 0 (eA E)) (F0 m 48 ls []) := by
  obtain ⟨⟨hx, hb, hml, hown, hts⟩, hr, hlocks, hF, hAd⟩ := id C0
  unfold X12_readPage_b48 at h
  refine lv_aload_n hx hb dX12_readPage_48 rfl (lv_at hl 0 rfl) ?_
  refine gf_X12_100 C0 hH hk0 dX12_readPage_49 ?_
  refine lv_if_le (tgt := 56) hx hb dX12_readPage_52 (by decide) (fun c1 => ?_) (fun c1 => ?_)
  · replace h := if_t h c1
    refine lv_iconst (v := 3) hx hb dX12_readPage_56 (by decide) ?_
    refine lv_iconst (v := 4) hx hb dX12_readPage_57 (by decide) ?_
    refine lv_aload_n hx hb dX12_readPage_58 rfl (lv_at hl 0 rfl) ?_
    refine gf_X12_22 C0 hH hk0 dX12_readPage_59 ?_
    refine lv_iconst (v := 0) hx hb dX12_readPage_62 (by decide) ?_
    refine r_iald C0 hH (n := 43) (kf_12_5 hk0) (vin (by decide)) dX12_readPage_63 ?_
    refine lv_imul hx hb dX12_readPage_64 ?_
    refine lv_iadd hx hb dX12_readPage_65 ?_
    obtain ⟨x2, ex2, h⟩ := letv_s h
    refine topi_of ex2 ?_
    refine lv_istore_n (lv' := [(2, .int x2), (0, .ref (ea E k0)), (1, .int v1)]) hx hb dX12_readPage_66 rfl hl (by decide) rfl (fun ls hl => ?_)
    refine lv_aload_n hx hb dX12_readPage_67 rfl (lv_at hl 1 rfl) ?_
    obtain ⟨σ3, qσ3, h⟩ := ob_s h
    refine go_v hH (va_run_V (As := []) (rest := []) C0 hH lk_X12_131 (c_X12_nextToken hAd k0 hk0 σ qσ3) (by decide) (ci := 12) hk0 (by decide) (cob_12 _ _ _) rfl rfl hl.1 rfl (Nat.le_of_ble_eq_true rfl) dX12_readPage_68) (fun H locs hH => ?_)
    refine lv_aload_n hx hb dX12_readPage_71 rfl (lv_at hl 1 rfl) ?_
    refine gf_X12_22 C0 hH hk0 dX12_readPage_72 ?_
    refine lv_iload_n hx hb dX12_readPage_75 rfl (lv_at hl 0 rfl) ?_
    refine lv_iload_n hx hb dX12_readPage_76 rfl (lv_at hl 2 rfl) ?_
    obtain ⟨b4, h⟩ := gdx_s h
    refine r_iast C0 hH (n := 43) (kf_12_5 hk0) b4 dX12_readPage_77 (fun H locs hH => ?_)
    refine lv_aload_n hx hb dX12_readPage_78 rfl (lv_at hl 1 rfl) ?_
    refine gf_X12_22 C0 hH hk0 dX12_readPage_79 ?_
    refine lv_iload_n hx hb dX12_readPage_82 rfl (lv_at hl 0 rfl) ?_
    refine lv_iconst (v := 1) hx hb dX12_readPage_83 (by decide) ?_
    refine lv_iadd hx hb dX12_readPage_84 ?_
    refine lv_aload_n hx hb dX12_readPage_85 rfl (lv_at hl 1 rfl) ?_
    refine lv_iconst (v := 0) hx hb dX12_readPage_86 (by decide) ?_
    refine lv_bipush (v := 30) hx hb dX12_readPage_87 (by decide) ?_
    obtain ⟨r5, σ6, qr5, h⟩ := ob2_s h
    refine go_i hH (va_run_V (As := [.int 0, .int 30]) (rest := [.int (x2 + 1), .ref (ea E (k0 + 5))]) C0 hH lk_X12_141 (c_X12_number hAd k0 0 30 hk0 (wr σ3 (k0 + 5) (nc x2) v1) qr5) (by decide) (ci := 12) hk0 (by decide) (cob_12 _ _ _) rfl rfl hl.1 rfl (Nat.le_of_ble_eq_true rfl) dX12_readPage_89) (fun H locs hH => ?_)
    obtain ⟨b7, h⟩ := gdx_s h
    refine r_iast C0 hH (n := 43) (kf_12_5 hk0) b7 dX12_readPage_92 (fun H locs hH => ?_)
    refine lv_aload_n hx hb dX12_readPage_93 rfl (lv_at hl 1 rfl) ?_
    refine lv_bipush (v := 44) hx hb dX12_readPage_94 (by decide) ?_
    obtain ⟨σ8, qσ8, h⟩ := ob_s h
    refine go_v hH (va_run_V (As := [.int 44]) (rest := []) C0 hH lk_X12_145 (c_X12_mustSign hAd k0 44 hk0 (wr σ6 (k0 + 5) (nc (x2 + 1)) r5) qσ8) (by decide) (ci := 12) hk0 (by decide) (cob_12 _ _ _) rfl rfl hl.1 rfl (Nat.le_of_ble_eq_true rfl) dX12_readPage_96) (fun H locs hH => ?_)
    refine lv_aload_n hx hb dX12_readPage_99 rfl (lv_at hl 1 rfl) ?_
    refine gf_X12_22 C0 hH hk0 dX12_readPage_100 ?_
    refine lv_iload_n hx hb dX12_readPage_103 rfl (lv_at hl 0 rfl) ?_
    refine lv_iconst (v := 2) hx hb dX12_readPage_104 (by decide) ?_
    refine lv_iadd hx hb dX12_readPage_105 ?_
    refine lv_aload_n hx hb dX12_readPage_106 rfl (lv_at hl 1 rfl) ?_
    refine lv_iconst (v := 0) hx hb dX12_readPage_107 (by decide) ?_
    refine lv_bipush (v := 30) hx hb dX12_readPage_108 (by decide) ?_
    obtain ⟨r9, σ10, qr9, h⟩ := ob2_s h
    refine go_i hH (va_run_V (As := [.int 0, .int 30]) (rest := [.int (x2 + 2), .ref (ea E (k0 + 5))]) C0 hH lk_X12_141 (c_X12_number hAd k0 0 30 hk0 σ8 qr9) (by decide) (ci := 12) hk0 (by decide) (cob_12 _ _ _) rfl rfl hl.1 rfl (Nat.le_of_ble_eq_true rfl) dX12_readPage_110) (fun H locs hH => ?_)
    obtain ⟨b11, h⟩ := gdx_s h
    refine r_iast C0 hH (n := 43) (kf_12_5 hk0) b11 dX12_readPage_113 (fun H locs hH => ?_)
    refine lv_aload_n hx hb dX12_readPage_114 rfl (lv_at hl 1 rfl) ?_
    refine lv_bipush (v := 44) hx hb dX12_readPage_115 (by decide) ?_
    obtain ⟨σ12, qσ12, h⟩ := ob_s h
    refine go_v hH (va_run_V (As := [.int 44]) (rest := []) C0 hH lk_X12_145 (c_X12_mustSign hAd k0 44 hk0 (wr σ10 (k0 + 5) (nc (x2 + 2)) r9) qσ12) (by decide) (ci := 12) hk0 (by decide) (cob_12 _ _ _) rfl rfl hl.1 rfl (Nat.le_of_ble_eq_true rfl) dX12_readPage_117) (fun H locs hH => ?_)
    refine lv_aload_n hx hb dX12_readPage_120 rfl (lv_at hl 1 rfl) ?_
    refine gf_X12_22 C0 hH hk0 dX12_readPage_121 ?_
    refine lv_iload_n hx hb dX12_readPage_124 rfl (lv_at hl 0 rfl) ?_
    refine lv_iconst (v := 3) hx hb dX12_readPage_125 (by decide) ?_
    refine lv_iadd hx hb dX12_readPage_126 ?_
    refine lv_aload_n hx hb dX12_readPage_127 rfl (lv_at hl 1 rfl) ?_
    refine lv_iconst (v := 0) hx hb dX12_readPage_128 (by decide) ?_
    refine lv_bipush (v := 30) hx hb dX12_readPage_129 (by decide) ?_
    obtain ⟨r13, σ14, qr13, h⟩ := ob2_s h
    refine go_i hH (va_run_V (As := [.int 0, .int 30]) (rest := [.int (x2 + 3), .ref (ea E (k0 + 5))]) C0 hH lk_X12_141 (c_X12_number hAd k0 0 30 hk0 σ12 qr13) (by decide) (ci := 12) hk0 (by decide) (cob_12 _ _ _) rfl rfl hl.1 rfl (Nat.le_of_ble_eq_true rfl) dX12_readPage_131) (fun H locs hH => ?_)
    obtain ⟨b15, h⟩ := gdx_s h
    refine r_iast C0 hH (n := 43) (kf_12_5 hk0) b15 dX12_readPage_134 (fun H locs hH => ?_)
    refine lv_aload_n hx hb dX12_readPage_135 rfl (lv_at hl 1 rfl) ?_
    refine lv_bipush (v := 59) hx hb dX12_readPage_136 (by decide) ?_
    obtain ⟨σ16, qσ16, h⟩ := ob_s h
    refine go_v hH (va_run_V (As := [.int 59]) (rest := []) C0 hH lk_X12_145 (c_X12_mustSign hAd k0 59 hk0 (wr σ14 (k0 + 5) (nc (x2 + 3)) r13) qσ16) (by decide) (ci := 12) hk0 (by decide) (cob_12 _ _ _) rfl rfl hl.1 rfl (Nat.le_of_ble_eq_true rfl) dX12_readPage_138) (fun H locs hH => ?_)
    refine lv_aload_n hx hb dX12_readPage_141 rfl (lv_at hl 1 rfl) ?_
    refine gf_X12_22 C0 hH hk0 dX12_readPage_142 ?_
    refine lv_iconst (v := 0) hx hb dX12_readPage_145 (by decide) ?_
    refine lv_dup2_11 hx hb dX12_readPage_146 rfl rfl ?_
    refine r_iald C0 hH (n := 43) (kf_12_5 hk0) (vin (by decide)) dX12_readPage_147 ?_
    refine lv_iconst (v := 1) hx hb dX12_readPage_148 (by decide) ?_
    refine lv_iadd hx hb dX12_readPage_149 ?_
    refine r_iast C0 hH (n := 43) (kf_12_5 hk0) (vin (by decide)) dX12_readPage_150 (fun H locs hH => ?_)
    exact r_vret C0 hH (Option.some.inj h) dX12_readPage_151
  · replace h := if_f h c1
    exact r_vret C0 hH (Option.some.inj h) dX12_readPage_55
set_option maxRecDepth 100000 in
set_option maxHeartbeats 4000000 in
theorem w_X12_readPage_b19 {σ' : Mem} (C0 : Cx E p m c cX12_readPage 3 s args RX12 meth (none))  (k0 : Nat) (s0 : Int32) (hk0 : kd k0 = 12) {σ : Mem} {H : Heap} {locs : List Loc} {ls : Array Slot} (hH : Hs E s σ H locs) (hl : lv_has ls 3 [(0, .ref (ea E k0))]) (h : X12_readPage_b19 k0 s0 σ = some σ') : W p l e (rmD 4) s m args below meth c H locs 0 0 (MQ below (QvM E σ') args s 0 0 (eA E)) (F0 m 19 ls [.int s0]) := by
  obtain ⟨⟨hx, hb, hml, hown, hts⟩, hr, hlocks, hF, hAd⟩ := id C0
  unfold X12_readPage_b19 at h
  refine lv_istore_n (lv' := [(1, .int s0), (0, .ref (ea E k0))]) hx hb dX12_readPage_19 rfl hl (by decide) rfl (fun ls hl => ?_)
  refine lv_iload_n hx hb dX12_readPage_20 rfl (lv_at hl 0 rfl) ?_
  refine lv_if_ne (tgt := 32) hx hb dX12_readPage_21 (by decide) (fun c1 => ?_) (fun c1 => ?_)
  · replace h := if_f h c1
    refine lv_aload_n hx hb dX12_readPage_32 rfl (lv_at hl 1 rfl) ?_
    refine gf_X12_22 C0 hH hk0 dX12_readPage_33 ?_
    refine lv_iconst (v := 0) hx hb dX12_readPage_36 (by decide) ?_
    refine r_iald C0 hH (n := 43) (kf_12_5 hk0) (vin (by decide)) dX12_readPage_37 ?_
    refine lv_bipush (v := 10) hx hb dX12_readPage_38 (by decide) ?_
    refine lv_icmp_ne (tgt := 48) hx hb dX12_readPage_40 (by decide) (fun c2 => ?_) (fun c2 => ?_)
    · replace h := if_f h c2
      exact w_X12_readPage_b48 C0  k0 s0 hk0 hH (lv_sub hl [1, 0] rfl) h
    · replace h := if_t h c2
      refine lv_aload_n hx hb dX12_readPage_43 rfl (lv_at hl 1 rfl) ?_
      refine lv_iconst (v := 3) hx hb dX12_readPage_44 (by decide) ?_
      obtain ⟨σ3, qσ3, h⟩ := ob_s h
      refine go_v hH (va_run_V (As := [.int 3]) (rest := []) C0 hH lk_X12_127 (c_X12_bad hAd k0 3 hk0 σ qσ3) (by decide) (ci := 12) hk0 (by decide) (cob_12 _ _ _) rfl rfl hl.1 rfl (Nat.le_of_ble_eq_true rfl) dX12_readPage_45) (fun H locs hH => ?_)
      exact w_X12_readPage_b48 C0  k0 s0 hk0 hH (lv_sub hl [1, 0] rfl) h
  · replace h := if_t h c1
    refine lv_aload_n hx hb dX12_readPage_24 rfl (lv_at hl 1 rfl) ?_
    refine lv_iconst (v := 1) hx hb dX12_readPage_25 (by decide) ?_
    obtain ⟨σ4, qσ4, h⟩ := ob_s h
    refine go_v hH (va_run_V (As := [.int 1]) (rest := []) C0 hH lk_X12_127 (c_X12_bad hAd k0 1 hk0 σ qσ4) (by decide) (ci := 12) hk0 (by decide) (cob_12 _ _ _) rfl rfl hl.1 rfl (Nat.le_of_ble_eq_true rfl) dX12_readPage_26) (fun H locs hH => ?_)
    refine lv_goto (tgt := 48) hx hb dX12_readPage_29 (by decide) ?_
    exact w_X12_readPage_b48 C0  k0 s0 hk0 hH (lv_sub hl [1, 0] rfl) h
set_option maxRecDepth 100000 in
set_option maxHeartbeats 4000000 in
theorem w_X12_readPage_b0 {σ' : Mem} (C0 : Cx E p m c cX12_readPage 3 s args RX12 meth (none))  (k0 : Nat) (hk0 : kd k0 = 12) {σ : Mem} {H : Heap} {locs : List Loc} {ls : Array Slot} (hH : Hs E s σ H locs) (hl : lv_has ls 3 [(0, .ref (ea E k0))]) (h : X12_readPage_b0 k0 σ = some σ') : W p l e (rmD 4) s m args below meth c H locs 0 0 (MQ below (QvM E σ') args s 0 0 (eA E)) (F0 m 0 ls []) := by
  obtain ⟨⟨hx, hb, hml, hown, hts⟩, hr, hlocks, hF, hAd⟩ := id C0
  unfold X12_readPage_b0 at h
  refine lv_aload_n hx hb dX12_readPage_0 rfl (lv_at hl 0 rfl) ?_
  refine gf_X12_124 C0 hH hk0 dX12_readPage_1 ?_
  refine lv_iconst (v := 2) hx hb dX12_readPage_4 (by decide) ?_
  refine lv_icmp_ne (tgt := 18) hx hb dX12_readPage_5 (by decide) (fun c1 => ?_) (fun c1 => ?_)
  · replace h := if_f h c1
    refine lv_iconst (v := 0) hx hb dX12_readPage_18 (by decide) ?_
    exact w_X12_readPage_b19 C0  k0 0 hk0 hH (lv_sub hl [0] rfl) h
  · replace h := if_t h c1
    refine lv_aload_n hx hb dX12_readPage_8 rfl (lv_at hl 0 rfl) ?_
    refine gf_X12_113 C0 hH hk0 dX12_readPage_9 ?_
    refine go_i hH (va_run_S (As := [.int (σ k0 14)]) (rest := []) C0 hH lk_X12_138 (c_X12_sortOf hAd (σ k0 14)  σ rfl) (by decide) rfl hl.1 rfl (Nat.le_of_ble_eq_true rfl) dX12_readPage_12) (fun H locs hH => ?_)
    refine lv_goto (tgt := 19) hx hb dX12_readPage_15 (by decide) ?_
    exact w_X12_readPage_b19 C0  k0 (X12_sortOf (σ k0 14)) hk0 hH (lv_sub hl [0] rfl) h
theorem c_X12_readPage {l : Launch} {E : EnvT} (hAd : Ad E) (k0 : Nat) (hk0 : kd k0 = 12) (σ : Mem) {σ' : Mem} (h : X12_readPage k0 σ = some σ') : Met l yX12_readPage (wsM yX12_readPage cX12_readPage 3 (none)) (rmD 4) (PcM E [.ref (ea E k0)] σ) (QvM E σ') 0 0 (eA E) :=
  Met.ofM (by decide) (Nat.le_of_ble_eq_true rfl) (fun p e s m below meth c ls C0 hH hl => w_X12_readPage_b0 C0 k0 hk0 hH hl h) hAd
set_option maxRecDepth 100000 in
set_option maxHeartbeats 4000000 in
theorem w_X12_book_b171 {r : Int32} {σ' : Mem} (C0 : Cx E p m c cX12_book 2 s args RX12 meth (some .int)) (K171 : Nat → Int32 → Mem → Option (Int32 × Mem)) (hK171 : ∀ (k0 : Nat) (v1 : Int32) (hk0 : kd k0 = 12) (σ : Mem) (H : Heap) (locs : List Loc) (ls : Array Slot), Hs E s σ H locs → lv_has ls 2 [(0, .ref (ea E k0)), (1, .int v1)] → K171 k0 v1 σ = some (r, σ') → W p l e (rmD 5) s m args below meth c H locs 0 0 (MQ below (QiM E r σ') args s 0 0 (eA E)) (F0 m 171 ls []))  (k0 : Nat) (v1 : Int32) (hk0 : kd k0 = 12) {σ : Mem} {H : Heap} {locs : List Loc} {ls : Array Slot} (hH : Hs E s σ H locs) (hl : lv_has ls 2 [(0, .ref (ea E k0)), (1, .int v1)]) (h : X12_book_b171 K171 k0 v1 σ = some (r, σ')) : W p l e (rmD 5) s m args below meth c H locs 0 0 (MQ below (QiM E r σ') args s 0 0 (eA E)) (F0 m 171 ls []) := by
  obtain ⟨⟨hx, hb, hml, hown, hts⟩, hr, hlocks, hF, hAd⟩ := id C0
  unfold X12_book_b171 at h
  refine lv_iload_n hx hb dX12_book_171 rfl (lv_at hl 1 rfl) ?_
  refine lv_bipush (v := 43) hx hb dX12_book_172 (by decide) ?_
  refine lv_icmp_ge (tgt := 195) hx hb dX12_book_174 (by decide) (fun c1 => ?_) (fun c1 => ?_)
  · replace h := if_t h c1
    refine lv_aload_n hx hb dX12_book_195 rfl (lv_at hl 0 rfl) ?_
    refine gf_X12_19 C0 hH hk0 dX12_book_196 ?_
    refine lv_iconst (v := 0) hx hb dX12_book_199 (by decide) ?_
    refine r_iald C0 hH (n := 43) (kf_12_4 hk0) (vin (by decide)) dX12_book_200 ?_
    exact r_iret C0 hH (pj1 h) (pj2 h) dX12_book_201
  · replace h := if_f h c1
    refine lv_aload_n hx hb dX12_book_177 rfl (lv_at hl 0 rfl) ?_
    refine gf_X12_19 C0 hH hk0 dX12_book_178 ?_
    refine lv_iload_n hx hb dX12_book_181 rfl (lv_at hl 1 rfl) ?_
    refine lv_aload_n hx hb dX12_book_182 rfl (lv_at hl 0 rfl) ?_
    refine gf_X12_22 C0 hH hk0 dX12_book_183 ?_
    refine lv_iload_n hx hb dX12_book_186 rfl (lv_at hl 1 rfl) ?_
    obtain ⟨b2, h⟩ := gdx_s h
    refine r_iald C0 hH (n := 43) (kf_12_5 hk0) b2 dX12_book_187 ?_
    obtain ⟨b3, h⟩ := gdx_s h
    refine r_iast C0 hH (n := 43) (kf_12_4 hk0) b3 dX12_book_188 (fun H locs hH => ?_)
    refine lv_iinc (v := v1 + 1) (lv' := [(1, .int (v1 + 1)), (0, .ref (ea E k0))]) hx hb dX12_book_189 hl (k := 1) rfl rfl (by decide) rfl (fun ls hl => ?_)
    refine lv_goto (tgt := 171) hx hb dX12_book_192 (by decide) ?_
    exact hK171 k0 (v1 + 1) hk0 _ _ _ _ hH (lv_sub hl [1, 0] rfl) h
set_option maxRecDepth 100000 in
set_option maxHeartbeats 4000000 in
theorem w_X12_book_l171 {r : Int32} {σ' : Mem} (C0 : Cx E p m c cX12_book 2 s args RX12 meth (some .int))  (n : Nat) : ∀ (k0 : Nat) (v1 : Int32) (hk0 : kd k0 = 12) (σ : Mem) (H : Heap) (locs : List Loc) (ls : Array Slot), Hs E s σ H locs → lv_has ls 2 [(0, .ref (ea E k0)), (1, .int v1)] → X12_book_l171 n k0 v1 σ = some (r, σ') → W p l e (rmD 5) s m args below meth c H locs 0 0 (MQ below (QiM E r σ') args s 0 0 (eA E)) (F0 m 171 ls []) := by
  induction n with
  | zero =>
    intro k0 v1 hk0 σ H locs ls hH hl h
    cases h
  | succ n ih =>
    intro k0 v1 hk0 σ H locs ls hH hl h
    exact w_X12_book_b171 C0 (X12_book_l171 n)  ih k0 v1 hk0 hH hl h
set_option maxRecDepth 100000 in
set_option maxHeartbeats 4000000 in
theorem w_X12_book_b136 {r : Int32} {σ' : Mem} (C0 : Cx E p m c cX12_book 2 s args RX12 meth (some .int))  (k0 : Nat) (hk0 : kd k0 = 12) {σ : Mem} {H : Heap} {locs : List Loc} {ls : Array Slot} (hH : Hs E s σ H locs) (hl : lv_has ls 2 [(0, .ref (ea E k0))]) (h : X12_book_b136 k0 σ = some (r, σ')) : W p l e (rmD 5) s m args below meth c H locs 0 0 (MQ below (QiM E r σ') args s 0 0 (eA E)) (F0 m 136 ls []) := by
  obtain ⟨⟨hx, hb, hml, hown, hts⟩, hr, hlocks, hF, hAd⟩ := id C0
  unfold X12_book_b136 at h
  refine lv_aload_n hx hb dX12_book_136 rfl (lv_at hl 0 rfl) ?_
  refine lv_iconst (v := 0) hx hb dX12_book_137 (by decide) ?_
  refine pf_X12_96 C0 hH hk0 dX12_book_138 (fun H locs hH => ?_)
  refine lv_aload_n hx hb dX12_book_141 rfl (lv_at hl 0 rfl) ?_
  obtain ⟨σ1, eσ1, h⟩ := letv_s h
  replace hH := hs_of eσ1 hH
  refine gf_X12_100 C0 hH hk0 dX12_book_142 ?_
  refine lv_if_le (tgt := 164) hx hb dX12_book_145 (by decide) (fun c2 => ?_) (fun c2 => ?_)
  · replace h := if_t h c2
    refine lv_aload_n hx hb dX12_book_164 rfl (lv_at hl 0 rfl) ?_
    refine lv_iconst (v := 0) hx hb dX12_book_165 (by decide) ?_
    refine pf_X12_155 C0 hH hk0 dX12_book_166 (fun H locs hH => ?_)
    refine lv_iconst (v := 0) hx hb dX12_book_169 (by decide) ?_
    refine lv_istore_n (lv' := [(1, .int 0), (0, .ref (ea E k0))]) hx hb dX12_book_170 rfl hl (by decide) rfl (fun ls hl => ?_)
    exact w_X12_book_l171 C0  FU k0 0 hk0 _ _ _ _ hH (lv_sub hl [1, 0] rfl) h
  · replace h := if_f h c2
    refine lv_aload_n hx hb dX12_book_148 rfl (lv_at hl 0 rfl) ?_
    refine lv_aload_n hx hb dX12_book_149 rfl (lv_at hl 0 rfl) ?_
    refine gf_X12_100 C0 hH hk0 dX12_book_150 ?_
    refine pf_X12_151 C0 hH hk0 dX12_book_153 (fun H locs hH => ?_)
    refine lv_ldc hx hb hown (hts _ qK_X12_154) dX12_book_156 ?_
    refine lv_aload_n hx hb dX12_book_158 rfl (lv_at hl 0 rfl) ?_
    obtain ⟨σ3, eσ3, h⟩ := letv_s h
    replace hH := hs_of eσ3 hH
    refine gf_X12_106 C0 hH hk0 dX12_book_159 ?_
    refine lv_isub hx hb dX12_book_162 ?_
    exact r_iret C0 hH (pj1 h) (pj2 h) dX12_book_163
set_option maxRecDepth 100000 in
set_option maxHeartbeats 4000000 in
theorem w_X12_book_b126 {r : Int32} {σ' : Mem} (C0 : Cx E p m c cX12_book 2 s args RX12 meth (some .int)) (K101 : Nat → Int32 → Mem → Option (Int32 × Mem)) (hK101 : ∀ (k0 : Nat) (v1 : Int32) (hk0 : kd k0 = 12) (σ : Mem) (H : Heap) (locs : List Loc) (ls : Array Slot), Hs E s σ H locs → lv_has ls 2 [(0, .ref (ea E k0)), (1, .int v1)] → K101 k0 v1 σ = some (r, σ') → W p l e (rmD 5) s m args below meth c H locs 0 0 (MQ below (QiM E r σ') args s 0 0 (eA E)) (F0 m 101 ls []))  (k0 : Nat) (v1 : Int32) (hk0 : kd k0 = 12) {σ : Mem} {H : Heap} {locs : List Loc} {ls : Array Slot} (hH : Hs E s σ H locs) (hl : lv_has ls 2 [(0, .ref (ea E k0)), (1, .int v1)]) (h : X12_book_b126 K101 k0 v1 σ = some (r, σ')) : W p l e (rmD 5) s m args below meth c H locs 0 0 (MQ below (QiM E r σ') args s 0 0 (eA E)) (F0 m 126 ls []) := by
  obtain ⟨⟨hx, hb, hml, hown, hts⟩, hr, hlocks, hF, hAd⟩ := id C0
  unfold X12_book_b126 at h
  refine lv_aload_n hx hb dX12_book_126 rfl (lv_at hl 0 rfl) ?_
  obtain ⟨σ1, qσ1, h⟩ := ob_s h
  refine go_v hH (va_run_V (As := []) (rest := []) C0 hH lk_X12_148 (c_X12_readPage hAd k0 hk0 σ qσ1) (by decide) (ci := 12) hk0 (by decide) (cob_12 _ _ _) rfl rfl hl.1 rfl (Nat.le_of_ble_eq_true rfl) dX12_book_127) (fun H locs hH => ?_)
  refine lv_iinc (v := v1 + 1) (lv' := [(1, .int (v1 + 1)), (0, .ref (ea E k0))]) hx hb dX12_book_130 hl (k := 1) rfl rfl (by decide) rfl (fun ls hl => ?_)
  refine lv_goto (tgt := 101) hx hb dX12_book_133 (by decide) ?_
  exact hK101 k0 (v1 + 1) hk0 _ _ _ _ hH (lv_sub hl [1, 0] rfl) h
set_option maxRecDepth 100000 in
set_option maxHeartbeats 4000000 in
theorem w_X12_book_b101 {r : Int32} {σ' : Mem} (C0 : Cx E p m c cX12_book 2 s args RX12 meth (some .int)) (K101 : Nat → Int32 → Mem → Option (Int32 × Mem)) (hK101 : ∀ (k0 : Nat) (v1 : Int32) (hk0 : kd k0 = 12) (σ : Mem) (H : Heap) (locs : List Loc) (ls : Array Slot), Hs E s σ H locs → lv_has ls 2 [(0, .ref (ea E k0)), (1, .int v1)] → K101 k0 v1 σ = some (r, σ') → W p l e (rmD 5) s m args below meth c H locs 0 0 (MQ below (QiM E r σ') args s 0 0 (eA E)) (F0 m 101 ls []))  (k0 : Nat) (v1 : Int32) (hk0 : kd k0 = 12) {σ : Mem} {H : Heap} {locs : List Loc} {ls : Array Slot} (hH : Hs E s σ H locs) (hl : lv_has ls 2 [(0, .ref (ea E k0)), (1, .int v1)]) (h : X12_book_b101 K101 k0 v1 σ = some (r, σ')) : W p l e (rmD 5) s m args below meth c H locs 0 0 (MQ below (QiM E r σ') args s 0 0 (eA E)) (F0 m 101 ls []) := by
  obtain ⟨⟨hx, hb, hml, hown, hts⟩, hr, hlocks, hF, hAd⟩ := id C0
  unfold X12_book_b101 at h
  refine lv_iload_n hx hb dX12_book_101 rfl (lv_at hl 1 rfl) ?_
  refine lv_bipush (v := 10) hx hb dX12_book_102 (by decide) ?_
  refine lv_icmp_gt (tgt := 136) hx hb dX12_book_104 (by decide) (fun c1 => ?_) (fun c1 => ?_)
  · replace h := if_t h c1
    exact w_X12_book_b136 C0  k0 hk0 hH (lv_sub hl [0] rfl) h
  · replace h := if_f h c1
    refine lv_aload_n hx hb dX12_book_107 rfl (lv_at hl 0 rfl) ?_
    refine gf_X12_100 C0 hH hk0 dX12_book_108 ?_
    refine lv_if_ne (tgt := 136) hx hb dX12_book_111 (by decide) (fun c2 => ?_) (fun c2 => ?_)
    · replace h := if_f h c2
      exact w_X12_book_b136 C0  k0 hk0 hH (lv_sub hl [0] rfl) h
    · replace h := if_t h c2
      refine lv_iload_n hx hb dX12_book_114 rfl (lv_at hl 1 rfl) ?_
      refine lv_if_eq (tgt := 126) hx hb dX12_book_115 (by decide) (fun c3 => ?_) (fun c3 => ?_)
      · replace h := if_t h c3
        exact w_X12_book_b126 C0 K101 hK101 k0 v1 hk0 hH (lv_sub hl [0, 1] rfl) h
      · replace h := if_f h c3
        refine lv_aload_n hx hb dX12_book_118 rfl (lv_at hl 0 rfl) ?_
        refine gf_X12_124 C0 hH hk0 dX12_book_119 ?_
        refine lv_iconst (v := 1) hx hb dX12_book_122 (by decide) ?_
        refine lv_icmp_eq (tgt := 136) hx hb dX12_book_123 (by decide) (fun c4 => ?_) (fun c4 => ?_)
        · replace h := if_t h c4
          exact w_X12_book_b136 C0  k0 hk0 hH (lv_sub hl [0] rfl) h
        · replace h := if_f h c4
          exact w_X12_book_b126 C0 K101 hK101 k0 v1 hk0 hH (lv_sub hl [0, 1] rfl) h
set_option maxRecDepth 100000 in
set_option maxHeartbeats 4000000 in
theorem w_X12_book_l101 {r : Int32} {σ' : Mem} (C0 : Cx E p m c cX12_book 2 s args RX12 meth (some .int))  (n : Nat) : ∀ (k0 : Nat) (v1 : Int32) (hk0 : kd k0 = 12) (σ : Mem) (H : Heap) (locs : List Loc) (ls : Array Slot), Hs E s σ H locs → lv_has ls 2 [(0, .ref (ea E k0)), (1, .int v1)] → X12_book_l101 n k0 v1 σ = some (r, σ') → W p l e (rmD 5) s m args below meth c H locs 0 0 (MQ below (QiM E r σ') args s 0 0 (eA E)) (F0 m 101 ls []) := by
  induction n with
  | zero =>
    intro k0 v1 hk0 σ H locs ls hH hl h
    cases h
  | succ n ih =>
    intro k0 v1 hk0 σ H locs ls hH hl h
    exact w_X12_book_b101 C0 (X12_book_l101 n)  ih k0 v1 hk0 hH hl h
set_option maxRecDepth 100000 in
set_option maxHeartbeats 4000000 in
theorem w_X12_book_b58 {r : Int32} {σ' : Mem} (C0 : Cx E p m c cX12_book 2 s args RX12 meth (some .int))  (k0 : Nat) (s0 : Nat) (s1 : Int32) (hk0 : kd k0 = 12) (hs0 : kd s0 = 12) {σ : Mem} {H : Heap} {locs : List Loc} {ls : Array Slot} (hH : Hs E s σ H locs) (hl : lv_has ls 2 [(0, .ref (ea E k0))]) (h : X12_book_b58 k0 s0 s1 σ = some (r, σ')) : W p l e (rmD 5) s m args below meth c H locs 0 0 (MQ below (QiM E r σ') args s 0 0 (eA E)) (F0 m 58 ls [.int s1, .ref (ea E s0)]) := by
  obtain ⟨⟨hx, hb, hml, hown, hts⟩, hr, hlocks, hF, hAd⟩ := id C0
  unfold X12_book_b58 at h
  obtain ⟨σ1, qσ1, h⟩ := ob_s h
  refine go_v hH (va_run_V (As := [.int s1]) (rest := []) C0 hH lk_X12_134 (c_X12_must hAd s0 s1 hs0 σ qσ1) (by decide) (ci := 12) hs0 (by decide) (cob_12 _ _ _) rfl rfl hl.1 rfl (Nat.le_of_ble_eq_true rfl) dX12_book_58) (fun H locs hH => ?_)
  refine lv_aload_n hx hb dX12_book_61 rfl (lv_at hl 0 rfl) ?_
  refine gf_X12_22 C0 hH hk0 dX12_book_62 ?_
  refine lv_iconst (v := 1) hx hb dX12_book_65 (by decide) ?_
  refine lv_aload_n hx hb dX12_book_66 rfl (lv_at hl 0 rfl) ?_
  refine lv_iconst (v := 0) hx hb dX12_book_67 (by decide) ?_
  refine lv_bipush (v := 60) hx hb dX12_book_68 (by decide) ?_
  obtain ⟨r2, σ3, qr2, h⟩ := ob2_s h
  refine go_i hH (va_run_V (As := [.int 0, .int 60]) (rest := [.int 1, .ref (ea E (k0 + 5))]) C0 hH lk_X12_141 (c_X12_number hAd k0 0 60 hk0 σ1 qr2) (by decide) (ci := 12) hk0 (by decide) (cob_12 _ _ _) rfl rfl hl.1 rfl (Nat.le_of_ble_eq_true rfl) dX12_book_70) (fun H locs hH => ?_)
  refine r_iast C0 hH (n := 43) (kf_12_5 hk0) (vin (by decide)) dX12_book_73 (fun H locs hH => ?_)
  refine lv_aload_n hx hb dX12_book_74 rfl (lv_at hl 0 rfl) ?_
  refine lv_bipush (v := 44) hx hb dX12_book_75 (by decide) ?_
  obtain ⟨σ4, qσ4, h⟩ := ob_s h
  refine go_v hH (va_run_V (As := [.int 44]) (rest := []) C0 hH lk_X12_145 (c_X12_mustSign hAd k0 44 hk0 (wr σ3 (k0 + 5) (nc 1) r2) qσ4) (by decide) (ci := 12) hk0 (by decide) (cob_12 _ _ _) rfl rfl hl.1 rfl (Nat.le_of_ble_eq_true rfl) dX12_book_77) (fun H locs hH => ?_)
  refine lv_aload_n hx hb dX12_book_80 rfl (lv_at hl 0 rfl) ?_
  refine gf_X12_22 C0 hH hk0 dX12_book_81 ?_
  refine lv_iconst (v := 2) hx hb dX12_book_84 (by decide) ?_
  refine lv_aload_n hx hb dX12_book_85 rfl (lv_at hl 0 rfl) ?_
  refine lv_iconst (v := 0) hx hb dX12_book_86 (by decide) ?_
  refine lv_bipush (v := 20) hx hb dX12_book_87 (by decide) ?_
  obtain ⟨r5, σ6, qr5, h⟩ := ob2_s h
  refine go_i hH (va_run_V (As := [.int 0, .int 20]) (rest := [.int 2, .ref (ea E (k0 + 5))]) C0 hH lk_X12_141 (c_X12_number hAd k0 0 20 hk0 σ4 qr5) (by decide) (ci := 12) hk0 (by decide) (cob_12 _ _ _) rfl rfl hl.1 rfl (Nat.le_of_ble_eq_true rfl) dX12_book_89) (fun H locs hH => ?_)
  refine r_iast C0 hH (n := 43) (kf_12_5 hk0) (vin (by decide)) dX12_book_92 (fun H locs hH => ?_)
  refine lv_aload_n hx hb dX12_book_93 rfl (lv_at hl 0 rfl) ?_
  refine lv_bipush (v := 59) hx hb dX12_book_94 (by decide) ?_
  obtain ⟨σ7, qσ7, h⟩ := ob_s h
  refine go_v hH (va_run_V (As := [.int 59]) (rest := []) C0 hH lk_X12_145 (c_X12_mustSign hAd k0 59 hk0 (wr σ6 (k0 + 5) (nc 2) r5) qσ7) (by decide) (ci := 12) hk0 (by decide) (cob_12 _ _ _) rfl rfl hl.1 rfl (Nat.le_of_ble_eq_true rfl) dX12_book_96) (fun H locs hH => ?_)
  refine lv_iconst (v := 0) hx hb dX12_book_99 (by decide) ?_
  refine lv_istore_n (lv' := [(1, .int 0), (0, .ref (ea E k0))]) hx hb dX12_book_100 rfl hl (by decide) rfl (fun ls hl => ?_)
  exact w_X12_book_l101 C0  FU k0 0 hk0 _ _ _ _ hH (lv_sub hl [1, 0] rfl) h
set_option maxRecDepth 100000 in
set_option maxHeartbeats 4000000 in
theorem w_X12_book_b57 {r : Int32} {σ' : Mem} (C0 : Cx E p m c cX12_book 2 s args RX12 meth (some .int))  (k0 : Nat) (s0 : Nat) (hk0 : kd k0 = 12) (hs0 : kd s0 = 12) {σ : Mem} {H : Heap} {locs : List Loc} {ls : Array Slot} (hH : Hs E s σ H locs) (hl : lv_has ls 2 [(0, .ref (ea E k0))]) (h : X12_book_b57 k0 s0 σ = some (r, σ')) : W p l e (rmD 5) s m args below meth c H locs 0 0 (MQ below (QiM E r σ') args s 0 0 (eA E)) (F0 m 57 ls [.ref (ea E s0)]) := by
  obtain ⟨⟨hx, hb, hml, hown, hts⟩, hr, hlocks, hF, hAd⟩ := id C0
  unfold X12_book_b57 at h
  refine lv_iconst (v := 0) hx hb dX12_book_57 (by decide) ?_
  exact w_X12_book_b58 C0  k0 s0 0 hk0 hs0 hH (lv_sub hl [0] rfl) h
set_option maxRecDepth 100000 in
set_option maxHeartbeats 4000000 in
theorem w_X12_book_b16 {r : Int32} {σ' : Mem} (C0 : Cx E p m c cX12_book 2 s args RX12 meth (some .int)) (K16 : Nat → Int32 → Mem → Option (Int32 × Mem)) (hK16 : ∀ (k0 : Nat) (v1 : Int32) (hk0 : kd k0 = 12) (σ : Mem) (H : Heap) (locs : List Loc) (ls : Array Slot), Hs E s σ H locs → lv_has ls 2 [(0, .ref (ea E k0)), (1, .int v1)] → K16 k0 v1 σ = some (r, σ') → W p l e (rmD 5) s m args below meth c H locs 0 0 (MQ below (QiM E r σ') args s 0 0 (eA E)) (F0 m 16 ls []))  (k0 : Nat) (v1 : Int32) (hk0 : kd k0 = 12) {σ : Mem} {H : Heap} {locs : List Loc} {ls : Array Slot} (hH : Hs E s σ H locs) (hl : lv_has ls 2 [(0, .ref (ea E k0)), (1, .int v1)]) (h : X12_book_b16 K16 k0 v1 σ = some (r, σ')) : W p l e (rmD 5) s m args below meth c H locs 0 0 (MQ below (QiM E r σ') args s 0 0 (eA E)) (F0 m 16 ls []) := by
  obtain ⟨⟨hx, hb, hml, hown, hts⟩, hr, hlocks, hF, hAd⟩ := id C0
  unfold X12_book_b16 at h
  refine lv_iload_n hx hb dX12_book_16 rfl (lv_at hl 1 rfl) ?_
  refine lv_bipush (v := 43) hx hb dX12_book_17 (by decide) ?_
  refine lv_icmp_ge (tgt := 35) hx hb dX12_book_19 (by decide) (fun c1 => ?_) (fun c1 => ?_)
  · replace h := if_t h c1
    refine lv_aload_n hx hb dX12_book_35 rfl (lv_at hl 0 rfl) ?_
    refine lv_aload_n hx hb dX12_book_36 rfl (lv_at hl 0 rfl) ?_
    refine gf_X12_124 C0 hH hk0 dX12_book_37 ?_
    refine lv_iconst (v := 2) hx hb dX12_book_40 (by decide) ?_
    refine lv_icmp_ne (tgt := 57) hx hb dX12_book_41 (by decide) (fun c2 => ?_) (fun c2 => ?_)
    · replace h := if_f h c2
      exact w_X12_book_b57 C0  k0 k0 hk0 hk0 hH (lv_sub hl [0] rfl) h
    · replace h := if_t h c2
      refine lv_aload_n hx hb dX12_book_44 rfl (lv_at hl 0 rfl) ?_
      refine gf_X12_113 C0 hH hk0 dX12_book_45 ?_
      refine lv_bipush (v := 104) hx hb dX12_book_48 (by decide) ?_
      refine lv_icmp_ne (tgt := 57) hx hb dX12_book_50 (by decide) (fun c3 => ?_) (fun c3 => ?_)
      · replace h := if_f h c3
        exact w_X12_book_b57 C0  k0 k0 hk0 hk0 hH (lv_sub hl [0] rfl) h
      · replace h := if_t h c3
        refine lv_iconst (v := 1) hx hb dX12_book_53 (by decide) ?_
        refine lv_goto (tgt := 58) hx hb dX12_book_54 (by decide) ?_
        exact w_X12_book_b58 C0  k0 k0 1 hk0 hk0 hH (lv_sub hl [0] rfl) h
  · replace h := if_f h c1
    refine lv_aload_n hx hb dX12_book_22 rfl (lv_at hl 0 rfl) ?_
    refine gf_X12_22 C0 hH hk0 dX12_book_23 ?_
    refine lv_iload_n hx hb dX12_book_26 rfl (lv_at hl 1 rfl) ?_
    refine lv_iconst (v := 0) hx hb dX12_book_27 (by decide) ?_
    obtain ⟨b4, h⟩ := gdx_s h
    refine r_iast C0 hH (n := 43) (kf_12_5 hk0) b4 dX12_book_28 (fun H locs hH => ?_)
    refine lv_iinc (v := v1 + 1) (lv' := [(1, .int (v1 + 1)), (0, .ref (ea E k0))]) hx hb dX12_book_29 hl (k := 1) rfl rfl (by decide) rfl (fun ls hl => ?_)
    refine lv_goto (tgt := 16) hx hb dX12_book_32 (by decide) ?_
    exact hK16 k0 (v1 + 1) hk0 _ _ _ _ hH (lv_sub hl [1, 0] rfl) h
set_option maxRecDepth 100000 in
set_option maxHeartbeats 4000000 in
theorem w_X12_book_l16 {r : Int32} {σ' : Mem} (C0 : Cx E p m c cX12_book 2 s args RX12 meth (some .int))  (n : Nat) : ∀ (k0 : Nat) (v1 : Int32) (hk0 : kd k0 = 12) (σ : Mem) (H : Heap) (locs : List Loc) (ls : Array Slot), Hs E s σ H locs → lv_has ls 2 [(0, .ref (ea E k0)), (1, .int v1)] → X12_book_l16 n k0 v1 σ = some (r, σ') → W p l e (rmD 5) s m args below meth c H locs 0 0 (MQ below (QiM E r σ') args s 0 0 (eA E)) (F0 m 16 ls []) := by
  induction n with
  | zero =>
    intro k0 v1 hk0 σ H locs ls hH hl h
    cases h
  | succ n ih =>
    intro k0 v1 hk0 σ H locs ls hH hl h
    exact w_X12_book_b16 C0 (X12_book_l16 n)  ih k0 v1 hk0 hH hl h
set_option maxRecDepth 100000 in
set_option maxHeartbeats 4000000 in
theorem w_X12_book_b0 {r : Int32} {σ' : Mem} (C0 : Cx E p m c cX12_book 2 s args RX12 meth (some .int))  (k0 : Nat) (hk0 : kd k0 = 12) {σ : Mem} {H : Heap} {locs : List Loc} {ls : Array Slot} (hH : Hs E s σ H locs) (hl : lv_has ls 2 [(0, .ref (ea E k0))]) (h : X12_book_b0 k0 σ = some (r, σ')) : W p l e (rmD 5) s m args below meth c H locs 0 0 (MQ below (QiM E r σ') args s 0 0 (eA E)) (F0 m 0 ls []) := by
  obtain ⟨⟨hx, hb, hml, hown, hts⟩, hr, hlocks, hF, hAd⟩ := id C0
  unfold X12_book_b0 at h
  refine lv_aload_n hx hb dX12_book_0 rfl (lv_at hl 0 rfl) ?_
  refine lv_iconst (v := 0) hx hb dX12_book_1 (by decide) ?_
  refine pf_X12_109 C0 hH hk0 dX12_book_2 (fun H locs hH => ?_)
  refine lv_aload_n hx hb dX12_book_5 rfl (lv_at hl 0 rfl) ?_
  refine lv_iconst (v := 0) hx hb dX12_book_6 (by decide) ?_
  obtain ⟨σ1, eσ1, h⟩ := letv_s h
  replace hH := hs_of eσ1 hH
  refine pf_X12_100 C0 hH hk0 dX12_book_7 (fun H locs hH => ?_)
  refine lv_aload_n hx hb dX12_book_10 rfl (lv_at hl 0 rfl) ?_
  obtain ⟨σ2, qσ2, h⟩ := ob_s h
  refine go_v hH (va_run_V (As := []) (rest := []) C0 hH lk_X12_131 (c_X12_nextToken hAd k0 hk0 (wr σ1 k0 15 0) qσ2) (by decide) (ci := 12) hk0 (by decide) (cob_12 _ _ _) rfl rfl hl.1 rfl (Nat.le_of_ble_eq_true rfl) dX12_book_11) (fun H locs hH => ?_)
  refine lv_iconst (v := 0) hx hb dX12_book_14 (by decide) ?_
  refine lv_istore_n (lv' := [(1, .int 0), (0, .ref (ea E k0))]) hx hb dX12_book_15 rfl hl (by decide) rfl (fun ls hl => ?_)
  exact w_X12_book_l16 C0  FU k0 0 hk0 _ _ _ _ hH (lv_sub hl [1, 0] rfl) h
theorem c_X12_book {l : Launch} {E : EnvT} (hAd : Ad E) (k0 : Nat) (hk0 : kd k0 = 12) (σ : Mem) {r : Int32} {σ' : Mem} (h : X12_book k0 σ = some (r, σ')) : Met l yX12_book (wsM yX12_book cX12_book 2 (some .int)) (rmD 5) (PcM E [.ref (ea E k0)] σ) (QiM E r σ') 0 0 (eA E) :=
  Met.ofM (by decide) (Nat.le_of_ble_eq_true rfl) (fun p e s m below meth c ls C0 hH hl => w_X12_book_b0 C0 k0 hk0 hH hl h) hAd
set_option maxRecDepth 100000 in
set_option maxHeartbeats 4000000 in
theorem w_X12_fault_b0 {r : Int32} (C0 : Cx E p m c cX12_fault 1 s args RX12 meth (some .int))  (k0 : Nat) (hk0 : kd k0 = 12) {σ : Mem} {H : Heap} {locs : List Loc} {ls : Array Slot} (hH : Hs E s σ H locs) (hl : lv_has ls 1 [(0, .ref (ea E k0))]) (h : X12_fault_b0 k0 σ = r) : W p l e (rmD 0) s m args below meth c H locs 0 0 (MQ below (QiM E r σ) args s 0 0 (eA E)) (F0 m 0 ls []) := by
  obtain ⟨⟨hx, hb, hml, hown, hts⟩, hr, hlocks, hF, hAd⟩ := id C0
  unfold X12_fault_b0 at h
  refine lv_aload_n hx hb dX12_fault_0 rfl (lv_at hl 0 rfl) ?_
  refine gf_X12_151 C0 hH hk0 dX12_fault_1 ?_
  exact r_iret C0 hH h rfl dX12_fault_4
theorem c_X12_fault {l : Launch} {E : EnvT} (hAd : Ad E) (k0 : Nat) (hk0 : kd k0 = 12) (σ : Mem) {r : Int32} (h : X12_fault k0 σ = r) : Met l yX12_fault (wsM yX12_fault cX12_fault 1 (some .int)) (rmD 0) (PcM E [.ref (ea E k0)] σ) (QiM E r σ) 0 0 (eA E) :=
  Met.ofM (by decide) (Nat.le_of_ble_eq_true rfl) (fun p e s m below meth c ls C0 hH hl => w_X12_fault_b0 C0 k0 hk0 hH hl h) hAd
set_option maxRecDepth 100000 in
set_option maxHeartbeats 4000000 in
theorem w_X12_keeps_b51 {σ' : Mem} (C0 : Cx E p m c cX12_keeps 2 s args RX12 meth (none)) (K51 : Nat → Int32 → Mem → Option Mem) (hK51 : ∀ (k0 : Nat) (v1 : Int32) (hk0 : kd k0 = 12) (σ : Mem) (H : Heap) (locs : List Loc) (ls : Array Slot), Hs E s σ H locs → lv_has ls 2 [(0, .ref (ea E k0)), (1, .int v1)] → K51 k0 v1 σ = some σ' → W p l e (rmD 0) s m args below meth c H locs 0 0 (MQ below (QvM E σ') args s 0 0 (eA E)) (F0 m 51 ls []))  (k0 : Nat) (v1 : Int32) (hk0 : kd k0 = 12) {σ : Mem} {H : Heap} {locs : List Loc} {ls : Array Slot} (hH : Hs E s σ H locs) (hl : lv_has ls 2 [(0, .ref (ea E k0)), (1, .int v1)]) (h : X12_keeps_b51 K51 k0 v1 σ = some σ') : W p l e (rmD 0) s m args below meth c H locs 0 0 (MQ below (QvM E σ') args s 0 0 (eA E)) (F0 m 51 ls []) := by
  obtain ⟨⟨hx, hb, hml, hown, hts⟩, hr, hlocks, hF, hAd⟩ := id C0
  unfold X12_keeps_b51 at h
  refine lv_iload_n hx hb dX12_keeps_51 rfl (lv_at hl 1 rfl) ?_
  refine lv_bipush (v := 43) hx hb dX12_keeps_52 (by decide) ?_
  refine lv_icmp_ge (tgt := 83) hx hb dX12_keeps_54 (by decide) (fun c1 => ?_) (fun c1 => ?_)
  · replace h := if_t h c1
    refine lv_aload_n hx hb dX12_keeps_83 rfl (lv_at hl 0 rfl) ?_
    refine lv_dup hx hb dX12_keeps_84 rfl ?_
    refine gf_X12_155 C0 hH hk0 dX12_keeps_85 ?_
    refine lv_iconst (v := 1) hx hb dX12_keeps_88 (by decide) ?_
    refine lv_iadd hx hb dX12_keeps_89 ?_
    refine pf_X12_155 C0 hH hk0 dX12_keeps_90 (fun H locs hH => ?_)
    exact r_vret C0 hH (Option.some.inj h) dX12_keeps_93
  · replace h := if_f h c1
    refine lv_aload_n hx hb dX12_keeps_57 rfl (lv_at hl 0 rfl) ?_
    refine gf_X12_28 C0 hH hk0 dX12_keeps_58 ?_
    refine lv_bipush (v := 43) hx hb dX12_keeps_61 (by decide) ?_
    refine lv_aload_n hx hb dX12_keeps_63 rfl (lv_at hl 0 rfl) ?_
    refine gf_X12_155 C0 hH hk0 dX12_keeps_64 ?_
    refine lv_imul hx hb dX12_keeps_67 ?_
    refine lv_iload_n hx hb dX12_keeps_68 rfl (lv_at hl 1 rfl) ?_
    refine lv_iadd hx hb dX12_keeps_69 ?_
    refine lv_aload_n hx hb dX12_keeps_70 rfl (lv_at hl 0 rfl) ?_
    refine gf_X12_19 C0 hH hk0 dX12_keeps_71 ?_
    refine lv_iload_n hx hb dX12_keeps_74 rfl (lv_at hl 1 rfl) ?_
    obtain ⟨b2, h⟩ := gdx_s h
    refine r_iald C0 hH (n := 43) (kf_12_4 hk0) b2 dX12_keeps_75 ?_
    obtain ⟨b3, h⟩ := gdx_s h
    refine r_iast C0 hH (n := 1032) (kf_12_7 hk0) b3 dX12_keeps_76 (fun H locs hH => ?_)
    refine lv_iinc (v := v1 + 1) (lv' := [(1, .int (v1 + 1)), (0, .ref (ea E k0))]) hx hb dX12_keeps_77 hl (k := 1) rfl rfl (by decide) rfl (fun ls hl => ?_)
    refine lv_goto (tgt := 51) hx hb dX12_keeps_80 (by decide) ?_
    exact hK51 k0 (v1 + 1) hk0 _ _ _ _ hH (lv_sub hl [1, 0] rfl) h
set_option maxRecDepth 100000 in
set_option maxHeartbeats 4000000 in
theorem w_X12_keeps_l51 {σ' : Mem} (C0 : Cx E p m c cX12_keeps 2 s args RX12 meth (none))  (n : Nat) : ∀ (k0 : Nat) (v1 : Int32) (hk0 : kd k0 = 12) (σ : Mem) (H : Heap) (locs : List Loc) (ls : Array Slot), Hs E s σ H locs → lv_has ls 2 [(0, .ref (ea E k0)), (1, .int v1)] → X12_keeps_l51 n k0 v1 σ = some σ' → W p l e (rmD 0) s m args below meth c H locs 0 0 (MQ below (QvM E σ') args s 0 0 (eA E)) (F0 m 51 ls []) := by
  induction n with
  | zero =>
    intro k0 v1 hk0 σ H locs ls hH hl h
    cases h
  | succ n ih =>
    intro k0 v1 hk0 σ H locs ls hH hl h
    exact w_X12_keeps_b51 C0 (X12_keeps_l51 n)  ih k0 v1 hk0 hH hl h
set_option maxRecDepth 100000 in
set_option maxHeartbeats 4000000 in
theorem w_X12_keeps_b49 {σ' : Mem} (C0 : Cx E p m c cX12_keeps 2 s args RX12 meth (none))  (k0 : Nat) (hk0 : kd k0 = 12) {σ : Mem} {H : Heap} {locs : List Loc} {ls : Array Slot} (hH : Hs E s σ H locs) (hl : lv_has ls 2 [(0, .ref (ea E k0))]) (h : X12_keeps_b49 k0 σ = some σ') : W p l e (rmD 0) s m args below meth c H locs 0 0 (MQ below (QvM E σ') args s 0 0 (eA E)) (F0 m 49 ls []) := by
  obtain ⟨⟨hx, hb, hml, hown, hts⟩, hr, hlocks, hF, hAd⟩ := id C0
  unfold X12_keeps_b49 at h
  refine lv_iconst (v := 0) hx hb dX12_keeps_49 (by decide) ?_
  refine lv_istore_n (lv' := [(1, .int 0), (0, .ref (ea E k0))]) hx hb dX12_keeps_50 rfl hl (by decide) rfl (fun ls hl => ?_)
  exact w_X12_keeps_l51 C0  FU k0 0 hk0 _ _ _ _ hH (lv_sub hl [1, 0] rfl) h
set_option maxRecDepth 100000 in
set_option maxHeartbeats 4000000 in
theorem w_X12_keeps_b11 {σ' : Mem} (C0 : Cx E p m c cX12_keeps 2 s args RX12 meth (none)) (K11 : Nat → Int32 → Mem → Option Mem) (hK11 : ∀ (k0 : Nat) (v1 : Int32) (hk0 : kd k0 = 12) (σ : Mem) (H : Heap) (locs : List Loc) (ls : Array Slot), Hs E s σ H locs → lv_has ls 2 [(0, .ref (ea E k0)), (1, .int v1)] → K11 k0 v1 σ = some σ' → W p l e (rmD 0) s m args below meth c H locs 0 0 (MQ below (QvM E σ') args s 0 0 (eA E)) (F0 m 11 ls []))  (k0 : Nat) (v1 : Int32) (hk0 : kd k0 = 12) {σ : Mem} {H : Heap} {locs : List Loc} {ls : Array Slot} (hH : Hs E s σ H locs) (hl : lv_has ls 2 [(0, .ref (ea E k0)), (1, .int v1)]) (h : X12_keeps_b11 K11 k0 v1 σ = some σ') : W p l e (rmD 0) s m args below meth c H locs 0 0 (MQ below (QvM E σ') args s 0 0 (eA E)) (F0 m 11 ls []) := by
  obtain ⟨⟨hx, hb, hml, hown, hts⟩, hr, hlocks, hF, hAd⟩ := id C0
  unfold X12_keeps_b11 at h
  refine lv_iload_n hx hb dX12_keeps_11 rfl (lv_at hl 1 rfl) ?_
  refine lv_sipush (v := 989) hx hb dX12_keeps_12 (by decide) ?_
  refine lv_icmp_ge (tgt := 39) hx hb dX12_keeps_15 (by decide) (fun c1 => ?_) (fun c1 => ?_)
  · replace h := if_t h c1
    refine lv_aload_n hx hb dX12_keeps_39 rfl (lv_at hl 0 rfl) ?_
    refine lv_dup hx hb dX12_keeps_40 rfl ?_
    refine gf_X12_155 C0 hH hk0 dX12_keeps_41 ?_
    refine lv_iconst (v := 1) hx hb dX12_keeps_44 (by decide) ?_
    refine lv_isub hx hb dX12_keeps_45 ?_
    refine pf_X12_155 C0 hH hk0 dX12_keeps_46 (fun H locs hH => ?_)
    exact w_X12_keeps_b49 C0  k0 hk0 hH (lv_sub hl [0] rfl) h
  · replace h := if_f h c1
    refine lv_aload_n hx hb dX12_keeps_18 rfl (lv_at hl 0 rfl) ?_
    refine gf_X12_28 C0 hH hk0 dX12_keeps_19 ?_
    refine lv_iload_n hx hb dX12_keeps_22 rfl (lv_at hl 1 rfl) ?_
    refine lv_aload_n hx hb dX12_keeps_23 rfl (lv_at hl 0 rfl) ?_
    refine gf_X12_28 C0 hH hk0 dX12_keeps_24 ?_
    refine lv_iload_n hx hb dX12_keeps_27 rfl (lv_at hl 1 rfl) ?_
    refine lv_bipush (v := 43) hx hb dX12_keeps_28 (by decide) ?_
    refine lv_iadd hx hb dX12_keeps_30 ?_
    obtain ⟨b2, h⟩ := gdx_s h
    refine r_iald C0 hH (n := 1032) (kf_12_7 hk0) b2 dX12_keeps_31 ?_
    obtain ⟨b3, h⟩ := gdx_s h
    refine r_iast C0 hH (n := 1032) (kf_12_7 hk0) b3 dX12_keeps_32 (fun H locs hH => ?_)
    refine lv_iinc (v := v1 + 1) (lv' := [(1, .int (v1 + 1)), (0, .ref (ea E k0))]) hx hb dX12_keeps_33 hl (k := 1) rfl rfl (by decide) rfl (fun ls hl => ?_)
    refine lv_goto (tgt := 11) hx hb dX12_keeps_36 (by decide) ?_
    exact hK11 k0 (v1 + 1) hk0 _ _ _ _ hH (lv_sub hl [1, 0] rfl) h
set_option maxRecDepth 100000 in
set_option maxHeartbeats 4000000 in
theorem w_X12_keeps_l11 {σ' : Mem} (C0 : Cx E p m c cX12_keeps 2 s args RX12 meth (none))  (n : Nat) : ∀ (k0 : Nat) (v1 : Int32) (hk0 : kd k0 = 12) (σ : Mem) (H : Heap) (locs : List Loc) (ls : Array Slot), Hs E s σ H locs → lv_has ls 2 [(0, .ref (ea E k0)), (1, .int v1)] → X12_keeps_l11 n k0 v1 σ = some σ' → W p l e (rmD 0) s m args below meth c H locs 0 0 (MQ below (QvM E σ') args s 0 0 (eA E)) (F0 m 11 ls []) := by
  induction n with
  | zero =>
    intro k0 v1 hk0 σ H locs ls hH hl h
    cases h
  | succ n ih =>
    intro k0 v1 hk0 σ H locs ls hH hl h
    exact w_X12_keeps_b11 C0 (X12_keeps_l11 n)  ih k0 v1 hk0 hH hl h
set_option maxRecDepth 100000 in
set_option maxHeartbeats 4000000 in
theorem w_X12_keeps_b0 {σ' : Mem} (C0 : Cx E p m c cX12_keeps 2 s args RX12 meth (none))  (k0 : Nat) (hk0 : kd k0 = 12) {σ : Mem} {H : Heap} {locs : List Loc} {ls : Array Slot} (hH : Hs E s σ H locs) (hl : lv_has ls 2 [(0, .ref (ea E k0))]) (h : X12_keeps_b0 k0 σ = some σ') : W p l e (rmD 0) s m args below meth c H locs 0 0 (MQ below (QvM E σ') args s 0 0 (eA E)) (F0 m 0 ls []) := by
  obtain ⟨⟨hx, hb, hml, hown, hts⟩, hr, hlocks, hF, hAd⟩ := id C0
  unfold X12_keeps_b0 at h
  refine lv_aload_n hx hb dX12_keeps_0 rfl (lv_at hl 0 rfl) ?_
  refine gf_X12_155 C0 hH hk0 dX12_keeps_1 ?_
  refine lv_bipush (v := 24) hx hb dX12_keeps_4 (by decide) ?_
  refine lv_icmp_ne (tgt := 49) hx hb dX12_keeps_6 (by decide) (fun c1 => ?_) (fun c1 => ?_)
  · replace h := if_f h c1
    exact w_X12_keeps_b49 C0  k0 hk0 hH (lv_sub hl [0] rfl) h
  · replace h := if_t h c1
    refine lv_iconst (v := 0) hx hb dX12_keeps_9 (by decide) ?_
    refine lv_istore_n (lv' := [(1, .int 0), (0, .ref (ea E k0))]) hx hb dX12_keeps_10 rfl hl (by decide) rfl (fun ls hl => ?_)
    exact w_X12_keeps_l11 C0  FU k0 0 hk0 _ _ _ _ hH (lv_sub hl [1, 0] rfl) h
theorem c_X12_keeps {l : Launch} {E : EnvT} (hAd : Ad E) (k0 : Nat) (hk0 : kd k0 = 12) (σ : Mem) {σ' : Mem} (h : X12_keeps k0 σ = some σ') : Met l yX12_keeps (wsM yX12_keeps cX12_keeps 2 (none)) (rmD 0) (PcM E [.ref (ea E k0)] σ) (QvM E σ') 0 0 (eA E) :=
  Met.ofM (by decide) (Nat.le_of_ble_eq_true rfl) (fun p e s m below meth c ls C0 hH hl => w_X12_keeps_b0 C0 k0 hk0 hH hl h) hAd
set_option maxRecDepth 100000 in
set_option maxHeartbeats 4000000 in
theorem w_X12_undo_b22 {r : Int32} {σ' : Mem} (C0 : Cx E p m c cX12_undo 2 s args RX12 meth (some .int)) (K22 : Nat → Int32 → Mem → Option (Int32 × Mem)) (hK22 : ∀ (k0 : Nat) (v1 : Int32) (hk0 : kd k0 = 12) (σ : Mem) (H : Heap) (locs : List Loc) (ls : Array Slot), Hs E s σ H locs → lv_has ls 2 [(0, .ref (ea E k0)), (1, .int v1)] → K22 k0 v1 σ = some (r, σ') → W p l e (rmD 0) s m args below meth c H locs 0 0 (MQ below (QiM E r σ') args s 0 0 (eA E)) (F0 m 22 ls []))  (k0 : Nat) (v1 : Int32) (hk0 : kd k0 = 12) {σ : Mem} {H : Heap} {locs : List Loc} {ls : Array Slot} (hH : Hs E s σ H locs) (hl : lv_has ls 2 [(0, .ref (ea E k0)), (1, .int v1)]) (h : X12_undo_b22 K22 k0 v1 σ = some (r, σ')) : W p l e (rmD 0) s m args below meth c H locs 0 0 (MQ below (QiM E r σ') args s 0 0 (eA E)) (F0 m 22 ls []) := by
  obtain ⟨⟨hx, hb, hml, hown, hts⟩, hr, hlocks, hF, hAd⟩ := id C0
  unfold X12_undo_b22 at h
  refine lv_iload_n hx hb dX12_undo_22 rfl (lv_at hl 1 rfl) ?_
  refine lv_bipush (v := 43) hx hb dX12_undo_23 (by decide) ?_
  refine lv_icmp_ge (tgt := 54) hx hb dX12_undo_25 (by decide) (fun c1 => ?_) (fun c1 => ?_)
  · replace h := if_t h c1
    refine lv_aload_n hx hb dX12_undo_54 rfl (lv_at hl 0 rfl) ?_
    refine gf_X12_155 C0 hH hk0 dX12_undo_55 ?_
    exact r_iret C0 hH (pj1 h) (pj2 h) dX12_undo_58
  · replace h := if_f h c1
    refine lv_aload_n hx hb dX12_undo_28 rfl (lv_at hl 0 rfl) ?_
    refine gf_X12_19 C0 hH hk0 dX12_undo_29 ?_
    refine lv_iload_n hx hb dX12_undo_32 rfl (lv_at hl 1 rfl) ?_
    refine lv_aload_n hx hb dX12_undo_33 rfl (lv_at hl 0 rfl) ?_
    refine gf_X12_28 C0 hH hk0 dX12_undo_34 ?_
    refine lv_bipush (v := 43) hx hb dX12_undo_37 (by decide) ?_
    refine lv_aload_n hx hb dX12_undo_39 rfl (lv_at hl 0 rfl) ?_
    refine gf_X12_155 C0 hH hk0 dX12_undo_40 ?_
    refine lv_imul hx hb dX12_undo_43 ?_
    refine lv_iload_n hx hb dX12_undo_44 rfl (lv_at hl 1 rfl) ?_
    refine lv_iadd hx hb dX12_undo_45 ?_
    obtain ⟨b2, h⟩ := gdx_s h
    refine r_iald C0 hH (n := 1032) (kf_12_7 hk0) b2 dX12_undo_46 ?_
    obtain ⟨b3, h⟩ := gdx_s h
    refine r_iast C0 hH (n := 43) (kf_12_4 hk0) b3 dX12_undo_47 (fun H locs hH => ?_)
    refine lv_iinc (v := v1 + 1) (lv' := [(1, .int (v1 + 1)), (0, .ref (ea E k0))]) hx hb dX12_undo_48 hl (k := 1) rfl rfl (by decide) rfl (fun ls hl => ?_)
    refine lv_goto (tgt := 22) hx hb dX12_undo_51 (by decide) ?_
    exact hK22 k0 (v1 + 1) hk0 _ _ _ _ hH (lv_sub hl [1, 0] rfl) h
set_option maxRecDepth 100000 in
set_option maxHeartbeats 4000000 in
theorem w_X12_undo_l22 {r : Int32} {σ' : Mem} (C0 : Cx E p m c cX12_undo 2 s args RX12 meth (some .int))  (n : Nat) : ∀ (k0 : Nat) (v1 : Int32) (hk0 : kd k0 = 12) (σ : Mem) (H : Heap) (locs : List Loc) (ls : Array Slot), Hs E s σ H locs → lv_has ls 2 [(0, .ref (ea E k0)), (1, .int v1)] → X12_undo_l22 n k0 v1 σ = some (r, σ') → W p l e (rmD 0) s m args below meth c H locs 0 0 (MQ below (QiM E r σ') args s 0 0 (eA E)) (F0 m 22 ls []) := by
  induction n with
  | zero =>
    intro k0 v1 hk0 σ H locs ls hH hl h
    cases h
  | succ n ih =>
    intro k0 v1 hk0 σ H locs ls hH hl h
    exact w_X12_undo_b22 C0 (X12_undo_l22 n)  ih k0 v1 hk0 hH hl h
set_option maxRecDepth 100000 in
set_option maxHeartbeats 4000000 in
theorem w_X12_undo_b0 {r : Int32} {σ' : Mem} (C0 : Cx E p m c cX12_undo 2 s args RX12 meth (some .int))  (k0 : Nat) (hk0 : kd k0 = 12) {σ : Mem} {H : Heap} {locs : List Loc} {ls : Array Slot} (hH : Hs E s σ H locs) (hl : lv_has ls 2 [(0, .ref (ea E k0))]) (h : X12_undo_b0 k0 σ = some (r, σ')) : W p l e (rmD 0) s m args below meth c H locs 0 0 (MQ below (QiM E r σ') args s 0 0 (eA E)) (F0 m 0 ls []) := by
  obtain ⟨⟨hx, hb, hml, hown, hts⟩, hr, hlocks, hF, hAd⟩ := id C0
  unfold X12_undo_b0 at h
  refine lv_aload_n hx hb dX12_undo_0 rfl (lv_at hl 0 rfl) ?_
  refine gf_X12_155 C0 hH hk0 dX12_undo_1 ?_
  refine lv_if_ne (tgt := 10) hx hb dX12_undo_4 (by decide) (fun c1 => ?_) (fun c1 => ?_)
  · replace h := if_f h c1
    refine lv_aload_n hx hb dX12_undo_10 rfl (lv_at hl 0 rfl) ?_
    refine lv_dup hx hb dX12_undo_11 rfl ?_
    refine gf_X12_155 C0 hH hk0 dX12_undo_12 ?_
    refine lv_iconst (v := 1) hx hb dX12_undo_15 (by decide) ?_
    refine lv_isub hx hb dX12_undo_16 ?_
    refine pf_X12_155 C0 hH hk0 dX12_undo_17 (fun H locs hH => ?_)
    refine lv_iconst (v := 0) hx hb dX12_undo_20 (by decide) ?_
    refine lv_istore_n (lv' := [(1, .int 0), (0, .ref (ea E k0))]) hx hb dX12_undo_21 rfl hl (by decide) rfl (fun ls hl => ?_)
    exact w_X12_undo_l22 C0  FU k0 0 hk0 _ _ _ _ hH (lv_sub hl [1, 0] rfl) h
  · replace h := if_t h c1
    refine lv_ldc hx hb hown (hts _ qK_X12_158) dX12_undo_7 ?_
    exact r_iret C0 hH (pj1 h) (pj2 h) dX12_undo_9
theorem c_X12_undo {l : Launch} {E : EnvT} (hAd : Ad E) (k0 : Nat) (hk0 : kd k0 = 12) (σ : Mem) {r : Int32} {σ' : Mem} (h : X12_undo k0 σ = some (r, σ')) : Met l yX12_undo (wsM yX12_undo cX12_undo 2 (some .int)) (rmD 0) (PcM E [.ref (ea E k0)] σ) (QiM E r σ') 0 0 (eA E) :=
  Met.ofM (by decide) (Nat.le_of_ble_eq_true rfl) (fun p e s m below meth c ls C0 hH hl => w_X12_undo_b0 C0 k0 hk0 hH hl h) hAd
set_option maxRecDepth 100000 in
set_option maxHeartbeats 4000000 in
theorem w_X12_opens_b10 {σ' : Mem} (C0 : Cx E p m c cX12_opens 3 s args RX12 meth (none)) (K10 : Nat → Int32 → Int32 → Mem → Option Mem) (hK10 : ∀ (k0 : Nat) (v1 : Int32) (v2 : Int32) (hk0 : kd k0 = 143) (σ : Mem) (H : Heap) (locs : List Loc) (ls : Array Slot), Hs E s σ H locs → lv_has ls 3 [(0, .ref (ea E k0)), (1, .int v1), (2, .int v2)] → K10 k0 v1 v2 σ = some σ' → W p l e (rmD 0) s m args below meth c H locs 0 0 (MQ below (QvM E σ') args s 0 0 (eA E)) (F0 m 10 ls []))  (k0 : Nat) (v1 : Int32) (v2 : Int32) (hk0 : kd k0 = 143) {σ : Mem} {H : Heap} {locs : List Loc} {ls : Array Slot} (hH : Hs E s σ H locs) (hl : lv_has ls 3 [(0, .ref (ea E k0)), (1, .int v1), (2, .int v2)]) (h : X12_opens_b10 K10 k0 v1 v2 σ = some σ') : W p l e (rmD 0) s m args below meth c H locs 0 0 (MQ below (QvM E σ') args s 0 0 (eA E)) (F0 m 10 ls []) := by
  obtain ⟨⟨hx, hb, hml, hown, hts⟩, hr, hlocks, hF, hAd⟩ := id C0
  unfold X12_opens_b10 at h
  refine lv_iload_n hx hb dX12_opens_10 rfl (lv_at hl 2 rfl) ?_
  refine lv_iconst (v := 3) hx hb dX12_opens_11 (by decide) ?_
  refine lv_iconst (v := 4) hx hb dX12_opens_12 (by decide) ?_
  refine lv_iload_n hx hb dX12_opens_13 rfl (lv_at hl 1 rfl) ?_
  refine lv_imul hx hb dX12_opens_14 ?_
  refine lv_iadd hx hb dX12_opens_15 ?_
  refine lv_icmp_lt (tgt := 33) hx hb dX12_opens_16 (by decide) (fun c1 => ?_) (fun c1 => ?_)
  · replace h := if_t h c1
    refine lv_aload_n hx hb dX12_opens_33 rfl (lv_at hl 0 rfl) ?_
    refine lv_iconst (v := 0) hx hb dX12_opens_34 (by decide) ?_
    refine lv_dup2_11 hx hb dX12_opens_35 rfl rfl ?_
    refine r_iald C0 hH (n := 43) hk0 (vin (by decide)) dX12_opens_36 ?_
    refine lv_iconst (v := 1) hx hb dX12_opens_37 (by decide) ?_
    refine lv_iadd hx hb dX12_opens_38 ?_
    refine r_iast C0 hH (n := 43) hk0 (vin (by decide)) dX12_opens_39 (fun H locs hH => ?_)
    exact r_vret C0 hH (Option.some.inj h) dX12_opens_40
  · replace h := if_f h c1
    refine lv_aload_n hx hb dX12_opens_19 rfl (lv_at hl 0 rfl) ?_
    refine lv_iload_n hx hb dX12_opens_20 rfl (lv_at hl 2 rfl) ?_
    refine lv_iconst (v := 4) hx hb dX12_opens_21 (by decide) ?_
    refine lv_iadd hx hb dX12_opens_22 ?_
    refine lv_aload_n hx hb dX12_opens_23 rfl (lv_at hl 0 rfl) ?_
    refine lv_iload_n hx hb dX12_opens_24 rfl (lv_at hl 2 rfl) ?_
    obtain ⟨b2, h⟩ := gdx_s h
    refine r_iald C0 hH (n := 43) hk0 b2 dX12_opens_25 ?_
    obtain ⟨b3, h⟩ := gdx_s h
    refine r_iast C0 hH (n := 43) hk0 b3 dX12_opens_26 (fun H locs hH => ?_)
    refine lv_iinc (v := v2 + (-1)) (lv' := [(2, .int (v2 + (-1))), (0, .ref (ea E k0)), (1, .int v1)]) hx hb dX12_opens_27 hl (k := 2) rfl rfl (by decide) rfl (fun ls hl => ?_)
    refine lv_goto (tgt := 10) hx hb dX12_opens_30 (by decide) ?_
    exact hK10 k0 v1 (v2 + (-1)) hk0 _ _ _ _ hH (lv_sub hl [1, 2, 0] rfl) h
set_option maxRecDepth 100000 in
set_option maxHeartbeats 4000000 in
theorem w_X12_opens_l10 {σ' : Mem} (C0 : Cx E p m c cX12_opens 3 s args RX12 meth (none))  (n : Nat) : ∀ (k0 : Nat) (v1 : Int32) (v2 : Int32) (hk0 : kd k0 = 143) (σ : Mem) (H : Heap) (locs : List Loc) (ls : Array Slot), Hs E s σ H locs → lv_has ls 3 [(0, .ref (ea E k0)), (1, .int v1), (2, .int v2)] → X12_opens_l10 n k0 v1 v2 σ = some σ' → W p l e (rmD 0) s m args below meth c H locs 0 0 (MQ below (QvM E σ') args s 0 0 (eA E)) (F0 m 10 ls []) := by
  induction n with
  | zero =>
    intro k0 v1 v2 hk0 σ H locs ls hH hl h
    cases h
  | succ n ih =>
    intro k0 v1 v2 hk0 σ H locs ls hH hl h
    exact w_X12_opens_b10 C0 (X12_opens_l10 n)  ih k0 v1 v2 hk0 hH hl h
set_option maxRecDepth 100000 in
set_option maxHeartbeats 4000000 in
theorem w_X12_opens_b0 {σ' : Mem} (C0 : Cx E p m c cX12_opens 3 s args RX12 meth (none))  (k0 : Nat) (v1 : Int32) (hk0 : kd k0 = 143) {σ : Mem} {H : Heap} {locs : List Loc} {ls : Array Slot} (hH : Hs E s σ H locs) (hl : lv_has ls 3 [(0, .ref (ea E k0)), (1, .int v1)]) (h : X12_opens_b0 k0 v1 σ = some σ') : W p l e (rmD 0) s m args below meth c H locs 0 0 (MQ below (QvM E σ') args s 0 0 (eA E)) (F0 m 0 ls []) := by
  obtain ⟨⟨hx, hb, hml, hown, hts⟩, hr, hlocks, hF, hAd⟩ := id C0
  unfold X12_opens_b0 at h
  refine lv_iconst (v := 3) hx hb dX12_opens_0 (by decide) ?_
  refine lv_iconst (v := 4) hx hb dX12_opens_1 (by decide) ?_
  refine lv_aload_n hx hb dX12_opens_2 rfl (lv_at hl 0 rfl) ?_
  refine lv_iconst (v := 0) hx hb dX12_opens_3 (by decide) ?_
  refine r_iald C0 hH (n := 43) hk0 (vin (by decide)) dX12_opens_4 ?_
  refine lv_imul hx hb dX12_opens_5 ?_
  refine lv_iadd hx hb dX12_opens_6 ?_
  refine lv_iconst (v := 1) hx hb dX12_opens_7 (by decide) ?_
  refine lv_isub hx hb dX12_opens_8 ?_
  obtain ⟨x1, ex1, h⟩ := letv_s h
  refine topi_of ex1 ?_
  refine lv_istore_n (lv' := [(2, .int x1), (0, .ref (ea E k0)), (1, .int v1)]) hx hb dX12_opens_9 rfl hl (by decide) rfl (fun ls hl => ?_)
  exact w_X12_opens_l10 C0  FU k0 v1 x1 hk0 _ _ _ _ hH (lv_sub hl [1, 2, 0] rfl) h
theorem c_X12_opens {l : Launch} {E : EnvT} (hAd : Ad E) (k0 : Nat) (v1 : Int32) (hk0 : kd k0 = 143) (σ : Mem) {σ' : Mem} (h : X12_opens k0 v1 σ = some σ') : Met l yX12_opens (wsM yX12_opens cX12_opens 3 (none)) (rmD 0) (PcM E [.ref (ea E k0), .int v1] σ) (QvM E σ') 0 0 (eA E) :=
  Met.ofM (by decide) (Nat.le_of_ble_eq_true rfl) (fun p e s m below meth c ls C0 hH hl => w_X12_opens_b0 C0 k0 v1 hk0 hH hl h) hAd
end
