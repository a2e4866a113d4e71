section
variable {p : Program} {l : Launch} {e : Env} {s : State} {m : MethodId} {args : Array Value} {below : List Frame} {meth : Method} {c : Code} {E : EnvT}
set_option maxRecDepth 100000 in
set_option maxHeartbeats 4000000 in
theorem w_X11_finds_b0 {r : Int32} {σ' : Mem} (C0 : Cx E p m c cX11_finds 2 s args RX11 meth (some .int))  (k0 : Nat) (v1 : Int32) (hk0 : kd k0 = 11) {σ : Mem} {H : Heap} {locs : List Loc} {ls : Array Slot} (hH : Hs E s σ H locs) (hl : lv_has ls 2 [(0, .ref (ea E k0)), (1, .int v1)]) (h : X11_finds_b0 k0 v1 σ = some (r, σ')) : W p l e (rmD 0) s m args below meth c H locs 0 0 (MQ below (QiM E r σ') args s 0 0 (eA E)) (F0 m 0 ls []) := by
  obtain ⟨⟨hx, hb, hml, hown, hts⟩, hr, hlocks, hF, hAd⟩ := id C0
  unfold X11_finds_b0 at h
  refine lv_aload_n hx hb dX11_finds_0 rfl (lv_at hl 0 rfl) ?_
  refine lv_iload_n hx hb dX11_finds_1 rfl (lv_at hl 1 rfl) ?_
  refine pf_X11_77 C0 hH hk0 dX11_finds_2 (fun H locs hH => ?_)
  refine lv_ldcw hx hb hown (hts _ qK_X11_342) dX11_finds_5 ?_
  refine lv_iload_n hx hb dX11_finds_8 rfl (lv_at hl 1 rfl) ?_
  refine lv_isub hx hb dX11_finds_9 ?_
  exact r_iret C0 hH (pj1 h) (pj2 h) dX11_finds_10
theorem c_X11_finds {l : Launch} {E : EnvT} (hAd : Ad E) (k0 : Nat) (v1 : Int32) (hk0 : kd k0 = 11) (σ : Mem) {r : Int32} {σ' : Mem} (h : X11_finds k0 v1 σ = some (r, σ')) : Met l yX11_finds (wsM yX11_finds cX11_finds 2 (some .int)) (rmD 0) (PcM E [.ref (ea E k0), .int v1] σ) (QiM E r σ') 0 0 (eA E) :=
  Met.ofM (by decide) (Nat.le_of_ble_eq_true rfl) (fun p e s m below meth c ls C0 hH hl => w_X11_finds_b0 C0 k0 v1 hk0 hH hl h) hAd
set_option maxRecDepth 100000 in
set_option maxHeartbeats 4000000 in
theorem w_X11_isRow_b0 {r : Int32} (C0 : Cx E p m c cX11_isRow 1 s args RX11 meth (some .boolean))  (v0 : Int32)  {σ : Mem} {H : Heap} {locs : List Loc} {ls : Array Slot} (hH : Hs E s σ H locs) (hl : lv_has ls 1 [(0, .int v0)]) (h : X11_isRow_b0 v0 = r) : W p l e (rmD 0) s m args below meth c H locs 0 0 (MQ below (QiM E r σ) args s 0 0 (eA E)) (F0 m 0 ls []) := by
  obtain ⟨⟨hx, hb, hml, hown, hts⟩, hr, hlocks, hF, hAd⟩ := id C0
  unfold X11_isRow_b0 at h
  refine lv_iload_n hx hb dX11_isRow_0 rfl (lv_at hl 0 rfl) ?_
  refine lv_if_lt (tgt := 14) hx hb dX11_isRow_1 (by decide) (fun c1 => ?_) (fun c1 => ?_)
  · replace h := if_t h c1
    refine lv_iconst (v := 0) hx hb dX11_isRow_14 (by decide) ?_
    exact r_zret C0 rfl hH h rfl dX11_isRow_15
  · replace h := if_f h c1
    refine lv_iload_n hx hb dX11_isRow_4 rfl (lv_at hl 0 rfl) ?_
    refine lv_bipush (v := 8) hx hb dX11_isRow_5 (by decide) ?_
    refine lv_icmp_ge (tgt := 14) hx hb dX11_isRow_7 (by decide) (fun c2 => ?_) (fun c2 => ?_)
    · replace h := if_t h c2
      refine lv_iconst (v := 0) hx hb dX11_isRow_14 (by decide) ?_
      exact r_zret C0 rfl hH h rfl dX11_isRow_15
    · replace h := if_f h c2
      refine lv_iconst (v := 1) hx hb dX11_isRow_10 (by decide) ?_
      refine lv_goto (tgt := 15) hx hb dX11_isRow_11 (by decide) ?_
      exact r_zret C0 rfl hH h rfl dX11_isRow_15
theorem c_X11_isRow {l : Launch} {E : EnvT} (hAd : Ad E) (v0 : Int32)  (σ : Mem) {r : Int32} (h : X11_isRow v0 = r) : Met l yX11_isRow (wsM yX11_isRow cX11_isRow 1 (some .boolean)) (rmD 0) (PcM E [.int v0] σ) (QiM E r σ) 0 0 (eA E) :=
  Met.ofM (by decide) (Nat.le_of_ble_eq_true rfl) (fun p e s m below meth c ls C0 hH hl => w_X11_isRow_b0 C0 v0  hH hl h) hAd
set_option maxRecDepth 100000 in
set_option maxHeartbeats 4000000 in
theorem w_X11_row_b0 {r : Int32} {σ' : Mem} (C0 : Cx E p m c cX11_row 4 s args RX11 meth (some .int))  (k0 : Nat) (v1 : Int32) (v2 : Int32) (v3 : Int32) (hk0 : kd k0 = 11) {σ : Mem} {H : Heap} {locs : List Loc} {ls : Array Slot} (hH : Hs E s σ H locs) (hl : lv_has ls 4 [(0, .ref (ea E k0)), (1, .int v1), (2, .int v2), (3, .int v3)]) (h : X11_row_b0 k0 v1 v2 v3 σ = some (r, σ')) : W p l e (rmD 2) s m args below meth c H locs 0 0 (MQ below (QiM E r σ') args s 0 0 (eA E)) (F0 m 0 ls []) := by
  obtain ⟨⟨hx, hb, hml, hown, hts⟩, hr, hlocks, hF, hAd⟩ := id C0
  unfold X11_row_b0 at h
  refine lv_iload_n hx hb dX11_row_0 rfl (lv_at hl 1 rfl) ?_
  refine go_i hH (va_run_S (As := [.int v1]) (rest := []) C0 hH lk_X11_80 (c_X11_isRow hAd v1  σ rfl) (by decide) rfl hl.1 rfl (Nat.le_of_ble_eq_true rfl) dX11_row_1) (fun H locs hH => ?_)
  refine lv_if_eq (tgt := 22) hx hb dX11_row_4 (by decide) (fun c1 => ?_) (fun c1 => ?_)
  · replace h := if_t h c1
    refine lv_ldc hx hb hown (hts _ qK_X11_84) dX11_row_22 ?_
    exact r_iret C0 hH (pj1 h) (pj2 h) dX11_row_24
  · replace h := if_f h c1
    refine lv_iload_n hx hb dX11_row_7 rfl (lv_at hl 2 rfl) ?_
    refine lv_if_lt (tgt := 22) hx hb dX11_row_8 (by decide) (fun c2 => ?_) (fun c2 => ?_)
    · replace h := if_t h c2
      refine lv_ldc hx hb hown (hts _ qK_X11_84) dX11_row_22 ?_
      exact r_iret C0 hH (pj1 h) (pj2 h) dX11_row_24
    · replace h := if_f h c2
      refine lv_iload_n hx hb dX11_row_11 rfl (lv_at hl 2 rfl) ?_
      refine lv_iconst (v := 2) hx hb dX11_row_12 (by decide) ?_
      refine lv_icmp_gt (tgt := 22) hx hb dX11_row_13 (by decide) (fun c3 => ?_) (fun c3 => ?_)
      · replace h := if_t h c3
        refine lv_ldc hx hb hown (hts _ qK_X11_84) dX11_row_22 ?_
        exact r_iret C0 hH (pj1 h) (pj2 h) dX11_row_24
      · replace h := if_f h c3
        refine lv_iload_n hx hb dX11_row_16 rfl (lv_at hl 3 rfl) ?_
        refine lv_bipush (v := 40) hx hb dX11_row_17 (by decide) ?_
        refine lv_icmp_le (tgt := 25) hx hb dX11_row_19 (by decide) (fun c4 => ?_) (fun c4 => ?_)
        · replace h := if_t h c4
          refine lv_iload_n hx hb dX11_row_25 rfl (lv_at hl 3 rfl) ?_
          refine lv_if_ge (tgt := 35) hx hb dX11_row_26 (by decide) (fun c5 => ?_) (fun c5 => ?_)
          · replace h := if_t h c5
            refine lv_aload_n hx hb dX11_row_35 rfl (lv_at hl 0 rfl) ?_
            refine lv_iconst (v := 0) hx hb dX11_row_36 (by decide) ?_
            refine pf_X11_77 C0 hH hk0 dX11_row_37 (fun H locs hH => ?_)
            refine lv_aload_n hx hb dX11_row_40 rfl (lv_at hl 0 rfl) ?_
            refine gf_X11_10 C0 hH hk0 dX11_row_41 ?_
            refine lv_iload_n hx hb dX11_row_44 rfl (lv_at hl 1 rfl) ?_
            refine lv_iload_n hx hb dX11_row_45 rfl (lv_at hl 2 rfl) ?_
            refine lv_iload_n hx hb dX11_row_46 rfl (lv_at hl 3 rfl) ?_
            obtain ⟨σ6, qσ6, h⟩ := ob_s h
            refine go_v hH (va_run_V (As := [.int v1, .int v2, .int v3]) (rest := []) C0 hH lk_X11_89 (c_X8_lay hAd (k0 + 1) v1 v2 v3 (kf_11_0 hk0) (wr σ k0 11 0) qσ6) (by decide) (ci := 8) (kf_11_0 hk0) (by decide) (cob_8 _ _ _) rfl rfl hl.1 rfl (Nat.le_of_ble_eq_true rfl) dX11_row_47) (fun H locs hH => ?_)
            refine lv_iload_n hx hb dX11_row_50 rfl (lv_at hl 3 rfl) ?_
            exact r_iret C0 hH (pj1 h) (pj2 h) dX11_row_51
          · replace h := if_f h c5
            refine lv_aload_n hx hb dX11_row_29 rfl (lv_at hl 0 rfl) ?_
            refine lv_iconst (v := 4) hx hb dX11_row_30 (by decide) ?_
            obtain ⟨r7, σ8, qr7, h⟩ := ob2_s h
            refine go_i hH (va_run_V (As := [.int 4]) (rest := []) C0 hH lk_X11_85 (c_X11_finds hAd k0 4 hk0 σ qr7) (by decide) (ci := 11) hk0 (by decide) (cob_11 _ _ _) rfl rfl hl.1 rfl (Nat.le_of_ble_eq_true rfl) dX11_row_31) (fun H locs hH => ?_)
            exact r_iret C0 hH (pj1 h) (pj2 h) dX11_row_34
        · replace h := if_f h c4
          refine lv_ldc hx hb hown (hts _ qK_X11_84) dX11_row_22 ?_
          exact r_iret C0 hH (pj1 h) (pj2 h) dX11_row_24
theorem c_X11_row {l : Launch} {E : EnvT} (hAd : Ad E) (k0 : Nat) (v1 : Int32) (v2 : Int32) (v3 : Int32) (hk0 : kd k0 = 11) (σ : Mem) {r : Int32} {σ' : Mem} (h : X11_row k0 v1 v2 v3 σ = some (r, σ')) : Met l yX11_row (wsM yX11_row cX11_row 4 (some .int)) (rmD 2) (PcM E [.ref (ea E k0), .int v1, .int v2, .int v3] σ) (QiM E r σ') 0 0 (eA E) :=
  Met.ofM (by decide) (Nat.le_of_ble_eq_true rfl) (fun p e s m below meth c ls C0 hH hl => w_X11_row_b0 C0 k0 v1 v2 v3 hk0 hH hl h) hAd
set_option maxRecDepth 100000 in
set_option maxHeartbeats 4000000 in
theorem w_X11_set_b0 {r : Int32} {σ' : Mem} (C0 : Cx E p m c cX11_set 4 s args RX11 meth (some .int))  (k0 : Nat) (v1 : Int32) (v2 : Int32) (v3 : Int32) (hk0 : kd k0 = 11) {σ : Mem} {H : Heap} {locs : List Loc} {ls : Array Slot} (hH : Hs E s σ H locs) (hl : lv_has ls 4 [(0, .ref (ea E k0)), (1, .int v1), (2, .int v2), (3, .int v3)]) (h : X11_set_b0 k0 v1 v2 v3 σ = some (r, σ')) : W p l e (rmD 1) s m args below meth c H locs 0 0 (MQ below (QiM E r σ') args s 0 0 (eA E)) (F0 m 0 ls []) := by
  obtain ⟨⟨hx, hb, hml, hown, hts⟩, hr, hlocks, hF, hAd⟩ := id C0
  unfold X11_set_b0 at h
  refine lv_iload_n hx hb dX11_set_0 rfl (lv_at hl 1 rfl) ?_
  refine go_i hH (va_run_S (As := [.int v1]) (rest := []) C0 hH lk_X11_80 (c_X11_isRow hAd v1  σ rfl) (by decide) rfl hl.1 rfl (Nat.le_of_ble_eq_true rfl) dX11_set_1) (fun H locs hH => ?_)
  refine lv_if_ne (tgt := 10) hx hb dX11_set_4 (by decide) (fun c1 => ?_) (fun c1 => ?_)
  · replace h := if_f h c1
    refine lv_aload_n hx hb dX11_set_10 rfl (lv_at hl 0 rfl) ?_
    refine gf_X11_10 C0 hH hk0 dX11_set_11 ?_
    refine lv_iload_n hx hb dX11_set_14 rfl (lv_at hl 1 rfl) ?_
    obtain ⟨r2, qr2, h⟩ := ob_s h
    refine go_i hH (va_run_V (As := [.int v1]) (rest := []) C0 hH lk_X11_93 (c_X8_isMissing hAd (k0 + 1) v1 (kf_11_0 hk0) σ qr2) (by decide) (ci := 8) (kf_11_0 hk0) (by decide) (cob_8 _ _ _) rfl rfl hl.1 rfl (Nat.le_of_ble_eq_true rfl) dX11_set_15) (fun H locs hH => ?_)
    refine lv_if_eq (tgt := 27) hx hb dX11_set_18 (by decide) (fun c3 => ?_) (fun c3 => ?_)
    · replace h := if_t h c3
      refine lv_aload_n hx hb dX11_set_27 rfl (lv_at hl 0 rfl) ?_
      refine gf_X11_10 C0 hH hk0 dX11_set_28 ?_
      refine lv_iload_n hx hb dX11_set_31 rfl (lv_at hl 1 rfl) ?_
      refine lv_iload_n hx hb dX11_set_32 rfl (lv_at hl 2 rfl) ?_
      refine lv_iconst (v := 1) hx hb dX11_set_33 (by decide) ?_
      obtain ⟨r4, qr4, h⟩ := ob_s h
      refine go_i hH (va_run_V (As := [.int v1, .int v2, .int 1]) (rest := []) C0 hH lk_X11_96 (c_X8_holds hAd (k0 + 1) v1 v2 1 (kf_11_0 hk0) σ qr4) (by decide) (ci := 8) (kf_11_0 hk0) (by decide) (cob_8 _ _ _) rfl rfl hl.1 rfl (Nat.le_of_ble_eq_true rfl) dX11_set_34) (fun H locs hH => ?_)
      refine lv_if_ne (tgt := 46) hx hb dX11_set_37 (by decide) (fun c5 => ?_) (fun c5 => ?_)
      · replace h := if_f h c5
        refine lv_aload_n hx hb dX11_set_46 rfl (lv_at hl 0 rfl) ?_
        refine lv_iconst (v := 0) hx hb dX11_set_47 (by decide) ?_
        refine pf_X11_77 C0 hH hk0 dX11_set_48 (fun H locs hH => ?_)
        refine lv_aload_n hx hb dX11_set_51 rfl (lv_at hl 0 rfl) ?_
        refine gf_X11_10 C0 hH hk0 dX11_set_52 ?_
        refine lv_iload_n hx hb dX11_set_55 rfl (lv_at hl 1 rfl) ?_
        refine lv_iload_n hx hb dX11_set_56 rfl (lv_at hl 2 rfl) ?_
        refine lv_iload_n hx hb dX11_set_57 rfl (lv_at hl 3 rfl) ?_
        obtain ⟨r6, σ7, qr6, h⟩ := ob2_s h
        refine go_i hH (va_run_V (As := [.int v1, .int v2, .int v3]) (rest := []) C0 hH lk_X11_100 (c_X8_write hAd (k0 + 1) v1 v2 v3 (kf_11_0 hk0) (wr σ k0 11 0) qr6) (by decide) (ci := 8) (kf_11_0 hk0) (by decide) (cob_8 _ _ _) rfl rfl hl.1 rfl (Nat.le_of_ble_eq_true rfl) dX11_set_58) (fun H locs hH => ?_)
        exact r_iret C0 hH (pj1 h) (pj2 h) dX11_set_61
      · replace h := if_t h c5
        refine lv_aload_n hx hb dX11_set_40 rfl (lv_at hl 0 rfl) ?_
        refine lv_iconst (v := 2) hx hb dX11_set_41 (by decide) ?_
        obtain ⟨r8, σ9, qr8, h⟩ := ob2_s h
        refine go_i hH (va_run_V (As := [.int 2]) (rest := []) C0 hH lk_X11_85 (c_X11_finds hAd k0 2 hk0 σ qr8) (by decide) (ci := 11) hk0 (by decide) (cob_11 _ _ _) rfl rfl hl.1 rfl (Nat.le_of_ble_eq_true rfl) dX11_set_42) (fun H locs hH => ?_)
        exact r_iret C0 hH (pj1 h) (pj2 h) dX11_set_45
    · replace h := if_f h c3
      refine lv_aload_n hx hb dX11_set_21 rfl (lv_at hl 0 rfl) ?_
      refine lv_iconst (v := 1) hx hb dX11_set_22 (by decide) ?_
      obtain ⟨r10, σ11, qr10, h⟩ := ob2_s h
      refine go_i hH (va_run_V (As := [.int 1]) (rest := []) C0 hH lk_X11_85 (c_X11_finds hAd k0 1 hk0 σ qr10) (by decide) (ci := 11) hk0 (by decide) (cob_11 _ _ _) rfl rfl hl.1 rfl (Nat.le_of_ble_eq_true rfl) dX11_set_23) (fun H locs hH => ?_)
      exact r_iret C0 hH (pj1 h) (pj2 h) dX11_set_26
  · replace h := if_t h c1
    refine lv_ldc hx hb hown (hts _ qK_X11_84) dX11_set_7 ?_
    exact r_iret C0 hH (pj1 h) (pj2 h) dX11_set_9
theorem c_X11_set {l : Launch} {E : EnvT} (hAd : Ad E) (k0 : Nat) (v1 : Int32) (v2 : Int32) (v3 : Int32) (hk0 : kd k0 = 11) (σ : Mem) {r : Int32} {σ' : Mem} (h : X11_set k0 v1 v2 v3 σ = some (r, σ')) : Met l yX11_set (wsM yX11_set cX11_set 4 (some .int)) (rmD 1) (PcM E [.ref (ea E k0), .int v1, .int v2, .int v3] σ) (QiM E r σ') 0 0 (eA E) :=
  Met.ofM (by decide) (Nat.le_of_ble_eq_true rfl) (fun p e s m below meth c ls C0 hH hl => w_X11_set_b0 C0 k0 v1 v2 v3 hk0 hH hl h) hAd
set_option maxRecDepth 100000 in
set_option maxHeartbeats 4000000 in
theorem w_X11_copy_b39 {r : Int32} {σ' : Mem} (C0 : Cx E p m c cX11_copy 6 s args RX11 meth (some .int))  (k0 : Nat) (hk0 : kd k0 = 11) {σ : Mem} {H : Heap} {locs : List Loc} {ls : Array Slot} (hH : Hs E s σ H locs) (hl : lv_has ls 6 [(0, .ref (ea E k0))]) (h : X11_copy_b39 k0 σ = some (r, σ')) : W p l e (rmD 1) s m args below meth c H locs 0 0 (MQ below (QiM E r σ') args s 0 0 (eA E)) (F0 m 39 ls []) := by
  obtain ⟨⟨hx, hb, hml, hown, hts⟩, hr, hlocks, hF, hAd⟩ := id C0
  unfold X11_copy_b39 at h
  refine lv_aload_n hx hb dX11_copy_39 rfl (lv_at hl 0 rfl) ?_
  refine lv_iconst (v := 1) hx hb dX11_copy_40 (by decide) ?_
  obtain ⟨r1, σ2, qr1, h⟩ := ob2_s h
  refine go_i hH (va_run_V (As := [.int 1]) (rest := []) C0 hH lk_X11_85 (c_X11_finds hAd k0 1 hk0 σ qr1) (by decide) (ci := 11) hk0 (by decide) (cob_11 _ _ _) rfl rfl hl.1 rfl (Nat.le_of_ble_eq_true rfl) dX11_copy_41) (fun H locs hH => ?_)
  exact r_iret C0 hH (pj1 h) (pj2 h) dX11_copy_44
set_option maxRecDepth 100000 in
set_option maxHeartbeats 4000000 in
theorem w_X11_copy_b101 {r : Int32} {σ' : Mem} (C0 : Cx E p m c cX11_copy 6 s args RX11 meth (some .int))  (k0 : Nat) (hk0 : kd k0 = 11) {σ : Mem} {H : Heap} {locs : List Loc} {ls : Array Slot} (hH : Hs E s σ H locs) (hl : lv_has ls 6 [(0, .ref (ea E k0))]) (h : X11_copy_b101 k0 σ = some (r, σ')) : W p l e (rmD 1) s m args below meth c H locs 0 0 (MQ below (QiM E r σ') args s 0 0 (eA E)) (F0 m 101 ls []) := by
  obtain ⟨⟨hx, hb, hml, hown, hts⟩, hr, hlocks, hF, hAd⟩ := id C0
  unfold X11_copy_b101 at h
  refine lv_aload_n hx hb dX11_copy_101 rfl (lv_at hl 0 rfl) ?_
  refine lv_iconst (v := 2) hx hb dX11_copy_102 (by decide) ?_
  obtain ⟨r1, σ2, qr1, h⟩ := ob2_s h
  refine go_i hH (va_run_V (As := [.int 2]) (rest := []) C0 hH lk_X11_85 (c_X11_finds hAd k0 2 hk0 σ qr1) (by decide) (ci := 11) hk0 (by decide) (cob_11 _ _ _) rfl rfl hl.1 rfl (Nat.le_of_ble_eq_true rfl) dX11_copy_103) (fun H locs hH => ?_)
  exact r_iret C0 hH (pj1 h) (pj2 h) dX11_copy_106
set_option maxRecDepth 100000 in
set_option maxHeartbeats 4000000 in
theorem w_X11_copy_b0 {r : Int32} {σ' : Mem} (C0 : Cx E p m c cX11_copy 6 s args RX11 meth (some .int))  (k0 : Nat) (v1 : Int32) (v2 : Int32) (v3 : Int32) (v4 : Int32) (v5 : Int32) (hk0 : kd k0 = 11) {σ : Mem} {H : Heap} {locs : List Loc} {ls : Array Slot} (hH : Hs E s σ H locs) (hl : lv_has ls 6 [(0, .ref (ea E k0)), (1, .int v1), (2, .int v2), (3, .int v3), (4, .int v4), (5, .int v5)]) (h : X11_copy_b0 k0 v1 v2 v3 v4 v5 σ = some (r, σ')) : W p l e (rmD 1) s m args below meth c H locs 0 0 (MQ below (QiM E r σ') args s 0 0 (eA E)) (F0 m 0 ls []) := by
  obtain ⟨⟨hx, hb, hml, hown, hts⟩, hr, hlocks, hF, hAd⟩ := id C0
  unfold X11_copy_b0 at h
  refine lv_iload_n hx hb dX11_copy_0 rfl (lv_at hl 1 rfl) ?_
  refine go_i hH (va_run_S (As := [.int v1]) (rest := []) C0 hH lk_X11_80 (c_X11_isRow hAd v1  σ rfl) (by decide) rfl hl.1 rfl (Nat.le_of_ble_eq_true rfl) dX11_copy_1) (fun H locs hH => ?_)
  refine lv_if_eq (tgt := 14) hx hb dX11_copy_4 (by decide) (fun c1 => ?_) (fun c1 => ?_)
  · replace h := if_t h c1
    refine lv_ldc hx hb hown (hts _ qK_X11_84) dX11_copy_14 ?_
    exact r_iret C0 hH (pj1 h) (pj2 h) dX11_copy_16
  · replace h := if_f h c1
    refine lv_iload_n hx hb dX11_copy_7 rfl (lv_at hl 3 rfl) ?_
    refine go_i hH (va_run_S (As := [.int v3]) (rest := []) C0 hH lk_X11_80 (c_X11_isRow hAd v3  σ rfl) (by decide) rfl hl.1 rfl (Nat.le_of_ble_eq_true rfl) dX11_copy_8) (fun H locs hH => ?_)
    refine lv_if_ne (tgt := 17) hx hb dX11_copy_11 (by decide) (fun c2 => ?_) (fun c2 => ?_)
    · replace h := if_f h c2
      refine lv_aload_n hx hb dX11_copy_17 rfl (lv_at hl 0 rfl) ?_
      refine gf_X11_10 C0 hH hk0 dX11_copy_18 ?_
      refine lv_iload_n hx hb dX11_copy_21 rfl (lv_at hl 1 rfl) ?_
      obtain ⟨r3, qr3, h⟩ := ob_s h
      refine go_i hH (va_run_V (As := [.int v1]) (rest := []) C0 hH lk_X11_93 (c_X8_isMissing hAd (k0 + 1) v1 (kf_11_0 hk0) σ qr3) (by decide) (ci := 8) (kf_11_0 hk0) (by decide) (cob_8 _ _ _) rfl rfl hl.1 rfl (Nat.le_of_ble_eq_true rfl) dX11_copy_22) (fun H locs hH => ?_)
      refine lv_if_ne (tgt := 39) hx hb dX11_copy_25 (by decide) (fun c4 => ?_) (fun c4 => ?_)
      · replace h := if_f h c4
        exact w_X11_copy_b39 C0  k0 hk0 hH (lv_sub hl [0] rfl) h
      · replace h := if_t h c4
        refine lv_aload_n hx hb dX11_copy_28 rfl (lv_at hl 0 rfl) ?_
        refine gf_X11_10 C0 hH hk0 dX11_copy_29 ?_
        refine lv_iload_n hx hb dX11_copy_32 rfl (lv_at hl 3 rfl) ?_
        obtain ⟨r5, qr5, h⟩ := ob_s h
        refine go_i hH (va_run_V (As := [.int v3]) (rest := []) C0 hH lk_X11_93 (c_X8_isMissing hAd (k0 + 1) v3 (kf_11_0 hk0) σ qr5) (by decide) (ci := 8) (kf_11_0 hk0) (by decide) (cob_8 _ _ _) rfl rfl hl.1 rfl (Nat.le_of_ble_eq_true rfl) dX11_copy_33) (fun H locs hH => ?_)
        refine lv_if_eq (tgt := 45) hx hb dX11_copy_36 (by decide) (fun c6 => ?_) (fun c6 => ?_)
        · replace h := if_t h c6
          refine lv_aload_n hx hb dX11_copy_45 rfl (lv_at hl 0 rfl) ?_
          refine gf_X11_10 C0 hH hk0 dX11_copy_46 ?_
          refine gf_X11_104 C0 hH (kf_11_0 hk0) dX11_copy_49 ?_
          refine lv_iload_n hx hb dX11_copy_52 rfl (lv_at hl 1 rfl) ?_
          obtain ⟨b7, h⟩ := gdx_s h
          refine r_iald C0 hH (n := 8) (kf_8_1 (kf_11_0 hk0)) b7 dX11_copy_53 ?_
          refine lv_aload_n hx hb dX11_copy_54 rfl (lv_at hl 0 rfl) ?_
          refine gf_X11_10 C0 hH hk0 dX11_copy_55 ?_
          refine gf_X11_104 C0 hH (kf_11_0 hk0) dX11_copy_58 ?_
          refine lv_iload_n hx hb dX11_copy_61 rfl (lv_at hl 3 rfl) ?_
          obtain ⟨b8, h⟩ := gdx_s h
          refine r_iald C0 hH (n := 8) (kf_8_1 (kf_11_0 hk0)) b8 dX11_copy_62 ?_
          refine lv_icmp_eq (tgt := 72) hx hb dX11_copy_63 (by decide) (fun c9 => ?_) (fun c9 => ?_)
          · replace h := if_t h c9
            refine lv_aload_n hx hb dX11_copy_72 rfl (lv_at hl 0 rfl) ?_
            refine gf_X11_10 C0 hH hk0 dX11_copy_73 ?_
            refine lv_iload_n hx hb dX11_copy_76 rfl (lv_at hl 1 rfl) ?_
            refine lv_iload_n hx hb dX11_copy_77 rfl (lv_at hl 2 rfl) ?_
            refine lv_iload hx hb dX11_copy_78 (lv_at hl 5 rfl) ?_
            obtain ⟨r10, qr10, h⟩ := ob_s h
            refine go_i hH (va_run_V (As := [.int v1, .int v2, .int v5]) (rest := []) C0 hH lk_X11_96 (c_X8_holds hAd (k0 + 1) v1 v2 v5 (kf_11_0 hk0) σ qr10) (by decide) (ci := 8) (kf_11_0 hk0) (by decide) (cob_8 _ _ _) rfl rfl hl.1 rfl (Nat.le_of_ble_eq_true rfl) dX11_copy_80) (fun H locs hH => ?_)
            refine lv_if_eq (tgt := 101) hx hb dX11_copy_83 (by decide) (fun c11 => ?_) (fun c11 => ?_)
            · replace h := if_t h c11
              exact w_X11_copy_b101 C0  k0 hk0 hH (lv_sub hl [0] rfl) h
            · replace h := if_f h c11
              refine lv_aload_n hx hb dX11_copy_86 rfl (lv_at hl 0 rfl) ?_
              refine gf_X11_10 C0 hH hk0 dX11_copy_87 ?_
              refine lv_iload_n hx hb dX11_copy_90 rfl (lv_at hl 3 rfl) ?_
              refine lv_iload hx hb dX11_copy_91 (lv_at hl 4 rfl) ?_
              refine lv_iload hx hb dX11_copy_93 (lv_at hl 5 rfl) ?_
              obtain ⟨r12, qr12, h⟩ := ob_s h
              refine go_i hH (va_run_V (As := [.int v3, .int v4, .int v5]) (rest := []) C0 hH lk_X11_96 (c_X8_holds hAd (k0 + 1) v3 v4 v5 (kf_11_0 hk0) σ qr12) (by decide) (ci := 8) (kf_11_0 hk0) (by decide) (cob_8 _ _ _) rfl rfl hl.1 rfl (Nat.le_of_ble_eq_true rfl) dX11_copy_95) (fun H locs hH => ?_)
              refine lv_if_ne (tgt := 107) hx hb dX11_copy_98 (by decide) (fun c13 => ?_) (fun c13 => ?_)
              · replace h := if_f h c13
                refine lv_aload_n hx hb dX11_copy_107 rfl (lv_at hl 0 rfl) ?_
                refine lv_iconst (v := 0) hx hb dX11_copy_108 (by decide) ?_
                refine pf_X11_77 C0 hH hk0 dX11_copy_109 (fun H locs hH => ?_)
                refine lv_aload_n hx hb dX11_copy_112 rfl (lv_at hl 0 rfl) ?_
                refine gf_X11_10 C0 hH hk0 dX11_copy_113 ?_
                refine gf_X11_108 C0 hH (kf_11_0 hk0) dX11_copy_116 ?_
                refine lv_iload_n hx hb dX11_copy_119 rfl (lv_at hl 1 rfl) ?_
                obtain ⟨b14, h⟩ := gdx_s h
                refine ra_14 C0 hH (kf_8_0 (kf_11_0 hk0)) b14 dX11_copy_120 ?_
                refine lv_iload_n hx hb dX11_copy_121 rfl (lv_at hl 2 rfl) ?_
                refine lv_aload_n hx hb dX11_copy_122 rfl (lv_at hl 0 rfl) ?_
                refine gf_X11_10 C0 hH hk0 dX11_copy_123 ?_
                refine gf_X11_108 C0 hH (kf_11_0 hk0) dX11_copy_126 ?_
                refine lv_iload_n hx hb dX11_copy_129 rfl (lv_at hl 3 rfl) ?_
                obtain ⟨b15, h⟩ := gdx_s h
                refine ra_14 C0 hH (kf_8_0 (kf_11_0 hk0)) b15 dX11_copy_130 ?_
                refine lv_iload hx hb dX11_copy_131 (lv_at hl 4 rfl) ?_
                refine lv_iload hx hb dX11_copy_133 (lv_at hl 5 rfl) ?_
                obtain ⟨σ16, eσ16, h⟩ := letv_s h
                replace hH := hs_of eσ16 hH
                obtain ⟨b17, h⟩ := gdc_s h
                refine r_acopy C0 hH (n0 := 40) (n1 := 40) (h := 0) qM_X11_112 hl.1 rfl rfl (ka_14 (kf_8_0 (kf_11_0 hk0)) b14) (ka_14 (kf_8_0 (kf_11_0 hk0)) b15) b17.1 b17.2.1 b17.2.2.1 b17.2.2.2.1 b17.2.2.2.2 dX11_copy_135 (fun H locs hH => ?_)
                refine lv_iload hx hb dX11_copy_138 (lv_at hl 5 rfl) ?_
                exact r_iret C0 hH (pj1 h) (pj2 h) dX11_copy_140
              · replace h := if_t h c13
                exact w_X11_copy_b101 C0  k0 hk0 hH (lv_sub hl [0] rfl) h
          · replace h := if_f h c9
            refine lv_aload_n hx hb dX11_copy_66 rfl (lv_at hl 0 rfl) ?_
            refine lv_iconst (v := 5) hx hb dX11_copy_67 (by decide) ?_
            obtain ⟨r18, σ19, qr18, h⟩ := ob2_s h
            refine go_i hH (va_run_V (As := [.int 5]) (rest := []) C0 hH lk_X11_85 (c_X11_finds hAd k0 5 hk0 σ qr18) (by decide) (ci := 11) hk0 (by decide) (cob_11 _ _ _) rfl rfl hl.1 rfl (Nat.le_of_ble_eq_true rfl) dX11_copy_68) (fun H locs hH => ?_)
            exact r_iret C0 hH (pj1 h) (pj2 h) dX11_copy_71
        · replace h := if_f h c6
          exact w_X11_copy_b39 C0  k0 hk0 hH (lv_sub hl [0] rfl) h
    · replace h := if_t h c2
      refine lv_ldc hx hb hown (hts _ qK_X11_84) dX11_copy_14 ?_
      exact r_iret C0 hH (pj1 h) (pj2 h) dX11_copy_16
theorem c_X11_copy {l : Launch} {E : EnvT} (hAd : Ad E) (k0 : Nat) (v1 : Int32) (v2 : Int32) (v3 : Int32) (v4 : Int32) (v5 : Int32) (hk0 : kd k0 = 11) (σ : Mem) {r : Int32} {σ' : Mem} (h : X11_copy k0 v1 v2 v3 v4 v5 σ = some (r, σ')) : Met l yX11_copy (wsM yX11_copy cX11_copy 6 (some .int)) (rmD 1) (PcM E [.ref (ea E k0), .int v1, .int v2, .int v3, .int v4, .int v5] σ) (QiM E r σ') 0 0 (eA E) :=
  Met.ofM (by decide) (Nat.le_of_ble_eq_true rfl) (fun p e s m below meth c ls C0 hH hl => w_X11_copy_b0 C0 k0 v1 v2 v3 v4 v5 hk0 hH hl h) hAd
set_option maxRecDepth 100000 in
set_option maxHeartbeats 4000000 in
theorem w_X11_drop_b0 {r : Int32} {σ' : Mem} (C0 : Cx E p m c cX11_drop 2 s args RX11 meth (some .int))  (k0 : Nat) (v1 : Int32) (hk0 : kd k0 = 11) {σ : Mem} {H : Heap} {locs : List Loc} {ls : Array Slot} (hH : Hs E s σ H locs) (hl : lv_has ls 2 [(0, .ref (ea E k0)), (1, .int v1)]) (h : X11_drop_b0 k0 v1 σ = some (r, σ')) : W p l e (rmD 1) s m args below meth c H locs 0 0 (MQ below (QiM E r σ') args s 0 0 (eA E)) (F0 m 0 ls []) := by
  obtain ⟨⟨hx, hb, hml, hown, hts⟩, hr, hlocks, hF, hAd⟩ := id C0
  unfold X11_drop_b0 at h
  refine lv_iload_n hx hb dX11_drop_0 rfl (lv_at hl 1 rfl) ?_
  refine go_i hH (va_run_S (As := [.int v1]) (rest := []) C0 hH lk_X11_80 (c_X11_isRow hAd v1  σ rfl) (by decide) rfl hl.1 rfl (Nat.le_of_ble_eq_true rfl) dX11_drop_1) (fun H locs hH => ?_)
  refine lv_if_ne (tgt := 10) hx hb dX11_drop_4 (by decide) (fun c1 => ?_) (fun c1 => ?_)
  · replace h := if_f h c1
    refine lv_aload_n hx hb dX11_drop_10 rfl (lv_at hl 0 rfl) ?_
    refine gf_X11_10 C0 hH hk0 dX11_drop_11 ?_
    refine lv_iload_n hx hb dX11_drop_14 rfl (lv_at hl 1 rfl) ?_
    obtain ⟨r2, qr2, h⟩ := ob_s h
    refine go_i hH (va_run_V (As := [.int v1]) (rest := []) C0 hH lk_X11_93 (c_X8_isMissing hAd (k0 + 1) v1 (kf_11_0 hk0) σ qr2) (by decide) (ci := 8) (kf_11_0 hk0) (by decide) (cob_8 _ _ _) rfl rfl hl.1 rfl (Nat.le_of_ble_eq_true rfl) dX11_drop_15) (fun H locs hH => ?_)
    refine lv_if_eq (tgt := 27) hx hb dX11_drop_18 (by decide) (fun c3 => ?_) (fun c3 => ?_)
    · replace h := if_t h c3
      refine lv_aload_n hx hb dX11_drop_27 rfl (lv_at hl 0 rfl) ?_
      refine lv_iconst (v := 0) hx hb dX11_drop_28 (by decide) ?_
      refine pf_X11_77 C0 hH hk0 dX11_drop_29 (fun H locs hH => ?_)
      refine lv_aload_n hx hb dX11_drop_32 rfl (lv_at hl 0 rfl) ?_
      refine gf_X11_10 C0 hH hk0 dX11_drop_33 ?_
      refine lv_iload_n hx hb dX11_drop_36 rfl (lv_at hl 1 rfl) ?_
      obtain ⟨r4, σ5, qr4, h⟩ := ob2_s h
      refine go_i hH (va_run_V (As := [.int v1]) (rest := []) C0 hH lk_X11_118 (c_X8_lose hAd (k0 + 1) v1 (kf_11_0 hk0) (wr σ k0 11 0) qr4) (by decide) (ci := 8) (kf_11_0 hk0) (by decide) (cob_8 _ _ _) rfl rfl hl.1 rfl (Nat.le_of_ble_eq_true rfl) dX11_drop_37) (fun H locs hH => ?_)
      exact r_iret C0 hH (pj1 h) (pj2 h) dX11_drop_40
    · replace h := if_f h c3
      refine lv_aload_n hx hb dX11_drop_21 rfl (lv_at hl 0 rfl) ?_
      refine lv_iconst (v := 1) hx hb dX11_drop_22 (by decide) ?_
      obtain ⟨r6, σ7, qr6, h⟩ := ob2_s h
      refine go_i hH (va_run_V (As := [.int 1]) (rest := []) C0 hH lk_X11_85 (c_X11_finds hAd k0 1 hk0 σ qr6) (by decide) (ci := 11) hk0 (by decide) (cob_11 _ _ _) rfl rfl hl.1 rfl (Nat.le_of_ble_eq_true rfl) dX11_drop_23) (fun H locs hH => ?_)
      exact r_iret C0 hH (pj1 h) (pj2 h) dX11_drop_26
  · replace h := if_t h c1
    refine lv_ldc hx hb hown (hts _ qK_X11_84) dX11_drop_7 ?_
    exact r_iret C0 hH (pj1 h) (pj2 h) dX11_drop_9
theorem c_X11_drop {l : Launch} {E : EnvT} (hAd : Ad E) (k0 : Nat) (v1 : Int32) (hk0 : kd k0 = 11) (σ : Mem) {r : Int32} {σ' : Mem} (h : X11_drop k0 v1 σ = some (r, σ')) : Met l yX11_drop (wsM yX11_drop cX11_drop 2 (some .int)) (rmD 1) (PcM E [.ref (ea E k0), .int v1] σ) (QiM E r σ') 0 0 (eA E) :=
  Met.ofM (by decide) (Nat.le_of_ble_eq_true rfl) (fun p e s m below meth c ls C0 hH hl => w_X11_drop_b0 C0 k0 v1 hk0 hH hl h) hAd
set_option maxRecDepth 100000 in
set_option maxHeartbeats 4000000 in
theorem w_X11_feed_b0 {r : Int32} {σ' : Mem} (C0 : Cx E p m c cX11_feed 2 s args RX11 meth (some .int))  (k0 : Nat) (v1 : Int32) (hk0 : kd k0 = 11) {σ : Mem} {H : Heap} {locs : List Loc} {ls : Array Slot} (hH : Hs E s σ H locs) (hl : lv_has ls 2 [(0, .ref (ea E k0)), (1, .int v1)]) (h : X11_feed_b0 k0 v1 σ = some (r, σ')) : W p l e (rmD 1) s m args below meth c H locs 0 0 (MQ below (QiM E r σ') args s 0 0 (eA E)) (F0 m 0 ls []) := by
  obtain ⟨⟨hx, hb, hml, hown, hts⟩, hr, hlocks, hF, hAd⟩ := id C0
  unfold X11_feed_b0 at h
  refine lv_iload_n hx hb dX11_feed_0 rfl (lv_at hl 1 rfl) ?_
  refine lv_if_lt (tgt := 11) hx hb dX11_feed_1 (by decide) (fun c1 => ?_) (fun c1 => ?_)
  · replace h := if_t h c1
    refine lv_ldc hx hb hown (hts _ qK_X11_84) dX11_feed_11 ?_
    exact r_iret C0 hH (pj1 h) (pj2 h) dX11_feed_13
  · replace h := if_f h c1
    refine lv_iload_n hx hb dX11_feed_4 rfl (lv_at hl 1 rfl) ?_
    refine lv_sipush (v := 255) hx hb dX11_feed_5 (by decide) ?_
    refine lv_icmp_le (tgt := 14) hx hb dX11_feed_8 (by decide) (fun c2 => ?_) (fun c2 => ?_)
    · replace h := if_t h c2
      refine lv_aload_n hx hb dX11_feed_14 rfl (lv_at hl 0 rfl) ?_
      refine gf_X11_19 C0 hH hk0 dX11_feed_15 ?_
      refine gf_X11_121 C0 hH (kf_11_1 hk0) dX11_feed_18 ?_
      refine lv_sipush (v := 130) hx hb dX11_feed_21 (by decide) ?_
      refine lv_icmp_lt (tgt := 30) hx hb dX11_feed_24 (by decide) (fun c3 => ?_) (fun c3 => ?_)
      · replace h := if_t h c3
        refine lv_aload_n hx hb dX11_feed_30 rfl (lv_at hl 0 rfl) ?_
        refine gf_X11_19 C0 hH hk0 dX11_feed_31 ?_
        refine lv_iload_n hx hb dX11_feed_34 rfl (lv_at hl 1 rfl) ?_
        obtain ⟨r4, σ5, qr4, h⟩ := ob2_s h
        refine go_i hH (va_run_V (As := [.int v1]) (rest := []) C0 hH lk_X11_125 (c_X10_add hAd (k0 + 13) v1 (kf_11_1 hk0) σ qr4) (by decide) (ci := 10) (kf_11_1 hk0) (by decide) (cob_10 _ _ _) rfl rfl hl.1 rfl (Nat.le_of_ble_eq_true rfl) dX11_feed_35) (fun H locs hH => ?_)
        exact r_iret C0 hH (pj1 h) (pj2 h) dX11_feed_38
      · replace h := if_f h c3
        refine lv_ldc hx hb hown (hts _ qK_X11_124) dX11_feed_27 ?_
        exact r_iret C0 hH (pj1 h) (pj2 h) dX11_feed_29
    · replace h := if_f h c2
      refine lv_ldc hx hb hown (hts _ qK_X11_84) dX11_feed_11 ?_
      exact r_iret C0 hH (pj1 h) (pj2 h) dX11_feed_13
theorem c_X11_feed {l : Launch} {E : EnvT} (hAd : Ad E) (k0 : Nat) (v1 : Int32) (hk0 : kd k0 = 11) (σ : Mem) {r : Int32} {σ' : Mem} (h : X11_feed k0 v1 σ = some (r, σ')) : Met l yX11_feed (wsM yX11_feed cX11_feed 2 (some .int)) (rmD 1) (PcM E [.ref (ea E k0), .int v1] σ) (QiM E r σ') 0 0 (eA E) :=
  Met.ofM (by decide) (Nat.le_of_ble_eq_true rfl) (fun p e s m below meth c ls C0 hH hl => w_X11_feed_b0 C0 k0 v1 hk0 hH hl h) hAd
set_option maxRecDepth 100000 in
set_option maxHeartbeats 4000000 in
theorem w_X11_begin_b0 {σ' : Mem} (C0 : Cx E p m c cX11_begin 2 s args RX11 meth (none))  (k0 : Nat) (k1 : Nat) (hk0 : kd k0 = 11) (hk1 : kd k1 = 2) {σ : Mem} {H : Heap} {locs : List Loc} {ls : Array Slot} (hH : Hs E s σ H locs) (hl : lv_has ls 2 [(0, .ref (ea E k0)), (1, .ref (ea E k1))]) (h : X11_begin_b0 k0 k1 σ = some σ') : W p l e (rmD 2) s m args below meth c H locs 0 0 (MQ below (QvM E σ') args s 0 0 (eA E)) (F0 m 0 ls []) := by
  obtain ⟨⟨hx, hb, hml, hown, hts⟩, hr, hlocks, hF, hAd⟩ := id C0
  unfold X11_begin_b0 at h
  refine lv_aload_n hx hb dX11_begin_0 rfl (lv_at hl 0 rfl) ?_
  refine gf_X11_33 C0 hH hk0 dX11_begin_1 ?_
  refine lv_aload_n hx hb dX11_begin_4 rfl (lv_at hl 1 rfl) ?_
  obtain ⟨σ1, qσ1, h⟩ := ob_s h
  refine go_v hH (va_run_V (As := [.ref (ea E k1)]) (rest := []) C0 hH lk_X11_314 (c_X2_becomeLike hAd (k0 + 22) k1 (kf_11_3 hk0) hk1 σ qσ1) (by decide) (ci := 2) (kf_11_3 hk0) (by decide) (cob_2 _ _ _) rfl rfl hl.1 rfl (Nat.le_of_ble_eq_true rfl) dX11_begin_5) (fun H locs hH => ?_)
  refine lv_aload_n hx hb dX11_begin_8 rfl (lv_at hl 0 rfl) ?_
  refine gf_X11_40 C0 hH hk0 dX11_begin_9 ?_
  obtain ⟨σ2, qσ2, h⟩ := ob_s h
  refine go_v hH (va_run_V (As := []) (rest := []) C0 hH lk_X11_343 (c_X0_forgetAll hAd (k0 + 28) (kf_11_4 hk0) σ1 qσ2) (by decide) (ci := 0) (kf_11_4 hk0) (by decide) (cob_0 _ _ _) rfl rfl hl.1 rfl (Nat.le_of_ble_eq_true rfl) dX11_begin_12) (fun H locs hH => ?_)
  refine lv_aload_n hx hb dX11_begin_15 rfl (lv_at hl 0 rfl) ?_
  refine lv_iconst (v := 0) hx hb dX11_begin_16 (by decide) ?_
  refine pf_X11_69 C0 hH hk0 rfl rfl dX11_begin_17 (fun H locs hH => ?_)
  exact r_vret C0 hH (Option.some.inj h) dX11_begin_20
theorem c_X11_begin {l : Launch} {E : EnvT} (hAd : Ad E) (k0 : Nat) (k1 : Nat) (hk0 : kd k0 = 11) (hk1 : kd k1 = 2) (σ : Mem) {σ' : Mem} (h : X11_begin k0 k1 σ = some σ') : Met l yX11_begin (wsM yX11_begin cX11_begin 2 (none)) (rmD 2) (PcM E [.ref (ea E k0), .ref (ea E k1)] σ) (QvM E σ') 0 0 (eA E) :=
  Met.ofM (by decide) (Nat.le_of_ble_eq_true rfl) (fun p e s m below meth c ls C0 hH hl => w_X11_begin_b0 C0 k0 k1 hk0 hk1 hH hl h) hAd
set_option maxRecDepth 100000 in
set_option maxHeartbeats 4000000 in
theorem w_X11_book_b0 {r : Int32} {σ' : Mem} (C0 : Cx E p m c cX11_book 2 s args RX11 meth (some .int))  (k0 : Nat) (hk0 : kd k0 = 11) {σ : Mem} {H : Heap} {locs : List Loc} {ls : Array Slot} (hH : Hs E s σ H locs) (hl : lv_has ls 2 [(0, .ref (ea E k0))]) (h : X11_book_b0 k0 σ = some (r, σ')) : W p l e (rmD 5) s m args below meth c H locs 0 0 (MQ below (QiM E r σ') args s 0 0 (eA E)) (F0 m 0 ls []) := by
  obtain ⟨⟨hx, hb, hml, hown, hts⟩, hr, hlocks, hF, hAd⟩ := id C0
  unfold X11_book_b0 at h
  refine lv_aload_n hx hb dX11_book_0 rfl (lv_at hl 0 rfl) ?_
  refine gf_X11_26 C0 hH hk0 dX11_book_1 ?_
  refine lv_aload_n hx hb dX11_book_4 rfl (lv_at hl 0 rfl) ?_
  refine gf_X11_19 C0 hH hk0 dX11_book_5 ?_
  obtain ⟨r1, σ2, qr1, h⟩ := ob2_s h
  refine go_i hH (va_run_V (As := [.ref (ea E (k0 + 13))]) (rest := []) C0 hH lk_X11_128 (c_X7_reads hAd (k0 + 15) (k0 + 13) (kf_11_2 hk0) (kf_11_1 hk0) σ qr1) (by decide) (ci := 7) (kf_11_2 hk0) (by decide) (cob_7 _ _ _) rfl rfl hl.1 rfl (Nat.le_of_ble_eq_true rfl) dX11_book_8) (fun H locs hH => ?_)
  refine lv_istore_n (lv' := [(1, .int r1), (0, .ref (ea E k0))]) hx hb dX11_book_11 rfl hl (by decide) rfl (fun ls hl => ?_)
  refine lv_aload_n hx hb dX11_book_12 rfl (lv_at hl 1 rfl) ?_
  refine gf_X11_19 C0 hH hk0 dX11_book_13 ?_
  refine lv_iconst (v := 0) hx hb dX11_book_16 (by decide) ?_
  refine pf_X11_121 C0 hH (kf_11_1 hk0) dX11_book_17 (fun H locs hH => ?_)
  refine lv_iload_n hx hb dX11_book_20 rfl (lv_at hl 0 rfl) ?_
  refine lv_if_ne (tgt := 46) hx hb dX11_book_21 (by decide) (fun c3 => ?_) (fun c3 => ?_)
  · replace h := if_f h c3
    refine lv_aload_n hx hb dX11_book_46 rfl (lv_at hl 1 rfl) ?_
    refine lv_aload_n hx hb dX11_book_47 rfl (lv_at hl 1 rfl) ?_
    refine gf_X11_26 C0 hH hk0 dX11_book_48 ?_
    refine gf_X11_139 C0 hH (kf_11_2 hk0) dX11_book_51 ?_
    obtain ⟨σ4, qσ4, h⟩ := ob_s h
    refine go_v hH (va_run_V (As := [.ref (ea E ((k0 + 15) + 1))]) (rest := []) C0 hH lk_X11_142 (c_X11_begin hAd k0 ((k0 + 15) + 1) hk0 (kf_7_0 (kf_11_2 hk0)) (wr σ2 (k0 + 13) 1 0) qσ4) (by decide) (ci := 11) hk0 (by decide) (cob_11 _ _ _) rfl rfl hl.1 rfl (Nat.le_of_ble_eq_true rfl) dX11_book_54) (fun H locs hH => ?_)
    refine lv_aload_n hx hb dX11_book_57 rfl (lv_at hl 1 rfl) ?_
    refine gf_X11_33 C0 hH hk0 dX11_book_58 ?_
    refine gf_X11_146 C0 hH (kf_11_3 hk0) dX11_book_61 ?_
    exact r_iret C0 hH (pj1 h) (pj2 h) dX11_book_64
  · replace h := if_t h c3
    refine lv_aload_n hx hb dX11_book_24 rfl (lv_at hl 1 rfl) ?_
    refine lv_aload_n hx hb dX11_book_25 rfl (lv_at hl 1 rfl) ?_
    refine gf_X11_26 C0 hH hk0 dX11_book_26 ?_
    obtain ⟨σ5, eσ5, h⟩ := letv_s h
    replace hH := hs_of eσ5 hH
    refine gf_X11_132 C0 hH (kf_11_2 hk0) dX11_book_29 ?_
    refine pf_X11_73 C0 hH hk0 dX11_book_32 (fun H locs hH => ?_)
    refine lv_ldc hx hb hown (hts _ qK_X11_135) dX11_book_35 ?_
    refine lv_aload_n hx hb dX11_book_37 rfl (lv_at hl 1 rfl) ?_
    refine gf_X11_26 C0 hH hk0 dX11_book_38 ?_
    obtain ⟨σ6, eσ6, h⟩ := letv_s h
    replace hH := hs_of eσ6 hH
    refine gf_X11_136 C0 hH (kf_11_2 hk0) dX11_book_41 ?_
    refine lv_isub hx hb dX11_book_44 ?_
    exact r_iret C0 hH (pj1 h) (pj2 h) dX11_book_45
theorem c_X11_book {l : Launch} {E : EnvT} (hAd : Ad E) (k0 : Nat) (hk0 : kd k0 = 11) (σ : Mem) {r : Int32} {σ' : Mem} (h : X11_book k0 σ = some (r, σ')) : Met l yX11_book (wsM yX11_book cX11_book 2 (some .int)) (rmD 5) (PcM E [.ref (ea E k0)] σ) (QiM E r σ') 0 0 (eA E) :=
  Met.ofM (by decide) (Nat.le_of_ble_eq_true rfl) (fun p e s m below meth c ls C0 hH hl => w_X11_book_b0 C0 k0 hk0 hH hl h) hAd
set_option maxRecDepth 100000 in
set_option maxHeartbeats 4000000 in
theorem w_X11_fault_b0 {r : Int32} (C0 : Cx E p m c cX11_fault 1 s args RX11 meth (some .int))  (k0 : Nat) (hk0 : kd k0 = 11) {σ : Mem} {H : Heap} {locs : List Loc} {ls : Array Slot} (hH : Hs E s σ H locs) (hl : lv_has ls 1 [(0, .ref (ea E k0))]) (h : X11_fault_b0 k0 σ = r) : W p l e (rmD 0) s m args below meth c H locs 0 0 (MQ below (QiM E r σ) args s 0 0 (eA E)) (F0 m 0 ls []) := by
  obtain ⟨⟨hx, hb, hml, hown, hts⟩, hr, hlocks, hF, hAd⟩ := id C0
  unfold X11_fault_b0 at h
  refine lv_aload_n hx hb dX11_fault_0 rfl (lv_at hl 0 rfl) ?_
  refine gf_X11_73 C0 hH hk0 dX11_fault_1 ?_
  exact r_iret C0 hH h rfl dX11_fault_4
theorem c_X11_fault {l : Launch} {E : EnvT} (hAd : Ad E) (k0 : Nat) (hk0 : kd k0 = 11) (σ : Mem) {r : Int32} (h : X11_fault k0 σ = r) : Met l yX11_fault (wsM yX11_fault cX11_fault 1 (some .int)) (rmD 0) (PcM E [.ref (ea E k0)] σ) (QiM E r σ) 0 0 (eA E) :=
  Met.ofM (by decide) (Nat.le_of_ble_eq_true rfl) (fun p e s m below meth c ls C0 hH hl => w_X11_fault_b0 C0 k0 hk0 hH hl h) hAd
set_option maxRecDepth 100000 in
set_option maxHeartbeats 4000000 in
theorem w_X11_undo_b0 {r : Int32} {σ' : Mem} (C0 : Cx E p m c cX11_undo 1 s args RX11 meth (some .int))  (k0 : Nat) (hk0 : kd k0 = 11) {σ : Mem} {H : Heap} {locs : List Loc} {ls : Array Slot} (hH : Hs E s σ H locs) (hl : lv_has ls 1 [(0, .ref (ea E k0))]) (h : X11_undo_b0 k0 σ = some (r, σ')) : W p l e (rmD 3) s m args below meth c H locs 0 0 (MQ below (QiM E r σ') args s 0 0 (eA E)) (F0 m 0 ls []) := by
  obtain ⟨⟨hx, hb, hml, hown, hts⟩, hr, hlocks, hF, hAd⟩ := id C0
  unfold X11_undo_b0 at h
  refine lv_aload_n hx hb dX11_undo_0 rfl (lv_at hl 0 rfl) ?_
  refine gf_X11_40 C0 hH hk0 dX11_undo_1 ?_
  refine gf_X11_149 C0 hH (kf_11_4 hk0) dX11_undo_4 ?_
  refine lv_if_ne (tgt := 13) hx hb dX11_undo_7 (by decide) (fun c1 => ?_) (fun c1 => ?_)
  · replace h := if_f h c1
    refine lv_aload_n hx hb dX11_undo_13 rfl (lv_at hl 0 rfl) ?_
    refine gf_X11_40 C0 hH hk0 dX11_undo_14 ?_
    refine lv_aload_n hx hb dX11_undo_17 rfl (lv_at hl 0 rfl) ?_
    refine gf_X11_33 C0 hH hk0 dX11_undo_18 ?_
    obtain ⟨σ2, qσ2, h⟩ := ob_s h
    refine go_v hH (va_run_V (As := [.ref (ea E (k0 + 22))]) (rest := []) C0 hH lk_X11_153 (c_X0_goBack hAd (k0 + 28) (k0 + 22) (kf_11_4 hk0) (kf_11_3 hk0) σ qσ2) (by decide) (ci := 0) (kf_11_4 hk0) (by decide) (cob_0 _ _ _) rfl rfl hl.1 rfl (Nat.le_of_ble_eq_true rfl) dX11_undo_21) (fun H locs hH => ?_)
    refine lv_aload_n hx hb dX11_undo_24 rfl (lv_at hl 0 rfl) ?_
    refine lv_iconst (v := 0) hx hb dX11_undo_25 (by decide) ?_
    refine pf_X11_69 C0 hH hk0 rfl rfl dX11_undo_26 (fun H locs hH => ?_)
    refine lv_aload_n hx hb dX11_undo_29 rfl (lv_at hl 0 rfl) ?_
    refine gf_X11_40 C0 hH hk0 dX11_undo_30 ?_
    obtain ⟨σ3, eσ3, h⟩ := letv_s h
    replace hH := hs_of eσ3 hH
    refine gf_X11_149 C0 hH (kf_11_4 hk0) dX11_undo_33 ?_
    exact r_iret C0 hH (pj1 h) (pj2 h) dX11_undo_36
  · replace h := if_t h c1
    refine lv_ldc hx hb hown (hts _ qK_X11_152) dX11_undo_10 ?_
    exact r_iret C0 hH (pj1 h) (pj2 h) dX11_undo_12
theorem c_X11_undo {l : Launch} {E : EnvT} (hAd : Ad E) (k0 : Nat) (hk0 : kd k0 = 11) (σ : Mem) {r : Int32} {σ' : Mem} (h : X11_undo k0 σ = some (r, σ')) : Met l yX11_undo (wsM yX11_undo cX11_undo 1 (some .int)) (rmD 3) (PcM E [.ref (ea E k0)] σ) (QiM E r σ') 0 0 (eA E) :=
  Met.ofM (by decide) (Nat.le_of_ble_eq_true rfl) (fun p e s m below meth c ls C0 hH hl => w_X11_undo_b0 C0 k0 hk0 hH hl h) hAd
set_option maxRecDepth 100000 in
set_option maxHeartbeats 4000000 in
theorem w_X11_beginAct_b0 {σ' : Mem} (C0 : Cx E p m c cX11_beginAct 1 s args RX11 meth (none))  (k0 : Nat) (hk0 : kd k0 = 11) {σ : Mem} {H : Heap} {locs : List Loc} {ls : Array Slot} (hH : Hs E s σ H locs) (hl : lv_has ls 1 [(0, .ref (ea E k0))]) (h : X11_beginAct_b0 k0 σ = some σ') : W p l e (rmD 3) s m args below meth c H locs 0 0 (MQ below (QvM E σ') args s 0 0 (eA E)) (F0 m 0 ls []) := by
  obtain ⟨⟨hx, hb, hml, hown, hts⟩, hr, hlocks, hF, hAd⟩ := id C0
  unfold X11_beginAct_b0 at h
  refine lv_aload_n hx hb dX11_beginAct_0 rfl (lv_at hl 0 rfl) ?_
  refine gf_X11_40 C0 hH hk0 dX11_beginAct_1 ?_
  refine lv_aload_n hx hb dX11_beginAct_4 rfl (lv_at hl 0 rfl) ?_
  refine gf_X11_33 C0 hH hk0 dX11_beginAct_5 ?_
  obtain ⟨σ1, qσ1, h⟩ := ob_s h
  refine go_v hH (va_run_V (As := [.ref (ea E (k0 + 22))]) (rest := []) C0 hH lk_X11_346 (c_X0_keep hAd (k0 + 28) (k0 + 22) (kf_11_4 hk0) (kf_11_3 hk0) σ qσ1) (by decide) (ci := 0) (kf_11_4 hk0) (by decide) (cob_0 _ _ _) rfl rfl hl.1 rfl (Nat.le_of_ble_eq_true rfl) dX11_beginAct_8) (fun H locs hH => ?_)
  refine lv_aload_n hx hb dX11_beginAct_11 rfl (lv_at hl 0 rfl) ?_
  refine lv_iconst (v := 0) hx hb dX11_beginAct_12 (by decide) ?_
  refine pf_X11_69 C0 hH hk0 rfl rfl dX11_beginAct_13 (fun H locs hH => ?_)
  exact r_vret C0 hH (Option.some.inj h) dX11_beginAct_16
theorem c_X11_beginAct {l : Launch} {E : EnvT} (hAd : Ad E) (k0 : Nat) (hk0 : kd k0 = 11) (σ : Mem) {σ' : Mem} (h : X11_beginAct k0 σ = some σ') : Met l yX11_beginAct (wsM yX11_beginAct cX11_beginAct 1 (none)) (rmD 3) (PcM E [.ref (ea E k0)] σ) (QvM E σ') 0 0 (eA E) :=
  Met.ofM (by decide) (Nat.le_of_ble_eq_true rfl) (fun p e s m below meth c ls C0 hH hl => w_X11_beginAct_b0 C0 k0 hk0 hH hl h) hAd
set_option maxRecDepth 100000 in
set_option maxHeartbeats 4000000 in
theorem w_X11_isKindOfPage_b0 {r : Int32} (C0 : Cx E p m c cX11_isKindOfPage 1 s args RX11 meth (some .boolean))  (v0 : Int32)  {σ : Mem} {H : Heap} {locs : List Loc} {ls : Array Slot} (hH : Hs E s σ H locs) (hl : lv_has ls 1 [(0, .int v0)]) (h : X11_isKindOfPage_b0 v0 = r) : W p l e (rmD 0) s m args below meth c H locs 0 0 (MQ below (QiM E r σ) args s 0 0 (eA E)) (F0 m 0 ls []) := by
  obtain ⟨⟨hx, hb, hml, hown, hts⟩, hr, hlocks, hF, hAd⟩ := id C0
  unfold X11_isKindOfPage_b0 at h
  refine lv_iload_n hx hb dX11_isKindOfPage_0 rfl (lv_at hl 0 rfl) ?_
  refine lv_iconst (v := 1) hx hb dX11_isKindOfPage_1 (by decide) ?_
  refine lv_icmp_lt (tgt := 14) hx hb dX11_isKindOfPage_2 (by decide) (fun c1 => ?_) (fun c1 => ?_)
  · replace h := if_t h c1
    refine lv_iconst (v := 0) hx hb dX11_isKindOfPage_14 (by decide) ?_
    exact r_zret C0 rfl hH h rfl dX11_isKindOfPage_15
  · replace h := if_f h c1
    refine lv_iload_n hx hb dX11_isKindOfPage_5 rfl (lv_at hl 0 rfl) ?_
    refine lv_iconst (v := 5) hx hb dX11_isKindOfPage_6 (by decide) ?_
    refine lv_icmp_gt (tgt := 14) hx hb dX11_isKindOfPage_7 (by decide) (fun c2 => ?_) (fun c2 => ?_)
    · replace h := if_t h c2
      refine lv_iconst (v := 0) hx hb dX11_isKindOfPage_14 (by decide) ?_
      exact r_zret C0 rfl hH h rfl dX11_isKindOfPage_15
    · replace h := if_f h c2
      refine lv_iconst (v := 1) hx hb dX11_isKindOfPage_10 (by decide) ?_
      refine lv_goto (tgt := 15) hx hb dX11_isKindOfPage_11 (by decide) ?_
      exact r_zret C0 rfl hH h rfl dX11_isKindOfPage_15
theorem c_X11_isKindOfPage {l : Launch} {E : EnvT} (hAd : Ad E) (v0 : Int32)  (σ : Mem) {r : Int32} (h : X11_isKindOfPage v0 = r) : Met l yX11_isKindOfPage (wsM yX11_isKindOfPage cX11_isKindOfPage 1 (some .boolean)) (rmD 0) (PcM E [.int v0] σ) (QiM E r σ) 0 0 (eA E) :=
  Met.ofM (by decide) (Nat.le_of_ble_eq_true rfl) (fun p e s m below meth c ls C0 hH hl => w_X11_isKindOfPage_b0 C0 v0  hH hl h) hAd
set_option maxRecDepth 100000 in
set_option maxHeartbeats 4000000 in
theorem w_X11_isMeasure_b0 {r : Int32} (C0 : Cx E p m c cX11_isMeasure 1 s args RX11 meth (some .boolean))  (v0 : Int32)  {σ : Mem} {H : Heap} {locs : List Loc} {ls : Array Slot} (hH : Hs E s σ H locs) (hl : lv_has ls 1 [(0, .int v0)]) (h : X11_isMeasure_b0 v0 = r) : W p l e (rmD 0) s m args below meth c H locs 0 0 (MQ below (QiM E r σ) args s 0 0 (eA E)) (F0 m 0 ls []) := by
  obtain ⟨⟨hx, hb, hml, hown, hts⟩, hr, hlocks, hF, hAd⟩ := id C0
  unfold X11_isMeasure_b0 at h
  refine lv_iload_n hx hb dX11_isMeasure_0 rfl (lv_at hl 0 rfl) ?_
  refine lv_if_lt (tgt := 14) hx hb dX11_isMeasure_1 (by decide) (fun c1 => ?_) (fun c1 => ?_)
  · replace h := if_t h c1
    refine lv_iconst (v := 0) hx hb dX11_isMeasure_14 (by decide) ?_
    exact r_zret C0 rfl hH h rfl dX11_isMeasure_15
  · replace h := if_f h c1
    refine lv_iload_n hx hb dX11_isMeasure_4 rfl (lv_at hl 0 rfl) ?_
    refine lv_bipush (v := 30) hx hb dX11_isMeasure_5 (by decide) ?_
    refine lv_icmp_gt (tgt := 14) hx hb dX11_isMeasure_7 (by decide) (fun c2 => ?_) (fun c2 => ?_)
    · replace h := if_t h c2
      refine lv_iconst (v := 0) hx hb dX11_isMeasure_14 (by decide) ?_
      exact r_zret C0 rfl hH h rfl dX11_isMeasure_15
    · replace h := if_f h c2
      refine lv_iconst (v := 1) hx hb dX11_isMeasure_10 (by decide) ?_
      refine lv_goto (tgt := 15) hx hb dX11_isMeasure_11 (by decide) ?_
      exact r_zret C0 rfl hH h rfl dX11_isMeasure_15
theorem c_X11_isMeasure {l : Launch} {E : EnvT} (hAd : Ad E) (v0 : Int32)  (σ : Mem) {r : Int32} (h : X11_isMeasure v0 = r) : Met l yX11_isMeasure (wsM yX11_isMeasure cX11_isMeasure 1 (some .boolean)) (rmD 0) (PcM E [.int v0] σ) (QiM E r σ) 0 0 (eA E) :=
  Met.ofM (by decide) (Nat.le_of_ble_eq_true rfl) (fun p e s m below meth c ls C0 hH hl => w_X11_isMeasure_b0 C0 v0  hH hl h) hAd
set_option maxRecDepth 100000 in
set_option maxHeartbeats 4000000 in
theorem w_X11_isWithoutBook_b0 {r : Int32} (C0 : Cx E p m c cX11_isWithoutBook 1 s args RX11 meth (some .boolean))  (k0 : Nat) (hk0 : kd k0 = 11) {σ : Mem} {H : Heap} {locs : List Loc} {ls : Array Slot} (hH : Hs E s σ H locs) (hl : lv_has ls 1 [(0, .ref (ea E k0))]) (h : X11_isWithoutBook_b0 k0 σ = r) : W p l e (rmD 0) s m args below meth c H locs 0 0 (MQ below (QiM E r σ) args s 0 0 (eA E)) (F0 m 0 ls []) := by
  obtain ⟨⟨hx, hb, hml, hown, hts⟩, hr, hlocks, hF, hAd⟩ := id C0
  unfold X11_isWithoutBook_b0 at h
  refine lv_aload_n hx hb dX11_isWithoutBook_0 rfl (lv_at hl 0 rfl) ?_
  refine gf_X11_33 C0 hH hk0 dX11_isWithoutBook_1 ?_
  refine gf_X11_146 C0 hH (kf_11_3 hk0) dX11_isWithoutBook_4 ?_
  refine lv_if_ne (tgt := 14) hx hb dX11_isWithoutBook_7 (by decide) (fun c1 => ?_) (fun c1 => ?_)
  · replace h := if_f h c1
    refine lv_iconst (v := 0) hx hb dX11_isWithoutBook_14 (by decide) ?_
    exact r_zret C0 rfl hH h rfl dX11_isWithoutBook_15
  · replace h := if_t h c1
    refine lv_iconst (v := 1) hx hb dX11_isWithoutBook_10 (by decide) ?_
    refine lv_goto (tgt := 15) hx hb dX11_isWithoutBook_11 (by decide) ?_
    exact r_zret C0 rfl hH h rfl dX11_isWithoutBook_15
theorem c_X11_isWithoutBook {l : Launch} {E : EnvT} (hAd : Ad E) (k0 : Nat) (hk0 : kd k0 = 11) (σ : Mem) {r : Int32} (h : X11_isWithoutBook k0 σ = r) : Met l yX11_isWithoutBook (wsM yX11_isWithoutBook cX11_isWithoutBook 1 (some .boolean)) (rmD 0) (PcM E [.ref (ea E k0)] σ) (QiM E r σ) 0 0 (eA E) :=
  Met.ofM (by decide) (Nat.le_of_ble_eq_true rfl) (fun p e s m below meth c ls C0 hH hl => w_X11_isWithoutBook_b0 C0 k0 hk0 hH hl h) hAd
set_option maxRecDepth 100000 in
set_option maxHeartbeats 4000000 in
theorem w_X11_put_b0 {r : Int32} {σ' : Mem} (C0 : Cx E p m c cX11_put 6 s args RX11 meth (some .int))  (k0 : Nat) (v1 : Int32) (v2 : Int32) (v3 : Int32) (v4 : Int32) (v5 : Int32) (hk0 : kd k0 = 11) {σ : Mem} {H : Heap} {locs : List Loc} {ls : Array Slot} (hH : Hs E s σ H locs) (hl : lv_has ls 6 [(0, .ref (ea E k0)), (1, .int v1), (2, .int v2), (3, .int v3), (4, .int v4), (5, .int v5)]) (h : X11_put_b0 k0 v1 v2 v3 v4 v5 σ = some (r, σ')) : W p l e (rmD 4) s m args below meth c H locs 0 0 (MQ below (QiM E r σ') args s 0 0 (eA E)) (F0 m 0 ls []) := by
  obtain ⟨⟨hx, hb, hml, hown, hts⟩, hr, hlocks, hF, hAd⟩ := id C0
  unfold X11_put_b0 at h
  refine lv_aload_n hx hb dX11_put_0 rfl (lv_at hl 0 rfl) ?_
  refine go_i hH (va_run_V (As := []) (rest := []) C0 hH lk_X11_156 (c_X11_isWithoutBook hAd k0 hk0 σ rfl) (by decide) (ci := 11) hk0 (by decide) (cob_11 _ _ _) rfl rfl hl.1 rfl (Nat.le_of_ble_eq_true rfl) dX11_put_1) (fun H locs hH => ?_)
  refine lv_if_eq (tgt := 10) hx hb dX11_put_4 (by decide) (fun c1 => ?_) (fun c1 => ?_)
  · replace h := if_t h c1
    refine lv_iload_n hx hb dX11_put_10 rfl (lv_at hl 1 rfl) ?_
    refine lv_if_lt (tgt := 55) hx hb dX11_put_11 (by decide) (fun c2 => ?_) (fun c2 => ?_)
    · replace h := if_t h c2
      refine lv_ldc hx hb hown (hts _ qK_X11_84) dX11_put_55 ?_
      exact r_iret C0 hH (pj1 h) (pj2 h) dX11_put_57
    · replace h := if_f h c2
      refine lv_iload_n hx hb dX11_put_14 rfl (lv_at hl 1 rfl) ?_
      refine lv_aload_n hx hb dX11_put_15 rfl (lv_at hl 0 rfl) ?_
      refine gf_X11_33 C0 hH hk0 dX11_put_16 ?_
      refine gf_X11_146 C0 hH (kf_11_3 hk0) dX11_put_19 ?_
      refine lv_icmp_gt (tgt := 55) hx hb dX11_put_22 (by decide) (fun c3 => ?_) (fun c3 => ?_)
      · replace h := if_t h c3
        refine lv_ldc hx hb hown (hts _ qK_X11_84) dX11_put_55 ?_
        exact r_iret C0 hH (pj1 h) (pj2 h) dX11_put_57
      · replace h := if_f h c3
        refine lv_iload_n hx hb dX11_put_25 rfl (lv_at hl 2 rfl) ?_
        refine go_i hH (va_run_S (As := [.int v2]) (rest := []) C0 hH lk_X11_160 (c_X11_isKindOfPage hAd v2  σ rfl) (by decide) rfl hl.1 rfl (Nat.le_of_ble_eq_true rfl) dX11_put_26) (fun H locs hH => ?_)
        refine lv_if_eq (tgt := 55) hx hb dX11_put_29 (by decide) (fun c4 => ?_) (fun c4 => ?_)
        · replace h := if_t h c4
          refine lv_ldc hx hb hown (hts _ qK_X11_84) dX11_put_55 ?_
          exact r_iret C0 hH (pj1 h) (pj2 h) dX11_put_57
        · replace h := if_f h c4
          refine lv_iload_n hx hb dX11_put_32 rfl (lv_at hl 3 rfl) ?_
          refine go_i hH (va_run_S (As := [.int v3]) (rest := []) C0 hH lk_X11_163 (c_X11_isMeasure hAd v3  σ rfl) (by decide) rfl hl.1 rfl (Nat.le_of_ble_eq_true rfl) dX11_put_33) (fun H locs hH => ?_)
          refine lv_if_eq (tgt := 55) hx hb dX11_put_36 (by decide) (fun c5 => ?_) (fun c5 => ?_)
          · replace h := if_t h c5
            refine lv_ldc hx hb hown (hts _ qK_X11_84) dX11_put_55 ?_
            exact r_iret C0 hH (pj1 h) (pj2 h) dX11_put_57
          · replace h := if_f h c5
            refine lv_iload hx hb dX11_put_39 (lv_at hl 4 rfl) ?_
            refine go_i hH (va_run_S (As := [.int v4]) (rest := []) C0 hH lk_X11_163 (c_X11_isMeasure hAd v4  σ rfl) (by decide) rfl hl.1 rfl (Nat.le_of_ble_eq_true rfl) dX11_put_41) (fun H locs hH => ?_)
            refine lv_if_eq (tgt := 55) hx hb dX11_put_44 (by decide) (fun c6 => ?_) (fun c6 => ?_)
            · replace h := if_t h c6
              refine lv_ldc hx hb hown (hts _ qK_X11_84) dX11_put_55 ?_
              exact r_iret C0 hH (pj1 h) (pj2 h) dX11_put_57
            · replace h := if_f h c6
              refine lv_iload hx hb dX11_put_47 (lv_at hl 5 rfl) ?_
              refine go_i hH (va_run_S (As := [.int v5]) (rest := []) C0 hH lk_X11_163 (c_X11_isMeasure hAd v5  σ rfl) (by decide) rfl hl.1 rfl (Nat.le_of_ble_eq_true rfl) dX11_put_49) (fun H locs hH => ?_)
              refine lv_if_ne (tgt := 58) hx hb dX11_put_52 (by decide) (fun c7 => ?_) (fun c7 => ?_)
              · replace h := if_f h c7
                refine lv_aload_n hx hb dX11_put_58 rfl (lv_at hl 0 rfl) ?_
                refine gf_X11_33 C0 hH hk0 dX11_put_59 ?_
                refine gf_X11_146 C0 hH (kf_11_3 hk0) dX11_put_62 ?_
                refine lv_bipush (v := 10) hx hb dX11_put_65 (by decide) ?_
                refine lv_icmp_lt (tgt := 73) hx hb dX11_put_67 (by decide) (fun c8 => ?_) (fun c8 => ?_)
                · replace h := if_t h c8
                  refine lv_aload_n hx hb dX11_put_73 rfl (lv_at hl 0 rfl) ?_
                  obtain ⟨σ9, qσ9, h⟩ := ob_s h
                  refine go_v hH (va_run_V (As := []) (rest := []) C0 hH lk_X11_166 (c_X11_beginAct hAd k0 hk0 σ qσ9) (by decide) (ci := 11) hk0 (by decide) (cob_11 _ _ _) rfl rfl hl.1 rfl (Nat.le_of_ble_eq_true rfl) dX11_put_74) (fun H locs hH => ?_)
                  refine lv_aload_n hx hb dX11_put_77 rfl (lv_at hl 0 rfl) ?_
                  refine gf_X11_33 C0 hH hk0 dX11_put_78 ?_
                  refine lv_iload_n hx hb dX11_put_81 rfl (lv_at hl 1 rfl) ?_
                  refine lv_iload_n hx hb dX11_put_82 rfl (lv_at hl 2 rfl) ?_
                  refine lv_iload_n hx hb dX11_put_83 rfl (lv_at hl 3 rfl) ?_
                  refine lv_iload hx hb dX11_put_84 (lv_at hl 4 rfl) ?_
                  refine lv_iload hx hb dX11_put_86 (lv_at hl 5 rfl) ?_
                  obtain ⟨σ10, qσ10, h⟩ := ob_s h
                  refine go_v hH (va_run_V (As := [.int v1, .int v2, .int v3, .int v4, .int v5]) (rest := []) C0 hH lk_X11_169 (c_X2_insert hAd (k0 + 22) v1 v2 v3 v4 v5 (kf_11_3 hk0) σ9 qσ10) (by decide) (ci := 2) (kf_11_3 hk0) (by decide) (cob_2 _ _ _) rfl rfl hl.1 rfl (Nat.le_of_ble_eq_true rfl) dX11_put_88) (fun H locs hH => ?_)
                  refine lv_aload_n hx hb dX11_put_91 rfl (lv_at hl 0 rfl) ?_
                  refine gf_X11_33 C0 hH hk0 dX11_put_92 ?_
                  refine gf_X11_146 C0 hH (kf_11_3 hk0) dX11_put_95 ?_
                  exact r_iret C0 hH (pj1 h) (pj2 h) dX11_put_98
                · replace h := if_f h c8
                  refine lv_ldc hx hb hown (hts _ qK_X11_124) dX11_put_70 ?_
                  exact r_iret C0 hH (pj1 h) (pj2 h) dX11_put_72
              · replace h := if_t h c7
                refine lv_ldc hx hb hown (hts _ qK_X11_84) dX11_put_55 ?_
                exact r_iret C0 hH (pj1 h) (pj2 h) dX11_put_57
  · replace h := if_f h c1
    refine lv_ldc hx hb hown (hts _ qK_X11_152) dX11_put_7 ?_
    exact r_iret C0 hH (pj1 h) (pj2 h) dX11_put_9
theorem c_X11_put {l : Launch} {E : EnvT} (hAd : Ad E) (k0 : Nat) (v1 : Int32) (v2 : Int32) (v3 : Int32) (v4 : Int32) (v5 : Int32) (hk0 : kd k0 = 11) (σ : Mem) {r : Int32} {σ' : Mem} (h : X11_put k0 v1 v2 v3 v4 v5 σ = some (r, σ')) : Met l yX11_put (wsM yX11_put cX11_put 6 (some .int)) (rmD 4) (PcM E [.ref (ea E k0), .int v1, .int v2, .int v3, .int v4, .int v5] σ) (QiM E r σ') 0 0 (eA E) :=
  Met.ofM (by decide) (Nat.le_of_ble_eq_true rfl) (fun p e s m below meth c ls C0 hH hl => w_X11_put_b0 C0 k0 v1 v2 v3 v4 v5 hk0 hH hl h) hAd
set_option maxRecDepth 100000 in
set_option maxHeartbeats 4000000 in
theorem w_X11_isPage_b0 {r : Int32} (C0 : Cx E p m c cX11_isPage 2 s args RX11 meth (some .boolean))  (k0 : Nat) (v1 : Int32) (hk0 : kd k0 = 11) {σ : Mem} {H : Heap} {locs : List Loc} {ls : Array Slot} (hH : Hs E s σ H locs) (hl : lv_has ls 2 [(0, .ref (ea E k0)), (1, .int v1)]) (h : X11_isPage_b0 k0 v1 σ = r) : W p l e (rmD 0) s m args below meth c H locs 0 0 (MQ below (QiM E r σ) args s 0 0 (eA E)) (F0 m 0 ls []) := by
  obtain ⟨⟨hx, hb, hml, hown, hts⟩, hr, hlocks, hF, hAd⟩ := id C0
  unfold X11_isPage_b0 at h
  refine lv_iload_n hx hb dX11_isPage_0 rfl (lv_at hl 1 rfl) ?_
  refine lv_if_lt (tgt := 19) hx hb dX11_isPage_1 (by decide) (fun c1 => ?_) (fun c1 => ?_)
  · replace h := if_t h c1
    refine lv_iconst (v := 0) hx hb dX11_isPage_19 (by decide) ?_
    exact r_zret C0 rfl hH h rfl dX11_isPage_20
  · replace h := if_f h c1
    refine lv_iload_n hx hb dX11_isPage_4 rfl (lv_at hl 1 rfl) ?_
    refine lv_aload_n hx hb dX11_isPage_5 rfl (lv_at hl 0 rfl) ?_
    refine gf_X11_33 C0 hH hk0 dX11_isPage_6 ?_
    refine gf_X11_146 C0 hH (kf_11_3 hk0) dX11_isPage_9 ?_
    refine lv_icmp_ge (tgt := 19) hx hb dX11_isPage_12 (by decide) (fun c2 => ?_) (fun c2 => ?_)
    · replace h := if_t h c2
      refine lv_iconst (v := 0) hx hb dX11_isPage_19 (by decide) ?_
      exact r_zret C0 rfl hH h rfl dX11_isPage_20
    · replace h := if_f h c2
      refine lv_iconst (v := 1) hx hb dX11_isPage_15 (by decide) ?_
      refine lv_goto (tgt := 20) hx hb dX11_isPage_16 (by decide) ?_
      exact r_zret C0 rfl hH h rfl dX11_isPage_20
theorem c_X11_isPage {l : Launch} {E : EnvT} (hAd : Ad E) (k0 : Nat) (v1 : Int32) (hk0 : kd k0 = 11) (σ : Mem) {r : Int32} (h : X11_isPage k0 v1 σ = r) : Met l yX11_isPage (wsM yX11_isPage cX11_isPage 2 (some .boolean)) (rmD 0) (PcM E [.ref (ea E k0), .int v1] σ) (QiM E r σ) 0 0 (eA E) :=
  Met.ofM (by decide) (Nat.le_of_ble_eq_true rfl) (fun p e s m below meth c ls C0 hH hl => w_X11_isPage_b0 C0 k0 v1 hk0 hH hl h) hAd
set_option maxRecDepth 100000 in
set_option maxHeartbeats 4000000 in
theorem w_X11_take_b0 {r : Int32} {σ' : Mem} (C0 : Cx E p m c cX11_take 2 s args RX11 meth (some .int))  (k0 : Nat) (v1 : Int32) (hk0 : kd k0 = 11) {σ : Mem} {H : Heap} {locs : List Loc} {ls : Array Slot} (hH : Hs E s σ H locs) (hl : lv_has ls 2 [(0, .ref (ea E k0)), (1, .int v1)]) (h : X11_take_b0 k0 v1 σ = some (r, σ')) : W p l e (rmD 4) s m args below meth c H locs 0 0 (MQ below (QiM E r σ') args s 0 0 (eA E)) (F0 m 0 ls []) := by
  obtain ⟨⟨hx, hb, hml, hown, hts⟩, hr, hlocks, hF, hAd⟩ := id C0
  unfold X11_take_b0 at h
  refine lv_aload_n hx hb dX11_take_0 rfl (lv_at hl 0 rfl) ?_
  refine lv_iload_n hx hb dX11_take_1 rfl (lv_at hl 1 rfl) ?_
  refine go_i hH (va_run_V (As := [.int v1]) (rest := []) C0 hH lk_X11_173 (c_X11_isPage hAd k0 v1 hk0 σ rfl) (by decide) (ci := 11) hk0 (by decide) (cob_11 _ _ _) rfl rfl hl.1 rfl (Nat.le_of_ble_eq_true rfl) dX11_take_2) (fun H locs hH => ?_)
  refine lv_if_ne (tgt := 11) hx hb dX11_take_5 (by decide) (fun c1 => ?_) (fun c1 => ?_)
  · replace h := if_f h c1
    refine lv_aload_n hx hb dX11_take_11 rfl (lv_at hl 0 rfl) ?_
    refine gf_X11_33 C0 hH hk0 dX11_take_12 ?_
    refine gf_X11_146 C0 hH (kf_11_3 hk0) dX11_take_15 ?_
    refine lv_iconst (v := 1) hx hb dX11_take_18 (by decide) ?_
    refine lv_icmp_ne (tgt := 25) hx hb dX11_take_19 (by decide) (fun c2 => ?_) (fun c2 => ?_)
    · replace h := if_f h c2
      refine lv_aload_n hx hb dX11_take_25 rfl (lv_at hl 0 rfl) ?_
      obtain ⟨σ3, qσ3, h⟩ := ob_s h
      refine go_v hH (va_run_V (As := []) (rest := []) C0 hH lk_X11_166 (c_X11_beginAct hAd k0 hk0 σ qσ3) (by decide) (ci := 11) hk0 (by decide) (cob_11 _ _ _) rfl rfl hl.1 rfl (Nat.le_of_ble_eq_true rfl) dX11_take_26) (fun H locs hH => ?_)
      refine lv_aload_n hx hb dX11_take_29 rfl (lv_at hl 0 rfl) ?_
      refine gf_X11_33 C0 hH hk0 dX11_take_30 ?_
      refine lv_iload_n hx hb dX11_take_33 rfl (lv_at hl 1 rfl) ?_
      obtain ⟨σ4, qσ4, h⟩ := ob_s h
      refine go_v hH (va_run_V (As := [.int v1]) (rest := []) C0 hH lk_X11_176 (c_X2_cut hAd (k0 + 22) v1 (kf_11_3 hk0) σ3 qσ4) (by decide) (ci := 2) (kf_11_3 hk0) (by decide) (cob_2 _ _ _) rfl rfl hl.1 rfl (Nat.le_of_ble_eq_true rfl) dX11_take_34) (fun H locs hH => ?_)
      refine lv_aload_n hx hb dX11_take_37 rfl (lv_at hl 0 rfl) ?_
      refine gf_X11_33 C0 hH hk0 dX11_take_38 ?_
      refine gf_X11_146 C0 hH (kf_11_3 hk0) dX11_take_41 ?_
      exact r_iret C0 hH (pj1 h) (pj2 h) dX11_take_44
    · replace h := if_t h c2
      refine lv_ldc hx hb hown (hts _ qK_X11_152) dX11_take_22 ?_
      exact r_iret C0 hH (pj1 h) (pj2 h) dX11_take_24
  · replace h := if_t h c1
    refine lv_ldc hx hb hown (hts _ qK_X11_84) dX11_take_8 ?_
    exact r_iret C0 hH (pj1 h) (pj2 h) dX11_take_10
theorem c_X11_take {l : Launch} {E : EnvT} (hAd : Ad E) (k0 : Nat) (v1 : Int32) (hk0 : kd k0 = 11) (σ : Mem) {r : Int32} {σ' : Mem} (h : X11_take k0 v1 σ = some (r, σ')) : Met l yX11_take (wsM yX11_take cX11_take 2 (some .int)) (rmD 4) (PcM E [.ref (ea E k0), .int v1] σ) (QiM E r σ') 0 0 (eA E) :=
  Met.ofM (by decide) (Nat.le_of_ble_eq_true rfl) (fun p e s m below meth c ls C0 hH hl => w_X11_take_b0 C0 k0 v1 hk0 hH hl h) hAd
set_option maxRecDepth 100000 in
set_option maxHeartbeats 4000000 in
theorem w_X11_move_b0 {r : Int32} {σ' : Mem} (C0 : Cx E p m c cX11_move 3 s args RX11 meth (some .int))  (k0 : Nat) (v1 : Int32) (v2 : Int32) (hk0 : kd k0 = 11) {σ : Mem} {H : Heap} {locs : List Loc} {ls : Array Slot} (hH : Hs E s σ H locs) (hl : lv_has ls 3 [(0, .ref (ea E k0)), (1, .int v1), (2, .int v2)]) (h : X11_move_b0 k0 v1 v2 σ = some (r, σ')) : W p l e (rmD 4) s m args below meth c H locs 0 0 (MQ below (QiM E r σ') args s 0 0 (eA E)) (F0 m 0 ls []) := by
  obtain ⟨⟨hx, hb, hml, hown, hts⟩, hr, hlocks, hF, hAd⟩ := id C0
  unfold X11_move_b0 at h
  refine lv_aload_n hx hb dX11_move_0 rfl (lv_at hl 0 rfl) ?_
  refine lv_iload_n hx hb dX11_move_1 rfl (lv_at hl 1 rfl) ?_
  refine go_i hH (va_run_V (As := [.int v1]) (rest := []) C0 hH lk_X11_173 (c_X11_isPage hAd k0 v1 hk0 σ rfl) (by decide) (ci := 11) hk0 (by decide) (cob_11 _ _ _) rfl rfl hl.1 rfl (Nat.le_of_ble_eq_true rfl) dX11_move_2) (fun H locs hH => ?_)
  refine lv_if_eq (tgt := 16) hx hb dX11_move_5 (by decide) (fun c1 => ?_) (fun c1 => ?_)
  · replace h := if_t h c1
    refine lv_ldc hx hb hown (hts _ qK_X11_84) dX11_move_16 ?_
    exact r_iret C0 hH (pj1 h) (pj2 h) dX11_move_18
  · replace h := if_f h c1
    refine lv_aload_n hx hb dX11_move_8 rfl (lv_at hl 0 rfl) ?_
    refine lv_iload_n hx hb dX11_move_9 rfl (lv_at hl 2 rfl) ?_
    refine go_i hH (va_run_V (As := [.int v2]) (rest := []) C0 hH lk_X11_173 (c_X11_isPage hAd k0 v2 hk0 σ rfl) (by decide) (ci := 11) hk0 (by decide) (cob_11 _ _ _) rfl rfl hl.1 rfl (Nat.le_of_ble_eq_true rfl) dX11_move_10) (fun H locs hH => ?_)
    refine lv_if_ne (tgt := 19) hx hb dX11_move_13 (by decide) (fun c2 => ?_) (fun c2 => ?_)
    · replace h := if_f h c2
      refine lv_iload_n hx hb dX11_move_19 rfl (lv_at hl 1 rfl) ?_
      refine lv_iload_n hx hb dX11_move_20 rfl (lv_at hl 2 rfl) ?_
      refine lv_icmp_ne (tgt := 27) hx hb dX11_move_21 (by decide) (fun c3 => ?_) (fun c3 => ?_)
      · replace h := if_f h c3
        refine lv_aload_n hx hb dX11_move_27 rfl (lv_at hl 0 rfl) ?_
        obtain ⟨σ4, qσ4, h⟩ := ob_s h
        refine go_v hH (va_run_V (As := []) (rest := []) C0 hH lk_X11_166 (c_X11_beginAct hAd k0 hk0 σ qσ4) (by decide) (ci := 11) hk0 (by decide) (cob_11 _ _ _) rfl rfl hl.1 rfl (Nat.le_of_ble_eq_true rfl) dX11_move_28) (fun H locs hH => ?_)
        refine lv_aload_n hx hb dX11_move_31 rfl (lv_at hl 0 rfl) ?_
        refine gf_X11_33 C0 hH hk0 dX11_move_32 ?_
        refine lv_iload_n hx hb dX11_move_35 rfl (lv_at hl 1 rfl) ?_
        refine lv_iload_n hx hb dX11_move_36 rfl (lv_at hl 2 rfl) ?_
        obtain ⟨σ5, qσ5, h⟩ := ob_s h
        refine go_v hH (va_run_V (As := [.int v1, .int v2]) (rest := []) C0 hH lk_X11_180 (c_X2_carry hAd (k0 + 22) v1 v2 (kf_11_3 hk0) σ4 qσ5) (by decide) (ci := 2) (kf_11_3 hk0) (by decide) (cob_2 _ _ _) rfl rfl hl.1 rfl (Nat.le_of_ble_eq_true rfl) dX11_move_37) (fun H locs hH => ?_)
        refine lv_aload_n hx hb dX11_move_40 rfl (lv_at hl 0 rfl) ?_
        refine gf_X11_33 C0 hH hk0 dX11_move_41 ?_
        refine gf_X11_184 C0 hH (kf_11_3 hk0) dX11_move_44 ?_
        refine lv_iload_n hx hb dX11_move_47 rfl (lv_at hl 2 rfl) ?_
        obtain ⟨b6, h⟩ := gdx_s h
        refine r_iald C0 hH (n := 10) (kf_2_3 (kf_11_3 hk0)) b6 dX11_move_48 ?_
        exact r_iret C0 hH (pj1 h) (pj2 h) dX11_move_49
      · replace h := if_t h c3
        refine lv_ldc hx hb hown (hts _ qK_X11_152) dX11_move_24 ?_
        exact r_iret C0 hH (pj1 h) (pj2 h) dX11_move_26
    · replace h := if_t h c2
      refine lv_ldc hx hb hown (hts _ qK_X11_84) dX11_move_16 ?_
      exact r_iret C0 hH (pj1 h) (pj2 h) dX11_move_18
theorem c_X11_move {l : Launch} {E : EnvT} (hAd : Ad E) (k0 : Nat) (v1 : Int32) (v2 : Int32) (hk0 : kd k0 = 11) (σ : Mem) {r : Int32} {σ' : Mem} (h : X11_move k0 v1 v2 σ = some (r, σ')) : Met l yX11_move (wsM yX11_move cX11_move 3 (some .int)) (rmD 4) (PcM E [.ref (ea E k0), .int v1, .int v2] σ) (QiM E r σ') 0 0 (eA E) :=
  Met.ofM (by decide) (Nat.le_of_ble_eq_true rfl) (fun p e s m below meth c ls C0 hH hl => w_X11_move_b0 C0 k0 v1 v2 hk0 hH hl h) hAd
set_option maxRecDepth 100000 in
set_option maxHeartbeats 4000000 in
theorem w_X11_measure_b0 {r : Int32} {σ' : Mem} (C0 : Cx E p m c cX11_measure 5 s args RX11 meth (some .int))  (k0 : Nat) (v1 : Int32) (v2 : Int32) (v3 : Int32) (hk0 : kd k0 = 11) {σ : Mem} {H : Heap} {locs : List Loc} {ls : Array Slot} (hH : Hs E s σ H locs) (hl : lv_has ls 5 [(0, .ref (ea E k0)), (1, .int v1), (2, .int v2), (3, .int v3)]) (h : X11_measure_b0 k0 v1 v2 v3 σ = some (r, σ')) : W p l e (rmD 4) s m args below meth c H locs 0 0 (MQ below (QiM E r σ') args s 0 0 (eA E)) (F0 m 0 ls []) := by
  obtain ⟨⟨hx, hb, hml, hown, hts⟩, hr, hlocks, hF, hAd⟩ := id C0
  unfold X11_measure_b0 at h
  refine lv_aload_n hx hb dX11_measure_0 rfl (lv_at hl 0 rfl) ?_
  refine lv_iload_n hx hb dX11_measure_1 rfl (lv_at hl 1 rfl) ?_
  refine go_i hH (va_run_V (As := [.int v1]) (rest := []) C0 hH lk_X11_173 (c_X11_isPage hAd k0 v1 hk0 σ rfl) (by decide) (ci := 11) hk0 (by decide) (cob_11 _ _ _) rfl rfl hl.1 rfl (Nat.le_of_ble_eq_true rfl) dX11_measure_2) (fun H locs hH => ?_)
  refine lv_if_eq (tgt := 24) hx hb dX11_measure_5 (by decide) (fun c1 => ?_) (fun c1 => ?_)
  · replace h := if_t h c1
    refine lv_ldc hx hb hown (hts _ qK_X11_84) dX11_measure_24 ?_
    exact r_iret C0 hH (pj1 h) (pj2 h) dX11_measure_26
  · replace h := if_f h c1
    refine lv_iload_n hx hb dX11_measure_8 rfl (lv_at hl 2 rfl) ?_
    refine lv_if_lt (tgt := 24) hx hb dX11_measure_9 (by decide) (fun c2 => ?_) (fun c2 => ?_)
    · replace h := if_t h c2
      refine lv_ldc hx hb hown (hts _ qK_X11_84) dX11_measure_24 ?_
      exact r_iret C0 hH (pj1 h) (pj2 h) dX11_measure_26
    · replace h := if_f h c2
      refine lv_iload_n hx hb dX11_measure_12 rfl (lv_at hl 2 rfl) ?_
      refine lv_iconst (v := 2) hx hb dX11_measure_13 (by decide) ?_
      refine lv_icmp_gt (tgt := 24) hx hb dX11_measure_14 (by decide) (fun c3 => ?_) (fun c3 => ?_)
      · replace h := if_t h c3
        refine lv_ldc hx hb hown (hts _ qK_X11_84) dX11_measure_24 ?_
        exact r_iret C0 hH (pj1 h) (pj2 h) dX11_measure_26
      · replace h := if_f h c3
        refine lv_iload_n hx hb dX11_measure_17 rfl (lv_at hl 3 rfl) ?_
        refine go_i hH (va_run_S (As := [.int v3]) (rest := []) C0 hH lk_X11_163 (c_X11_isMeasure hAd v3  σ rfl) (by decide) rfl hl.1 rfl (Nat.le_of_ble_eq_true rfl) dX11_measure_18) (fun H locs hH => ?_)
        refine lv_if_ne (tgt := 27) hx hb dX11_measure_21 (by decide) (fun c4 => ?_) (fun c4 => ?_)
        · replace h := if_f h c4
          refine lv_aload_n hx hb dX11_measure_27 rfl (lv_at hl 0 rfl) ?_
          obtain ⟨σ5, qσ5, h⟩ := ob_s h
          refine go_v hH (va_run_V (As := []) (rest := []) C0 hH lk_X11_166 (c_X11_beginAct hAd k0 hk0 σ qσ5) (by decide) (ci := 11) hk0 (by decide) (cob_11 _ _ _) rfl rfl hl.1 rfl (Nat.le_of_ble_eq_true rfl) dX11_measure_28) (fun H locs hH => ?_)
          refine lv_aload_n hx hb dX11_measure_31 rfl (lv_at hl 0 rfl) ?_
          refine gf_X11_33 C0 hH hk0 dX11_measure_32 ?_
          refine gf_X11_187 C0 hH (kf_11_3 hk0) dX11_measure_35 ?_
          refine lv_iload_n hx hb dX11_measure_38 rfl (lv_at hl 2 rfl) ?_
          obtain ⟨b6, h⟩ := gdx_s h
          refine ra_13 C0 hH (kf_2_4 (kf_11_3 hk0)) b6 dX11_measure_39 ?_
          refine lv_iload_n hx hb dX11_measure_40 rfl (lv_at hl 1 rfl) ?_
          obtain ⟨b7, h⟩ := gdx_s h
          refine r_iald C0 hH (n := 10) (ka_13 (kf_2_4 (kf_11_3 hk0)) b6) b7 dX11_measure_41 ?_
          obtain ⟨x8, ex8, h⟩ := letv_s h
          refine topi_of ex8 ?_
          refine lv_istore (lv' := [(4, .int x8), (0, .ref (ea E k0)), (1, .int v1), (2, .int v2), (3, .int v3)]) hx hb dX11_measure_42 hl (by decide) rfl (fun ls hl => ?_)
          refine lv_aload_n hx hb dX11_measure_44 rfl (lv_at hl 1 rfl) ?_
          refine gf_X11_33 C0 hH hk0 dX11_measure_45 ?_
          refine gf_X11_187 C0 hH (kf_11_3 hk0) dX11_measure_48 ?_
          refine lv_iload_n hx hb dX11_measure_51 rfl (lv_at hl 3 rfl) ?_
          obtain ⟨b9, h⟩ := gdx_s h
          refine ra_13 C0 hH (kf_2_4 (kf_11_3 hk0)) b9 dX11_measure_52 ?_
          refine lv_iload_n hx hb dX11_measure_53 rfl (lv_at hl 2 rfl) ?_
          refine lv_iload_n hx hb dX11_measure_54 rfl (lv_at hl 4 rfl) ?_
          obtain ⟨b10, h⟩ := gdx_s h
          refine r_iast C0 hH (n := 10) (ka_13 (kf_2_4 (kf_11_3 hk0)) b9) b10 dX11_measure_55 (fun H locs hH => ?_)
          refine lv_iload hx hb dX11_measure_56 (lv_at hl 0 rfl) ?_
          exact r_iret C0 hH (pj1 h) (pj2 h) dX11_measure_58
        · replace h := if_t h c4
          refine lv_ldc hx hb hown (hts _ qK_X11_84) dX11_measure_24 ?_
          exact r_iret C0 hH (pj1 h) (pj2 h) dX11_measure_26
theorem c_X11_measure {l : Launch} {E : EnvT} (hAd : Ad E) (k0 : Nat) (v1 : Int32) (v2 : Int32) (v3 : Int32) (hk0 : kd k0 = 11) (σ : Mem) {r : Int32} {σ' : Mem} (h : X11_measure k0 v1 v2 v3 σ = some (r, σ')) : Met l yX11_measure (wsM yX11_measure cX11_measure 5 (some .int)) (rmD 4) (PcM E [.ref (ea E k0), .int v1, .int v2, .int v3] σ) (QiM E r σ') 0 0 (eA E) :=
  Met.ofM (by decide) (Nat.le_of_ble_eq_true rfl) (fun p e s m below meth c ls C0 hH hl => w_X11_measure_b0 C0 k0 v1 v2 v3 hk0 hH hl h) hAd
set_option maxRecDepth 100000 in
set_option maxHeartbeats 4000000 in
theorem w_X11_become_b0 {r : Int32} {σ' : Mem} (C0 : Cx E p m c cX11_become 4 s args RX11 meth (some .int))  (k0 : Nat) (v1 : Int32) (v2 : Int32) (hk0 : kd k0 = 11) {σ : Mem} {H : Heap} {locs : List Loc} {ls : Array Slot} (hH : Hs E s σ H locs) (hl : lv_has ls 4 [(0, .ref (ea E k0)), (1, .int v1), (2, .int v2)]) (h : X11_become_b0 k0 v1 v2 σ = some (r, σ')) : W p l e (rmD 4) s m args below meth c H locs 0 0 (MQ below (QiM E r σ') args s 0 0 (eA E)) (F0 m 0 ls []) := by
  obtain ⟨⟨hx, hb, hml, hown, hts⟩, hr, hlocks, hF, hAd⟩ := id C0
  unfold X11_become_b0 at h
  refine lv_aload_n hx hb dX11_become_0 rfl (lv_at hl 0 rfl) ?_
  refine lv_iload_n hx hb dX11_become_1 rfl (lv_at hl 1 rfl) ?_
  refine go_i hH (va_run_V (As := [.int v1]) (rest := []) C0 hH lk_X11_173 (c_X11_isPage hAd k0 v1 hk0 σ rfl) (by decide) (ci := 11) hk0 (by decide) (cob_11 _ _ _) rfl rfl hl.1 rfl (Nat.le_of_ble_eq_true rfl) dX11_become_2) (fun H locs hH => ?_)
  refine lv_if_eq (tgt := 15) hx hb dX11_become_5 (by decide) (fun c1 => ?_) (fun c1 => ?_)
  · replace h := if_t h c1
    refine lv_ldc hx hb hown (hts _ qK_X11_84) dX11_become_15 ?_
    exact r_iret C0 hH (pj1 h) (pj2 h) dX11_become_17
  · replace h := if_f h c1
    refine lv_iload_n hx hb dX11_become_8 rfl (lv_at hl 2 rfl) ?_
    refine go_i hH (va_run_S (As := [.int v2]) (rest := []) C0 hH lk_X11_160 (c_X11_isKindOfPage hAd v2  σ rfl) (by decide) rfl hl.1 rfl (Nat.le_of_ble_eq_true rfl) dX11_become_9) (fun H locs hH => ?_)
    refine lv_if_ne (tgt := 18) hx hb dX11_become_12 (by decide) (fun c2 => ?_) (fun c2 => ?_)
    · replace h := if_f h c2
      refine lv_aload_n hx hb dX11_become_18 rfl (lv_at hl 0 rfl) ?_
      refine gf_X11_33 C0 hH hk0 dX11_become_19 ?_
      refine gf_X11_184 C0 hH (kf_11_3 hk0) dX11_become_22 ?_
      refine lv_iload_n hx hb dX11_become_25 rfl (lv_at hl 1 rfl) ?_
      obtain ⟨b3, h⟩ := gdx_s h
      refine r_iald C0 hH (n := 10) (kf_2_3 (kf_11_3 hk0)) b3 dX11_become_26 ?_
      obtain ⟨x4, ex4, h⟩ := letv_s h
      refine topi_of ex4 ?_
      refine lv_istore_n (lv' := [(3, .int x4), (0, .ref (ea E k0)), (1, .int v1), (2, .int v2)]) hx hb dX11_become_27 rfl hl (by decide) rfl (fun ls hl => ?_)
      refine lv_iload_n hx hb dX11_become_28 rfl (lv_at hl 0 rfl) ?_
      refine lv_iload_n hx hb dX11_become_29 rfl (lv_at hl 3 rfl) ?_
      refine lv_icmp_ne (tgt := 36) hx hb dX11_become_30 (by decide) (fun c5 => ?_) (fun c5 => ?_)
      · replace h := if_f h c5
        refine lv_aload_n hx hb dX11_become_36 rfl (lv_at hl 1 rfl) ?_
        obtain ⟨σ6, qσ6, h⟩ := ob_s h
        refine go_v hH (va_run_V (As := []) (rest := []) C0 hH lk_X11_166 (c_X11_beginAct hAd k0 hk0 σ qσ6) (by decide) (ci := 11) hk0 (by decide) (cob_11 _ _ _) rfl rfl hl.1 rfl (Nat.le_of_ble_eq_true rfl) dX11_become_37) (fun H locs hH => ?_)
        refine lv_aload_n hx hb dX11_become_40 rfl (lv_at hl 1 rfl) ?_
        refine gf_X11_33 C0 hH hk0 dX11_become_41 ?_
        refine gf_X11_184 C0 hH (kf_11_3 hk0) dX11_become_44 ?_
        refine lv_iload_n hx hb dX11_become_47 rfl (lv_at hl 2 rfl) ?_
        refine lv_iload_n hx hb dX11_become_48 rfl (lv_at hl 3 rfl) ?_
        obtain ⟨b7, h⟩ := gdx_s h
        refine r_iast C0 hH (n := 10) (kf_2_3 (kf_11_3 hk0)) b7 dX11_become_49 (fun H locs hH => ?_)
        refine lv_iload_n hx hb dX11_become_50 rfl (lv_at hl 0 rfl) ?_
        exact r_iret C0 hH (pj1 h) (pj2 h) dX11_become_51
      · replace h := if_t h c5
        refine lv_ldc hx hb hown (hts _ qK_X11_152) dX11_become_33 ?_
        exact r_iret C0 hH (pj1 h) (pj2 h) dX11_become_35
    · replace h := if_t h c2
      refine lv_ldc hx hb hown (hts _ qK_X11_84) dX11_become_15 ?_
      exact r_iret C0 hH (pj1 h) (pj2 h) dX11_become_17
theorem c_X11_become {l : Launch} {E : EnvT} (hAd : Ad E) (k0 : Nat) (v1 : Int32) (v2 : Int32) (hk0 : kd k0 = 11) (σ : Mem) {r : Int32} {σ' : Mem} (h : X11_become k0 v1 v2 σ = some (r, σ')) : Met l yX11_become (wsM yX11_become cX11_become 4 (some .int)) (rmD 4) (PcM E [.ref (ea E k0), .int v1, .int v2] σ) (QiM E r σ') 0 0 (eA E) :=
  Met.ofM (by decide) (Nat.le_of_ble_eq_true rfl) (fun p e s m below meth c ls C0 hH hl => w_X11_become_b0 C0 k0 v1 v2 hk0 hH hl h) hAd
set_option maxRecDepth 100000 in
set_option maxHeartbeats 4000000 in
theorem w_X11_law_b66 {r : Int32} {σ' : Mem} (C0 : Cx E p m c cX11_law 4 s args RX11 meth (some .int))  (k0 : Nat) (v1 : Int32) (v2 : Int32) (s0 : Int32) (hk0 : kd k0 = 11) {σ : Mem} {H : Heap} {locs : List Loc} {ls : Array Slot} (hH : Hs E s σ H locs) (hl : lv_has ls 4 [(0, .ref (ea E k0)), (1, .int v1), (2, .int v2)]) (h : X11_law_b66 k0 v1 v2 s0 σ = some (r, σ')) : W p l e (rmD 4) s m args below meth c H locs 0 0 (MQ below (QiM E r σ') args s 0 0 (eA E)) (F0 m 66 ls [.int s0]) := by
  obtain ⟨⟨hx, hb, hml, hown, hts⟩, hr, hlocks, hF, hAd⟩ := id C0
  unfold X11_law_b66 at h
  refine lv_istore_n (lv' := [(3, .int s0), (0, .ref (ea E k0)), (1, .int v1), (2, .int v2)]) hx hb dX11_law_66 rfl hl (by decide) rfl (fun ls hl => ?_)
  refine lv_iload_n hx hb dX11_law_67 rfl (lv_at hl 2 rfl) ?_
  refine lv_if_ne (tgt := 82) hx hb dX11_law_68 (by decide) (fun c1 => ?_) (fun c1 => ?_)
  · replace h := if_f h c1
    refine lv_aload_n hx hb dX11_law_82 rfl (lv_at hl 1 rfl) ?_
    refine gf_X11_33 C0 hH hk0 dX11_law_83 ?_
    refine lv_iload_n hx hb dX11_law_86 rfl (lv_at hl 3 rfl) ?_
    refine pf_X11_193 C0 hH (kf_11_3 hk0) dX11_law_87 (fun H locs hH => ?_)
    refine lv_iload_n hx hb dX11_law_90 rfl (lv_at hl 0 rfl) ?_
    exact r_iret C0 hH (pj1 h) (pj2 h) dX11_law_91
  · replace h := if_t h c1
    refine lv_aload_n hx hb dX11_law_71 rfl (lv_at hl 1 rfl) ?_
    refine gf_X11_33 C0 hH hk0 dX11_law_72 ?_
    refine lv_iload_n hx hb dX11_law_75 rfl (lv_at hl 3 rfl) ?_
    refine pf_X11_190 C0 hH (kf_11_3 hk0) dX11_law_76 (fun H locs hH => ?_)
    refine lv_goto (tgt := 90) hx hb dX11_law_79 (by decide) ?_
    refine lv_iload_n hx hb dX11_law_90 rfl (lv_at hl 0 rfl) ?_
    exact r_iret C0 hH (pj1 h) (pj2 h) dX11_law_91
set_option maxRecDepth 100000 in
set_option maxHeartbeats 4000000 in
theorem w_X11_law_b35 {r : Int32} {σ' : Mem} (C0 : Cx E p m c cX11_law 4 s args RX11 meth (some .int))  (k0 : Nat) (v1 : Int32) (v2 : Int32) (s0 : Int32) (s1 : Int32) (hk0 : kd k0 = 11) {σ : Mem} {H : Heap} {locs : List Loc} {ls : Array Slot} (hH : Hs E s σ H locs) (hl : lv_has ls 4 [(0, .ref (ea E k0)), (1, .int v1), (2, .int v2)]) (h : X11_law_b35 k0 v1 v2 s0 s1 σ = some (r, σ')) : W p l e (rmD 4) s m args below meth c H locs 0 0 (MQ below (QiM E r σ') args s 0 0 (eA E)) (F0 m 35 ls [.int s1, .int s0]) := by
  obtain ⟨⟨hx, hb, hml, hown, hts⟩, hr, hlocks, hF, hAd⟩ := id C0
  unfold X11_law_b35 at h
  refine lv_icmp_le (tgt := 41) hx hb dX11_law_35 (by decide) (fun c1 => ?_) (fun c1 => ?_)
  · replace h := if_t h c1
    refine lv_aload_n hx hb dX11_law_41 rfl (lv_at hl 0 rfl) ?_
    obtain ⟨σ2, qσ2, h⟩ := ob_s h
    refine go_v hH (va_run_V (As := []) (rest := []) C0 hH lk_X11_166 (c_X11_beginAct hAd k0 hk0 σ qσ2) (by decide) (ci := 11) hk0 (by decide) (cob_11 _ _ _) rfl rfl hl.1 rfl (Nat.le_of_ble_eq_true rfl) dX11_law_42) (fun H locs hH => ?_)
    refine lv_iload_n hx hb dX11_law_45 rfl (lv_at hl 1 rfl) ?_
    refine lv_if_ne (tgt := 59) hx hb dX11_law_46 (by decide) (fun c3 => ?_) (fun c3 => ?_)
    · replace h := if_f h c3
      refine lv_aload_n hx hb dX11_law_59 rfl (lv_at hl 0 rfl) ?_
      refine gf_X11_33 C0 hH hk0 dX11_law_60 ?_
      refine gf_X11_193 C0 hH (kf_11_3 hk0) dX11_law_63 ?_
      exact w_X11_law_b66 C0  k0 v1 v2 (σ2 (k0 + 22) 2) hk0 hH (lv_sub hl [0, 1, 2] rfl) h
    · replace h := if_t h c3
      refine lv_aload_n hx hb dX11_law_49 rfl (lv_at hl 0 rfl) ?_
      refine gf_X11_33 C0 hH hk0 dX11_law_50 ?_
      refine gf_X11_190 C0 hH (kf_11_3 hk0) dX11_law_53 ?_
      refine lv_goto (tgt := 66) hx hb dX11_law_56 (by decide) ?_
      exact w_X11_law_b66 C0  k0 v1 v2 (σ2 (k0 + 22) 1) hk0 hH (lv_sub hl [0, 1, 2] rfl) h
  · replace h := if_f h c1
    refine lv_ldc hx hb hown (hts _ qK_X11_84) dX11_law_38 ?_
    exact r_iret C0 hH (pj1 h) (pj2 h) dX11_law_40
set_option maxRecDepth 100000 in
set_option maxHeartbeats 4000000 in
theorem w_X11_law_b0 {r : Int32} {σ' : Mem} (C0 : Cx E p m c cX11_law 4 s args RX11 meth (some .int))  (k0 : Nat) (v1 : Int32) (v2 : Int32) (hk0 : kd k0 = 11) {σ : Mem} {H : Heap} {locs : List Loc} {ls : Array Slot} (hH : Hs E s σ H locs) (hl : lv_has ls 4 [(0, .ref (ea E k0)), (1, .int v1), (2, .int v2)]) (h : X11_law_b0 k0 v1 v2 σ = some (r, σ')) : W p l e (rmD 4) s m args below meth c H locs 0 0 (MQ below (QiM E r σ') args s 0 0 (eA E)) (F0 m 0 ls []) := by
  obtain ⟨⟨hx, hb, hml, hown, hts⟩, hr, hlocks, hF, hAd⟩ := id C0
  unfold X11_law_b0 at h
  refine lv_aload_n hx hb dX11_law_0 rfl (lv_at hl 0 rfl) ?_
  refine go_i hH (va_run_V (As := []) (rest := []) C0 hH lk_X11_156 (c_X11_isWithoutBook hAd k0 hk0 σ rfl) (by decide) (ci := 11) hk0 (by decide) (cob_11 _ _ _) rfl rfl hl.1 rfl (Nat.le_of_ble_eq_true rfl) dX11_law_1) (fun H locs hH => ?_)
  refine lv_if_eq (tgt := 10) hx hb dX11_law_4 (by decide) (fun c1 => ?_) (fun c1 => ?_)
  · replace h := if_t h c1
    refine lv_iload_n hx hb dX11_law_10 rfl (lv_at hl 1 rfl) ?_
    refine lv_if_lt (tgt := 38) hx hb dX11_law_11 (by decide) (fun c2 => ?_) (fun c2 => ?_)
    · replace h := if_t h c2
      refine lv_ldc hx hb hown (hts _ qK_X11_84) dX11_law_38 ?_
      exact r_iret C0 hH (pj1 h) (pj2 h) dX11_law_40
    · replace h := if_f h c2
      refine lv_iload_n hx hb dX11_law_14 rfl (lv_at hl 1 rfl) ?_
      refine lv_iconst (v := 1) hx hb dX11_law_15 (by decide) ?_
      refine lv_icmp_gt (tgt := 38) hx hb dX11_law_16 (by decide) (fun c3 => ?_) (fun c3 => ?_)
      · replace h := if_t h c3
        refine lv_ldc hx hb hown (hts _ qK_X11_84) dX11_law_38 ?_
        exact r_iret C0 hH (pj1 h) (pj2 h) dX11_law_40
      · replace h := if_f h c3
        refine lv_iload_n hx hb dX11_law_19 rfl (lv_at hl 2 rfl) ?_
        refine lv_if_lt (tgt := 38) hx hb dX11_law_20 (by decide) (fun c4 => ?_) (fun c4 => ?_)
        · replace h := if_t h c4
          refine lv_ldc hx hb hown (hts _ qK_X11_84) dX11_law_38 ?_
          exact r_iret C0 hH (pj1 h) (pj2 h) dX11_law_40
        · replace h := if_f h c4
          refine lv_iload_n hx hb dX11_law_23 rfl (lv_at hl 2 rfl) ?_
          refine lv_iload_n hx hb dX11_law_24 rfl (lv_at hl 1 rfl) ?_
          refine lv_if_ne (tgt := 33) hx hb dX11_law_25 (by decide) (fun c5 => ?_) (fun c5 => ?_)
          · replace h := if_f h c5
            refine lv_bipush (v := 20) hx hb dX11_law_33 (by decide) ?_
            exact w_X11_law_b35 C0  k0 v1 v2 v2 20 hk0 hH (lv_sub hl [0, 1, 2] rfl) h
          · replace h := if_t h c5
            refine lv_bipush (v := 60) hx hb dX11_law_28 (by decide) ?_
            refine lv_goto (tgt := 35) hx hb dX11_law_30 (by decide) ?_
            exact w_X11_law_b35 C0  k0 v1 v2 v2 60 hk0 hH (lv_sub hl [0, 1, 2] rfl) h
  · replace h := if_f h c1
    refine lv_ldc hx hb hown (hts _ qK_X11_152) dX11_law_7 ?_
    exact r_iret C0 hH (pj1 h) (pj2 h) dX11_law_9
theorem c_X11_law {l : Launch} {E : EnvT} (hAd : Ad E) (k0 : Nat) (v1 : Int32) (v2 : Int32) (hk0 : kd k0 = 11) (σ : Mem) {r : Int32} {σ' : Mem} (h : X11_law k0 v1 v2 σ = some (r, σ')) : Met l yX11_law (wsM yX11_law cX11_law 4 (some .int)) (rmD 4) (PcM E [.ref (ea E k0), .int v1, .int v2] σ) (QiM E r σ') 0 0 (eA E) :=
  Met.ofM (by decide) (Nat.le_of_ble_eq_true rfl) (fun p e s m below meth c ls C0 hH hl => w_X11_law_b0 C0 k0 v1 v2 hk0 hH hl h) hAd
set_option maxRecDepth 100000 in
set_option maxHeartbeats 4000000 in
theorem w_X11_look_b0 {σ' : Mem} (C0 : Cx E p m c cX11_look 1 s args RX11 meth (none))  (k0 : Nat) (hk0 : kd k0 = 11) {σ : Mem} {H : Heap} {locs : List Loc} {ls : Array Slot} (hH : Hs E s σ H locs) (hl : lv_has ls 1 [(0, .ref (ea E k0))]) (h : X11_look_b0 k0 σ = some σ') : W p l e (rmD 18) s m args below meth c H locs 0 0 (MQ below (QvM E σ') args s 0 0 (eA E)) (F0 m 0 ls []) := by
  obtain ⟨⟨hx, hb, hml, hown, hts⟩, hr, hlocks, hF, hAd⟩ := id C0
  unfold X11_look_b0 at h
  refine lv_aload_n hx hb dX11_look_0 rfl (lv_at hl 0 rfl) ?_
  refine gf_X11_69 C0 hH hk0 dX11_look_1 ?_
  refine lv_if_ne (tgt := 23) hx hb dX11_look_4 (by decide) (fun c1 => ?_) (fun c1 => ?_)
  · replace h := if_f h c1
    exact r_vret C0 hH (Option.some.inj h) dX11_look_23
  · replace h := if_t h c1
    refine lv_aload_n hx hb dX11_look_7 rfl (lv_at hl 0 rfl) ?_
    refine gf_X11_51 C0 hH hk0 dX11_look_8 ?_
    refine lv_aload_n hx hb dX11_look_11 rfl (lv_at hl 0 rfl) ?_
    refine gf_X11_33 C0 hH hk0 dX11_look_12 ?_
    obtain ⟨σ2, qσ2, h⟩ := ob_s h
    refine go_v hH (va_run_V (As := [.ref (ea E (k0 + 22))]) (rest := []) C0 hH lk_X11_349 (c_X4_lookAt hAd (k0 + 175) (k0 + 22) (kf_11_6 hk0) (kf_11_3 hk0) σ qσ2) (by decide) (ci := 4) (kf_11_6 hk0) (by decide) (cob_4 _ _ _) rfl rfl hl.1 rfl (Nat.le_of_ble_eq_true rfl) dX11_look_15) (fun H locs hH => ?_)
    refine lv_aload_n hx hb dX11_look_18 rfl (lv_at hl 0 rfl) ?_
    refine lv_iconst (v := 1) hx hb dX11_look_19 (by decide) ?_
    refine pf_X11_69 C0 hH hk0 rfl rfl dX11_look_20 (fun H locs hH => ?_)
    exact r_vret C0 hH (Option.some.inj h) dX11_look_23
theorem c_X11_look {l : Launch} {E : EnvT} (hAd : Ad E) (k0 : Nat) (hk0 : kd k0 = 11) (σ : Mem) {σ' : Mem} (h : X11_look k0 σ = some σ') : Met l yX11_look (wsM yX11_look cX11_look 1 (none)) (rmD 18) (PcM E [.ref (ea E k0)] σ) (QvM E σ') 0 0 (eA E) :=
  Met.ofM (by decide) (Nat.le_of_ble_eq_true rfl) (fun p e s m below meth c ls C0 hH hl => w_X11_look_b0 C0 k0 hk0 hH hl h) hAd
set_option maxRecDepth 100000 in
set_option maxHeartbeats 4000000 in
theorem w_X11_page_b0 {r : Int32} {σ' : Mem} (C0 : Cx E p m c cX11_page 3 s args RX11 meth (some .int))  (k0 : Nat) (v1 : Int32) (v2 : Int32) (hk0 : kd k0 = 11) {σ : Mem} {H : Heap} {locs : List Loc} {ls : Array Slot} (hH : Hs E s σ H locs) (hl : lv_has ls 3 [(0, .ref (ea E k0)), (1, .int v1), (2, .int v2)]) (h : X11_page_b0 k0 v1 v2 σ = some (r, σ')) : W p l e (rmD 19) s m args below meth c H locs 0 0 (MQ below (QiM E r σ') args s 0 0 (eA E)) (F0 m 0 ls []) := by
  obtain ⟨⟨hx, hb, hml, hown, hts⟩, hr, hlocks, hF, hAd⟩ := id C0
  unfold X11_page_b0 at h
  refine lv_aload_n hx hb dX11_page_0 rfl (lv_at hl 0 rfl) ?_
  refine lv_iload_n hx hb dX11_page_1 rfl (lv_at hl 1 rfl) ?_
  refine go_i hH (va_run_V (As := [.int v1]) (rest := []) C0 hH lk_X11_173 (c_X11_isPage hAd k0 v1 hk0 σ rfl) (by decide) (ci := 11) hk0 (by decide) (cob_11 _ _ _) rfl rfl hl.1 rfl (Nat.le_of_ble_eq_true rfl) dX11_page_2) (fun H locs hH => ?_)
  refine lv_if_eq (tgt := 18) hx hb dX11_page_5 (by decide) (fun c1 => ?_) (fun c1 => ?_)
  · replace h := if_t h c1
    refine lv_ldc hx hb hown (hts _ qK_X11_84) dX11_page_18 ?_
    exact r_iret C0 hH (pj1 h) (pj2 h) dX11_page_20
  · replace h := if_f h c1
    refine lv_iload_n hx hb dX11_page_8 rfl (lv_at hl 2 rfl) ?_
    refine lv_if_lt (tgt := 18) hx hb dX11_page_9 (by decide) (fun c2 => ?_) (fun c2 => ?_)
    · replace h := if_t h c2
      refine lv_ldc hx hb hown (hts _ qK_X11_84) dX11_page_18 ?_
      exact r_iret C0 hH (pj1 h) (pj2 h) dX11_page_20
    · replace h := if_f h c2
      refine lv_iload_n hx hb dX11_page_12 rfl (lv_at hl 2 rfl) ?_
      refine lv_bipush (v := 6) hx hb dX11_page_13 (by decide) ?_
      refine lv_icmp_le (tgt := 21) hx hb dX11_page_15 (by decide) (fun c3 => ?_) (fun c3 => ?_)
      · replace h := if_t h c3
        refine lv_iload_n hx hb dX11_page_21 rfl (lv_at hl 2 rfl) ?_
        refine lv_iconst (v := 2) hx hb dX11_page_22 (by decide) ?_
        refine lv_icmp_gt (tgt := 38) hx hb dX11_page_23 (by decide) (fun c4 => ?_) (fun c4 => ?_)
        · replace h := if_t h c4
          refine lv_aload_n hx hb dX11_page_38 rfl (lv_at hl 0 rfl) ?_
          obtain ⟨σ5, qσ5, h⟩ := ob_s h
          refine go_v hH (va_run_V (As := []) (rest := []) C0 hH lk_X11_196 (c_X11_look hAd k0 hk0 σ qσ5) (by decide) (ci := 11) hk0 (by decide) (cob_11 _ _ _) rfl rfl hl.1 rfl (Nat.le_of_ble_eq_true rfl) dX11_page_39) (fun H locs hH => ?_)
          refine lv_iload_n hx hb dX11_page_42 rfl (lv_at hl 2 rfl) ?_
          by_cases c6 : v2 = 3
          · replace h := if_t h c6
            refine lv_tableIn (off := 25) (tgt := 68) hx hb dX11_page_43 (by rw [c6]; decide) (by rw [c6]; decide) (by rw [c6]; rfl) (by decide) ?_
            refine lv_aload_n hx hb dX11_page_68 rfl (lv_at hl 0 rfl) ?_
            refine gf_X11_51 C0 hH hk0 dX11_page_69 ?_
            refine gf_X11_199 C0 hH (kf_11_6 hk0) dX11_page_72 ?_
            refine lv_iload_n hx hb dX11_page_75 rfl (lv_at hl 1 rfl) ?_
            obtain ⟨b7, h⟩ := gdx_s h
            refine r_iald C0 hH (n := 10) (kf_4_2 (kf_11_6 hk0)) b7 dX11_page_76 ?_
            exact r_iret C0 hH (pj1 h) (pj2 h) dX11_page_77
          · replace h := if_f h c6
            by_cases c8 : v2 = 4
            · replace h := if_t h c8
              refine lv_tableIn (off := 35) (tgt := 78) hx hb dX11_page_43 (by rw [c8]; decide) (by rw [c8]; decide) (by rw [c8]; rfl) (by decide) ?_
              refine lv_aload_n hx hb dX11_page_78 rfl (lv_at hl 0 rfl) ?_
              refine gf_X11_51 C0 hH hk0 dX11_page_79 ?_
              refine gf_X11_202 C0 hH (kf_11_6 hk0) dX11_page_82 ?_
              refine gf_X11_206 C0 hH (kf_4_0 (kf_11_6 hk0)) dX11_page_85 ?_
              refine lv_iload_n hx hb dX11_page_88 rfl (lv_at hl 1 rfl) ?_
              obtain ⟨b9, h⟩ := gdx_s h
              refine r_iald C0 hH (n := 10) (kf_6_1 (kf_4_0 (kf_11_6 hk0))) b9 dX11_page_89 ?_
              exact r_iret C0 hH (pj1 h) (pj2 h) dX11_page_90
            · replace h := if_f h c8
              by_cases c10 : v2 = 5
              · replace h := if_t h c10
                refine lv_tableIn (off := 48) (tgt := 91) hx hb dX11_page_43 (by rw [c10]; decide) (by rw [c10]; decide) (by rw [c10]; rfl) (by decide) ?_
                refine lv_aload_n hx hb dX11_page_91 rfl (lv_at hl 0 rfl) ?_
                refine gf_X11_51 C0 hH hk0 dX11_page_92 ?_
                refine gf_X11_211 C0 hH (kf_11_6 hk0) dX11_page_95 ?_
                refine lv_iload_n hx hb dX11_page_98 rfl (lv_at hl 1 rfl) ?_
                refine lv_ishr hx hb dX11_page_99 ?_
                refine lv_iconst (v := 1) hx hb dX11_page_100 (by decide) ?_
                refine lv_iand hx hb dX11_page_101 ?_
                exact r_iret C0 hH (pj1 h) (pj2 h) dX11_page_102
              · replace h := if_f h c10
                refine lv_tableOut (tgt := 103) hx hb dX11_page_43 (by have := i32_nv (v := 3) c6 (by decide); have := i32_nv (v := 4) c8 (by decide); have := i32_nv (v := 5) c10 (by decide); omega) (by decide) ?_
                refine lv_aload_n hx hb dX11_page_103 rfl (lv_at hl 0 rfl) ?_
                refine gf_X11_51 C0 hH hk0 dX11_page_104 ?_
                refine gf_X11_214 C0 hH (kf_11_6 hk0) dX11_page_107 ?_
                refine gf_X11_218 C0 hH (kf_4_1 (kf_11_6 hk0)) dX11_page_110 ?_
                refine lv_iload_n hx hb dX11_page_113 rfl (lv_at hl 1 rfl) ?_
                obtain ⟨b11, h⟩ := gdx_s h
                refine r_iald C0 hH (n := 10) (kf_9_4 (kf_4_1 (kf_11_6 hk0))) b11 dX11_page_114 ?_
                exact r_iret C0 hH (pj1 h) (pj2 h) dX11_page_115
        · replace h := if_f h c4
          refine lv_aload_n hx hb dX11_page_26 rfl (lv_at hl 0 rfl) ?_
          refine gf_X11_33 C0 hH hk0 dX11_page_27 ?_
          refine gf_X11_187 C0 hH (kf_11_3 hk0) dX11_page_30 ?_
          refine lv_iload_n hx hb dX11_page_33 rfl (lv_at hl 2 rfl) ?_
          obtain ⟨b12, h⟩ := gdx_s h
          refine ra_13 C0 hH (kf_2_4 (kf_11_3 hk0)) b12 dX11_page_34 ?_
          refine lv_iload_n hx hb dX11_page_35 rfl (lv_at hl 1 rfl) ?_
          obtain ⟨b13, h⟩ := gdx_s h
          refine r_iald C0 hH (n := 10) (ka_13 (kf_2_4 (kf_11_3 hk0)) b12) b13 dX11_page_36 ?_
          exact r_iret C0 hH (pj1 h) (pj2 h) dX11_page_37
      · replace h := if_f h c3
        refine lv_ldc hx hb hown (hts _ qK_X11_84) dX11_page_18 ?_
        exact r_iret C0 hH (pj1 h) (pj2 h) dX11_page_20
theorem c_X11_page {l : Launch} {E : EnvT} (hAd : Ad E) (k0 : Nat) (v1 : Int32) (v2 : Int32) (hk0 : kd k0 = 11) (σ : Mem) {r : Int32} {σ' : Mem} (h : X11_page k0 v1 v2 σ = some (r, σ')) : Met l yX11_page (wsM yX11_page cX11_page 3 (some .int)) (rmD 19) (PcM E [.ref (ea E k0), .int v1, .int v2] σ) (QiM E r σ') 0 0 (eA E) :=
  Met.ofM (by decide) (Nat.le_of_ble_eq_true rfl) (fun p e s m below meth c ls C0 hH hl => w_X11_page_b0 C0 k0 v1 v2 hk0 hH hl h) hAd
set_option maxRecDepth 100000 in
set_option maxHeartbeats 4000000 in
theorem w_X11_apart_b0 {r : Int32} {σ' : Mem} (C0 : Cx E p m c cX11_apart 3 s args RX11 meth (some .int))  (k0 : Nat) (v1 : Int32) (v2 : Int32) (hk0 : kd k0 = 11) {σ : Mem} {H : Heap} {locs : List Loc} {ls : Array Slot} (hH : Hs E s σ H locs) (hl : lv_has ls 3 [(0, .ref (ea E k0)), (1, .int v1), (2, .int v2)]) (h : X11_apart_b0 k0 v1 v2 σ = some (r, σ')) : W p l e (rmD 19) s m args below meth c H locs 0 0 (MQ below (QiM E r σ') args s 0 0 (eA E)) (F0 m 0 ls []) := by
  obtain ⟨⟨hx, hb, hml, hown, hts⟩, hr, hlocks, hF, hAd⟩ := id C0
  unfold X11_apart_b0 at h
  refine lv_aload_n hx hb dX11_apart_0 rfl (lv_at hl 0 rfl) ?_
  refine lv_iload_n hx hb dX11_apart_1 rfl (lv_at hl 1 rfl) ?_
  refine go_i hH (va_run_V (As := [.int v1]) (rest := []) C0 hH lk_X11_173 (c_X11_isPage hAd k0 v1 hk0 σ rfl) (by decide) (ci := 11) hk0 (by decide) (cob_11 _ _ _) rfl rfl hl.1 rfl (Nat.le_of_ble_eq_true rfl) dX11_apart_2) (fun H locs hH => ?_)
  refine lv_if_eq (tgt := 21) hx hb dX11_apart_5 (by decide) (fun c1 => ?_) (fun c1 => ?_)
  · replace h := if_t h c1
    refine lv_ldc hx hb hown (hts _ qK_X11_84) dX11_apart_21 ?_
    exact r_iret C0 hH (pj1 h) (pj2 h) dX11_apart_23
  · replace h := if_f h c1
    refine lv_aload_n hx hb dX11_apart_8 rfl (lv_at hl 0 rfl) ?_
    refine lv_iload_n hx hb dX11_apart_9 rfl (lv_at hl 2 rfl) ?_
    refine go_i hH (va_run_V (As := [.int v2]) (rest := []) C0 hH lk_X11_173 (c_X11_isPage hAd k0 v2 hk0 σ rfl) (by decide) (ci := 11) hk0 (by decide) (cob_11 _ _ _) rfl rfl hl.1 rfl (Nat.le_of_ble_eq_true rfl) dX11_apart_10) (fun H locs hH => ?_)
    refine lv_if_eq (tgt := 21) hx hb dX11_apart_13 (by decide) (fun c2 => ?_) (fun c2 => ?_)
    · replace h := if_t h c2
      refine lv_ldc hx hb hown (hts _ qK_X11_84) dX11_apart_21 ?_
      exact r_iret C0 hH (pj1 h) (pj2 h) dX11_apart_23
    · replace h := if_f h c2
      refine lv_iload_n hx hb dX11_apart_16 rfl (lv_at hl 1 rfl) ?_
      refine lv_iload_n hx hb dX11_apart_17 rfl (lv_at hl 2 rfl) ?_
      refine lv_icmp_ne (tgt := 24) hx hb dX11_apart_18 (by decide) (fun c3 => ?_) (fun c3 => ?_)
      · replace h := if_f h c3
        refine lv_aload_n hx hb dX11_apart_24 rfl (lv_at hl 0 rfl) ?_
        obtain ⟨σ4, qσ4, h⟩ := ob_s h
        refine go_v hH (va_run_V (As := []) (rest := []) C0 hH lk_X11_196 (c_X11_look hAd k0 hk0 σ qσ4) (by decide) (ci := 11) hk0 (by decide) (cob_11 _ _ _) rfl rfl hl.1 rfl (Nat.le_of_ble_eq_true rfl) dX11_apart_25) (fun H locs hH => ?_)
        refine lv_aload_n hx hb dX11_apart_28 rfl (lv_at hl 0 rfl) ?_
        refine gf_X11_51 C0 hH hk0 dX11_apart_29 ?_
        refine gf_X11_202 C0 hH (kf_11_6 hk0) dX11_apart_32 ?_
        refine gf_X11_223 C0 hH (kf_4_0 (kf_11_6 hk0)) dX11_apart_35 ?_
        refine gf_X11_227 C0 hH (kf_6_0 (kf_4_0 (kf_11_6 hk0))) dX11_apart_38 ?_
        refine lv_iload_n hx hb dX11_apart_41 rfl (lv_at hl 1 rfl) ?_
        obtain ⟨b5, h⟩ := gdx_s h
        refine ra_15 C0 hH (kf_5_1 (kf_6_0 (kf_4_0 (kf_11_6 hk0)))) b5 dX11_apart_42 ?_
        refine lv_iload_n hx hb dX11_apart_43 rfl (lv_at hl 2 rfl) ?_
        obtain ⟨b6, h⟩ := gdx_s h
        refine r_iald C0 hH (n := 10) (ka_15 (kf_5_1 (kf_6_0 (kf_4_0 (kf_11_6 hk0)))) b5) b6 dX11_apart_44 ?_
        exact r_iret C0 hH (pj1 h) (pj2 h) dX11_apart_45
      · replace h := if_t h c3
        refine lv_ldc hx hb hown (hts _ qK_X11_84) dX11_apart_21 ?_
        exact r_iret C0 hH (pj1 h) (pj2 h) dX11_apart_23
theorem c_X11_apart {l : Launch} {E : EnvT} (hAd : Ad E) (k0 : Nat) (v1 : Int32) (v2 : Int32) (hk0 : kd k0 = 11) (σ : Mem) {r : Int32} {σ' : Mem} (h : X11_apart k0 v1 v2 σ = some (r, σ')) : Met l yX11_apart (wsM yX11_apart cX11_apart 3 (some .int)) (rmD 19) (PcM E [.ref (ea E k0), .int v1, .int v2] σ) (QiM E r σ') 0 0 (eA E) :=
  Met.ofM (by decide) (Nat.le_of_ble_eq_true rfl) (fun p e s m below meth c ls C0 hH hl => w_X11_apart_b0 C0 k0 v1 v2 hk0 hH hl h) hAd
set_option maxRecDepth 100000 in
set_option maxHeartbeats 4000000 in
theorem w_X11_spread_b0 {r : Int32} {σ' : Mem} (C0 : Cx E p m c cX11_spread 2 s args RX11 meth (some .int))  (k0 : Nat) (v1 : Int32) (hk0 : kd k0 = 11) {σ : Mem} {H : Heap} {locs : List Loc} {ls : Array Slot} (hH : Hs E s σ H locs) (hl : lv_has ls 2 [(0, .ref (ea E k0)), (1, .int v1)]) (h : X11_spread_b0 k0 v1 σ = some (r, σ')) : W p l e (rmD 19) s m args below meth c H locs 0 0 (MQ below (QiM E r σ') args s 0 0 (eA E)) (F0 m 0 ls []) := by
  obtain ⟨⟨hx, hb, hml, hown, hts⟩, hr, hlocks, hF, hAd⟩ := id C0
  unfold X11_spread_b0 at h
  refine lv_aload_n hx hb dX11_spread_0 rfl (lv_at hl 0 rfl) ?_
  refine go_i hH (va_run_V (As := []) (rest := []) C0 hH lk_X11_156 (c_X11_isWithoutBook hAd k0 hk0 σ rfl) (by decide) (ci := 11) hk0 (by decide) (cob_11 _ _ _) rfl rfl hl.1 rfl (Nat.le_of_ble_eq_true rfl) dX11_spread_1) (fun H locs hH => ?_)
  refine lv_if_eq (tgt := 10) hx hb dX11_spread_4 (by decide) (fun c1 => ?_) (fun c1 => ?_)
  · replace h := if_t h c1
    refine lv_iload_n hx hb dX11_spread_10 rfl (lv_at hl 1 rfl) ?_
    refine lv_iconst (v := 1) hx hb dX11_spread_11 (by decide) ?_
    refine lv_icmp_lt (tgt := 28) hx hb dX11_spread_12 (by decide) (fun c2 => ?_) (fun c2 => ?_)
    · replace h := if_t h c2
      refine lv_ldc hx hb hown (hts _ qK_X11_84) dX11_spread_28 ?_
      exact r_iret C0 hH (pj1 h) (pj2 h) dX11_spread_30
    · replace h := if_f h c2
      refine lv_iload_n hx hb dX11_spread_15 rfl (lv_at hl 1 rfl) ?_
      refine lv_iconst (v := 1) hx hb dX11_spread_16 (by decide) ?_
      refine lv_aload_n hx hb dX11_spread_17 rfl (lv_at hl 0 rfl) ?_
      refine gf_X11_33 C0 hH hk0 dX11_spread_18 ?_
      refine gf_X11_146 C0 hH (kf_11_3 hk0) dX11_spread_21 ?_
      refine lv_ishl hx hb dX11_spread_24 ?_
      refine lv_icmp_lt (tgt := 31) hx hb dX11_spread_25 (by decide) (fun c3 => ?_) (fun c3 => ?_)
      · replace h := if_t h c3
        refine lv_aload_n hx hb dX11_spread_31 rfl (lv_at hl 0 rfl) ?_
        obtain ⟨σ4, qσ4, h⟩ := ob_s h
        refine go_v hH (va_run_V (As := []) (rest := []) C0 hH lk_X11_196 (c_X11_look hAd k0 hk0 σ qσ4) (by decide) (ci := 11) hk0 (by decide) (cob_11 _ _ _) rfl rfl hl.1 rfl (Nat.le_of_ble_eq_true rfl) dX11_spread_32) (fun H locs hH => ?_)
        refine lv_aload_n hx hb dX11_spread_35 rfl (lv_at hl 0 rfl) ?_
        refine gf_X11_51 C0 hH hk0 dX11_spread_36 ?_
        refine gf_X11_202 C0 hH (kf_11_6 hk0) dX11_spread_39 ?_
        refine gf_X11_223 C0 hH (kf_4_0 (kf_11_6 hk0)) dX11_spread_42 ?_
        refine lv_iload_n hx hb dX11_spread_45 rfl (lv_at hl 1 rfl) ?_
        obtain ⟨r5, qr5, h⟩ := ob_s h
        refine go_i hH (va_run_V (As := [.int v1]) (rest := []) C0 hH lk_X11_232 (c_X5_widest hAd (((k0 + 175) + 1) + 1) v1 (kf_6_0 (kf_4_0 (kf_11_6 hk0))) σ4 qr5) (by decide) (ci := 5) (kf_6_0 (kf_4_0 (kf_11_6 hk0))) (by decide) (cob_5 _ _ _) rfl rfl hl.1 rfl (Nat.le_of_ble_eq_true rfl) dX11_spread_46) (fun H locs hH => ?_)
        exact r_iret C0 hH (pj1 h) (pj2 h) dX11_spread_49
      · replace h := if_f h c3
        refine lv_ldc hx hb hown (hts _ qK_X11_84) dX11_spread_28 ?_
        exact r_iret C0 hH (pj1 h) (pj2 h) dX11_spread_30
  · replace h := if_f h c1
    refine lv_ldc hx hb hown (hts _ qK_X11_152) dX11_spread_7 ?_
    exact r_iret C0 hH (pj1 h) (pj2 h) dX11_spread_9
theorem c_X11_spread {l : Launch} {E : EnvT} (hAd : Ad E) (k0 : Nat) (v1 : Int32) (hk0 : kd k0 = 11) (σ : Mem) {r : Int32} {σ' : Mem} (h : X11_spread k0 v1 σ = some (r, σ')) : Met l yX11_spread (wsM yX11_spread cX11_spread 2 (some .int)) (rmD 19) (PcM E [.ref (ea E k0), .int v1] σ) (QiM E r σ') 0 0 (eA E) :=
  Met.ofM (by decide) (Nat.le_of_ble_eq_true rfl) (fun p e s m below meth c ls C0 hH hl => w_X11_spread_b0 C0 k0 v1 hk0 hH hl h) hAd
set_option maxRecDepth 100000 in
set_option maxHeartbeats 4000000 in
theorem w_X11_answer_b0 {r : Int32} (C0 : Cx E p m c cX11_answer 2 s args RX11 meth (some .int))  (k0 : Nat) (v1 : Int32) (hk0 : kd k0 = 11) {σ : Mem} {H : Heap} {locs : List Loc} {ls : Array Slot} (hH : Hs E s σ H locs) (hl : lv_has ls 2 [(0, .ref (ea E k0)), (1, .int v1)]) (h : X11_answer_b0 k0 v1 σ = some r) : W p l e (rmD 2) s m args below meth c H locs 0 0 (MQ below (QiM E r σ) args s 0 0 (eA E)) (F0 m 0 ls []) := by
  obtain ⟨⟨hx, hb, hml, hown, hts⟩, hr, hlocks, hF, hAd⟩ := id C0
  unfold X11_answer_b0 at h
  refine lv_iload_n hx hb dX11_answer_0 rfl (lv_at hl 1 rfl) ?_
  by_cases c1 : v1 = 0
  · replace h := if_t h c1
    refine lv_tableIn (off := 51) (tgt := 52) hx hb dX11_answer_1 (by rw [c1]; decide) (by rw [c1]; decide) (by rw [c1]; rfl) (by decide) ?_
    refine lv_aload_n hx hb dX11_answer_52 rfl (lv_at hl 0 rfl) ?_
    refine gf_X11_51 C0 hH hk0 dX11_answer_53 ?_
    refine gf_X11_202 C0 hH (kf_11_6 hk0) dX11_answer_56 ?_
    refine gf_X11_238 C0 hH (kf_4_0 (kf_11_6 hk0)) dX11_answer_59 ?_
    exact r_iret C0 hH (Option.some.inj h) rfl dX11_answer_62
  · replace h := if_f h c1
    by_cases c2 : v1 = 1
    · replace h := if_t h c2
      refine lv_tableIn (off := 62) (tgt := 63) hx hb dX11_answer_1 (by rw [c2]; decide) (by rw [c2]; decide) (by rw [c2]; rfl) (by decide) ?_
      refine lv_aload_n hx hb dX11_answer_63 rfl (lv_at hl 0 rfl) ?_
      refine gf_X11_51 C0 hH hk0 dX11_answer_64 ?_
      refine gf_X11_211 C0 hH (kf_11_6 hk0) dX11_answer_67 ?_
      refine go_i hH (va_run_S (As := [.int (σ (k0 + 175) 5)]) (rest := []) C0 hH lk_X11_352 (c_J6_bitCount_0f7a4 hAd (σ (k0 + 175) 5)  σ rfl) (by decide) rfl hl.1 rfl (Nat.le_of_ble_eq_true rfl) dX11_answer_70) (fun H locs hH => ?_)
      exact r_iret C0 hH (Option.some.inj h) rfl dX11_answer_73
    · replace h := if_f h c2
      by_cases c3 : v1 = 2
      · replace h := if_t h c3
        refine lv_tableIn (off := 73) (tgt := 74) hx hb dX11_answer_1 (by rw [c3]; decide) (by rw [c3]; decide) (by rw [c3]; rfl) (by decide) ?_
        refine lv_aload_n hx hb dX11_answer_74 rfl (lv_at hl 0 rfl) ?_
        refine gf_X11_51 C0 hH hk0 dX11_answer_75 ?_
        refine gf_X11_214 C0 hH (kf_11_6 hk0) dX11_answer_78 ?_
        refine gf_X11_245 C0 hH (kf_4_1 (kf_11_6 hk0)) dX11_answer_81 ?_
        exact r_iret C0 hH (Option.some.inj h) rfl dX11_answer_84
      · replace h := if_f h c3
        by_cases c4 : v1 = 3
        · replace h := if_t h c4
          refine lv_tableIn (off := 84) (tgt := 85) hx hb dX11_answer_1 (by rw [c4]; decide) (by rw [c4]; decide) (by rw [c4]; rfl) (by decide) ?_
          refine lv_aload_n hx hb dX11_answer_85 rfl (lv_at hl 0 rfl) ?_
          refine gf_X11_51 C0 hH hk0 dX11_answer_86 ?_
          refine gf_X11_214 C0 hH (kf_11_6 hk0) dX11_answer_89 ?_
          refine gf_X11_356 C0 hH (kf_4_1 (kf_11_6 hk0)) dX11_answer_92 ?_
          refine lv_iconst (v := 0) hx hb dX11_answer_95 (by decide) ?_
          refine r_iald C0 hH (n := 11) (kf_9_0 (kf_4_1 (kf_11_6 hk0))) (vin (by decide)) dX11_answer_96 ?_
          exact r_iret C0 hH (Option.some.inj h) rfl dX11_answer_97
        · replace h := if_f h c4
          by_cases c5 : v1 = 4
          · replace h := if_t h c5
            refine lv_tableIn (off := 97) (tgt := 98) hx hb dX11_answer_1 (by rw [c5]; decide) (by rw [c5]; decide) (by rw [c5]; rfl) (by decide) ?_
            refine lv_aload_n hx hb dX11_answer_98 rfl (lv_at hl 0 rfl) ?_
            refine gf_X11_51 C0 hH hk0 dX11_answer_99 ?_
            refine gf_X11_359 C0 hH (kf_11_6 hk0) dX11_answer_102 ?_
            exact r_iret C0 hH (Option.some.inj h) rfl dX11_answer_105
          · replace h := if_f h c5
            by_cases c6 : v1 = 5
            · replace h := if_t h c6
              refine lv_tableIn (off := 105) (tgt := 106) hx hb dX11_answer_1 (by rw [c6]; decide) (by rw [c6]; decide) (by rw [c6]; rfl) (by decide) ?_
              refine lv_aload_n hx hb dX11_answer_106 rfl (lv_at hl 0 rfl) ?_
              refine gf_X11_51 C0 hH hk0 dX11_answer_107 ?_
              refine gf_X11_202 C0 hH (kf_11_6 hk0) dX11_answer_110 ?_
              refine gf_X11_223 C0 hH (kf_4_0 (kf_11_6 hk0)) dX11_answer_113 ?_
              refine lv_iconst (v := 1) hx hb dX11_answer_116 (by decide) ?_
              refine lv_aload_n hx hb dX11_answer_117 rfl (lv_at hl 0 rfl) ?_
              refine gf_X11_33 C0 hH hk0 dX11_answer_118 ?_
              refine gf_X11_146 C0 hH (kf_11_3 hk0) dX11_answer_121 ?_
              refine lv_ishl hx hb dX11_answer_124 ?_
              refine lv_iconst (v := 1) hx hb dX11_answer_125 (by decide) ?_
              refine lv_isub hx hb dX11_answer_126 ?_
              obtain ⟨r7, qr7, h⟩ := ob_s h
              refine go_i hH (va_run_V (As := [.int ((shl 1 (σ (k0 + 22) 0)) - 1)]) (rest := []) C0 hH lk_X11_232 (c_X5_widest hAd (((k0 + 175) + 1) + 1) ((shl 1 (σ (k0 + 22) 0)) - 1) (kf_6_0 (kf_4_0 (kf_11_6 hk0))) σ qr7) (by decide) (ci := 5) (kf_6_0 (kf_4_0 (kf_11_6 hk0))) (by decide) (cob_5 _ _ _) rfl rfl hl.1 rfl (Nat.le_of_ble_eq_true rfl) dX11_answer_127) (fun H locs hH => ?_)
              exact r_iret C0 hH (Option.some.inj h) rfl dX11_answer_130
            · replace h := if_f h c6
              by_cases c8 : v1 = 6
              · replace h := if_t h c8
                refine lv_tableIn (off := 130) (tgt := 131) hx hb dX11_answer_1 (by rw [c8]; decide) (by rw [c8]; decide) (by rw [c8]; rfl) (by decide) ?_
                refine lv_aload_n hx hb dX11_answer_131 rfl (lv_at hl 0 rfl) ?_
                refine gf_X11_33 C0 hH hk0 dX11_answer_132 ?_
                refine gf_X11_190 C0 hH (kf_11_3 hk0) dX11_answer_135 ?_
                exact r_iret C0 hH (Option.some.inj h) rfl dX11_answer_138
              · replace h := if_f h c8
                by_cases c9 : v1 = 7
                · replace h := if_t h c9
                  refine lv_tableIn (off := 138) (tgt := 139) hx hb dX11_answer_1 (by rw [c9]; decide) (by rw [c9]; decide) (by rw [c9]; rfl) (by decide) ?_
                  refine lv_aload_n hx hb dX11_answer_139 rfl (lv_at hl 0 rfl) ?_
                  refine gf_X11_33 C0 hH hk0 dX11_answer_140 ?_
                  refine gf_X11_193 C0 hH (kf_11_3 hk0) dX11_answer_143 ?_
                  exact r_iret C0 hH (Option.some.inj h) rfl dX11_answer_146
                · replace h := if_f h c9
                  by_cases c10 : v1 = 8
                  · replace h := if_t h c10
                    refine lv_tableIn (off := 146) (tgt := 147) hx hb dX11_answer_1 (by rw [c10]; decide) (by rw [c10]; decide) (by rw [c10]; rfl) (by decide) ?_
                    refine lv_aload_n hx hb dX11_answer_147 rfl (lv_at hl 0 rfl) ?_
                    refine gf_X11_51 C0 hH hk0 dX11_answer_148 ?_
                    refine gf_X11_249 C0 hH (kf_11_6 hk0) dX11_answer_151 ?_
                    exact r_iret C0 hH (Option.some.inj h) rfl dX11_answer_154
                  · replace h := if_f h c10
                    refine lv_tableOut (tgt := 155) hx hb dX11_answer_1 (by have := i32_nv (v := 0) c1 (by decide); have := i32_nv (v := 1) c2 (by decide); have := i32_nv (v := 2) c3 (by decide); have := i32_nv (v := 3) c4 (by decide); have := i32_nv (v := 4) c5 (by decide); have := i32_nv (v := 5) c6 (by decide); have := i32_nv (v := 6) c8 (by decide); have := i32_nv (v := 7) c9 (by decide); have := i32_nv (v := 8) c10 (by decide); omega) (by decide) ?_
                    refine lv_aload_n hx hb dX11_answer_155 rfl (lv_at hl 0 rfl) ?_
                    refine gf_X11_33 C0 hH hk0 dX11_answer_156 ?_
                    refine gf_X11_146 C0 hH (kf_11_3 hk0) dX11_answer_159 ?_
                    exact r_iret C0 hH (Option.some.inj h) rfl dX11_answer_162
theorem c_X11_answer {l : Launch} {E : EnvT} (hAd : Ad E) (k0 : Nat) (v1 : Int32) (hk0 : kd k0 = 11) (σ : Mem) {r : Int32} (h : X11_answer k0 v1 σ = some r) : Met l yX11_answer (wsM yX11_answer cX11_answer 2 (some .int)) (rmD 2) (PcM E [.ref (ea E k0), .int v1] σ) (QiM E r σ) 0 0 (eA E) :=
  Met.ofM (by decide) (Nat.le_of_ble_eq_true rfl) (fun p e s m below meth c ls C0 hH hl => w_X11_answer_b0 C0 k0 v1 hk0 hH hl h) hAd
set_option maxRecDepth 100000 in
set_option maxHeartbeats 4000000 in
theorem w_X11_whole_b0 {r : Int32} {σ' : Mem} (C0 : Cx E p m c cX11_whole 2 s args RX11 meth (some .int))  (k0 : Nat) (v1 : Int32) (hk0 : kd k0 = 11) {σ : Mem} {H : Heap} {locs : List Loc} {ls : Array Slot} (hH : Hs E s σ H locs) (hl : lv_has ls 2 [(0, .ref (ea E k0)), (1, .int v1)]) (h : X11_whole_b0 k0 v1 σ = some (r, σ')) : W p l e (rmD 19) s m args below meth c H locs 0 0 (MQ below (QiM E r σ') args s 0 0 (eA E)) (F0 m 0 ls []) := by
  obtain ⟨⟨hx, hb, hml, hown, hts⟩, hr, hlocks, hF, hAd⟩ := id C0
  unfold X11_whole_b0 at h
  refine lv_aload_n hx hb dX11_whole_0 rfl (lv_at hl 0 rfl) ?_
  refine go_i hH (va_run_V (As := []) (rest := []) C0 hH lk_X11_156 (c_X11_isWithoutBook hAd k0 hk0 σ rfl) (by decide) (ci := 11) hk0 (by decide) (cob_11 _ _ _) rfl rfl hl.1 rfl (Nat.le_of_ble_eq_true rfl) dX11_whole_1) (fun H locs hH => ?_)
  refine lv_if_eq (tgt := 10) hx hb dX11_whole_4 (by decide) (fun c1 => ?_) (fun c1 => ?_)
  · replace h := if_t h c1
    refine lv_iload_n hx hb dX11_whole_10 rfl (lv_at hl 1 rfl) ?_
    refine lv_if_lt (tgt := 20) hx hb dX11_whole_11 (by decide) (fun c2 => ?_) (fun c2 => ?_)
    · replace h := if_t h c2
      refine lv_ldc hx hb hown (hts _ qK_X11_84) dX11_whole_20 ?_
      exact r_iret C0 hH (pj1 h) (pj2 h) dX11_whole_22
    · replace h := if_f h c2
      refine lv_iload_n hx hb dX11_whole_14 rfl (lv_at hl 1 rfl) ?_
      refine lv_bipush (v := 8) hx hb dX11_whole_15 (by decide) ?_
      refine lv_icmp_le (tgt := 23) hx hb dX11_whole_17 (by decide) (fun c3 => ?_) (fun c3 => ?_)
      · replace h := if_t h c3
        refine lv_aload_n hx hb dX11_whole_23 rfl (lv_at hl 0 rfl) ?_
        obtain ⟨σ4, qσ4, h⟩ := ob_s h
        refine go_v hH (va_run_V (As := []) (rest := []) C0 hH lk_X11_196 (c_X11_look hAd k0 hk0 σ qσ4) (by decide) (ci := 11) hk0 (by decide) (cob_11 _ _ _) rfl rfl hl.1 rfl (Nat.le_of_ble_eq_true rfl) dX11_whole_24) (fun H locs hH => ?_)
        refine lv_aload_n hx hb dX11_whole_27 rfl (lv_at hl 0 rfl) ?_
        refine lv_iload_n hx hb dX11_whole_28 rfl (lv_at hl 1 rfl) ?_
        obtain ⟨r5, qr5, h⟩ := ob_s h
        refine go_i hH (va_run_V (As := [.int v1]) (rest := []) C0 hH lk_X11_235 (c_X11_answer hAd k0 v1 hk0 σ4 qr5) (by decide) (ci := 11) hk0 (by decide) (cob_11 _ _ _) rfl rfl hl.1 rfl (Nat.le_of_ble_eq_true rfl) dX11_whole_29) (fun H locs hH => ?_)
        exact r_iret C0 hH (pj1 h) (pj2 h) dX11_whole_32
      · replace h := if_f h c3
        refine lv_ldc hx hb hown (hts _ qK_X11_84) dX11_whole_20 ?_
        exact r_iret C0 hH (pj1 h) (pj2 h) dX11_whole_22
  · replace h := if_f h c1
    refine lv_ldc hx hb hown (hts _ qK_X11_152) dX11_whole_7 ?_
    exact r_iret C0 hH (pj1 h) (pj2 h) dX11_whole_9
theorem c_X11_whole {l : Launch} {E : EnvT} (hAd : Ad E) (k0 : Nat) (v1 : Int32) (hk0 : kd k0 = 11) (σ : Mem) {r : Int32} {σ' : Mem} (h : X11_whole k0 v1 σ = some (r, σ')) : Met l yX11_whole (wsM yX11_whole cX11_whole 2 (some .int)) (rmD 19) (PcM E [.ref (ea E k0), .int v1] σ) (QiM E r σ') 0 0 (eA E) :=
  Met.ofM (by decide) (Nat.le_of_ble_eq_true rfl) (fun p e s m below meth c ls C0 hH hl => w_X11_whole_b0 C0 k0 v1 hk0 hH hl h) hAd
set_option maxRecDepth 100000 in
set_option maxHeartbeats 4000000 in
theorem w_X11_hand_b0 {r : Int32} {σ' : Mem} (C0 : Cx E p m c cX11_hand 4 s args RX11 meth (some .int))  (k0 : Nat) (v1 : Int32) (v2 : Int32) (hk0 : kd k0 = 11) {σ : Mem} {H : Heap} {locs : List Loc} {ls : Array Slot} (hH : Hs E s σ H locs) (hl : lv_has ls 4 [(0, .ref (ea E k0)), (1, .int v1), (2, .int v2)]) (h : X11_hand_b0 k0 v1 v2 σ = some (r, σ')) : W p l e (rmD 19) s m args below meth c H locs 0 0 (MQ below (QiM E r σ') args s 0 0 (eA E)) (F0 m 0 ls []) := by
  obtain ⟨⟨hx, hb, hml, hown, hts⟩, hr, hlocks, hF, hAd⟩ := id C0
  unfold X11_hand_b0 at h
  refine lv_aload_n hx hb dX11_hand_0 rfl (lv_at hl 0 rfl) ?_
  obtain ⟨σ1, qσ1, h⟩ := ob_s h
  refine go_v hH (va_run_V (As := []) (rest := []) C0 hH lk_X11_196 (c_X11_look hAd k0 hk0 σ qσ1) (by decide) (ci := 11) hk0 (by decide) (cob_11 _ _ _) rfl rfl hl.1 rfl (Nat.le_of_ble_eq_true rfl) dX11_hand_1) (fun H locs hH => ?_)
  refine lv_iload_n hx hb dX11_hand_4 rfl (lv_at hl 1 rfl) ?_
  refine lv_if_lt (tgt := 31) hx hb dX11_hand_5 (by decide) (fun c2 => ?_) (fun c2 => ?_)
  · replace h := if_t h c2
    refine lv_ldc hx hb hown (hts _ qK_X11_84) dX11_hand_31 ?_
    exact r_iret C0 hH (pj1 h) (pj2 h) dX11_hand_33
  · replace h := if_f h c2
    refine lv_iload_n hx hb dX11_hand_8 rfl (lv_at hl 1 rfl) ?_
    refine lv_aload_n hx hb dX11_hand_9 rfl (lv_at hl 0 rfl) ?_
    refine gf_X11_51 C0 hH hk0 dX11_hand_10 ?_
    refine gf_X11_202 C0 hH (kf_11_6 hk0) dX11_hand_13 ?_
    refine gf_X11_238 C0 hH (kf_4_0 (kf_11_6 hk0)) dX11_hand_16 ?_
    refine lv_icmp_ge (tgt := 31) hx hb dX11_hand_19 (by decide) (fun c3 => ?_) (fun c3 => ?_)
    · replace h := if_t h c3
      refine lv_ldc hx hb hown (hts _ qK_X11_84) dX11_hand_31 ?_
      exact r_iret C0 hH (pj1 h) (pj2 h) dX11_hand_33
    · replace h := if_f h c3
      refine lv_iload_n hx hb dX11_hand_22 rfl (lv_at hl 2 rfl) ?_
      refine lv_if_lt (tgt := 31) hx hb dX11_hand_23 (by decide) (fun c4 => ?_) (fun c4 => ?_)
      · replace h := if_t h c4
        refine lv_ldc hx hb hown (hts _ qK_X11_84) dX11_hand_31 ?_
        exact r_iret C0 hH (pj1 h) (pj2 h) dX11_hand_33
      · replace h := if_f h c4
        refine lv_iload_n hx hb dX11_hand_26 rfl (lv_at hl 2 rfl) ?_
        refine lv_iconst (v := 2) hx hb dX11_hand_27 (by decide) ?_
        refine lv_icmp_le (tgt := 34) hx hb dX11_hand_28 (by decide) (fun c5 => ?_) (fun c5 => ?_)
        · replace h := if_t h c5
          refine lv_aload_n hx hb dX11_hand_34 rfl (lv_at hl 0 rfl) ?_
          refine gf_X11_51 C0 hH hk0 dX11_hand_35 ?_
          refine gf_X11_202 C0 hH (kf_11_6 hk0) dX11_hand_38 ?_
          refine gf_X11_239 C0 hH (kf_4_0 (kf_11_6 hk0)) dX11_hand_41 ?_
          refine lv_iload_n hx hb dX11_hand_44 rfl (lv_at hl 1 rfl) ?_
          obtain ⟨b6, h⟩ := gdx_s h
          refine r_iald C0 hH (n := 10) (kf_6_2 (kf_4_0 (kf_11_6 hk0))) b6 dX11_hand_45 ?_
          obtain ⟨x7, ex7, h⟩ := letv_s h
          refine topi_of ex7 ?_
          refine lv_istore_n (lv' := [(3, .int x7), (0, .ref (ea E k0)), (1, .int v1), (2, .int v2)]) hx hb dX11_hand_46 rfl hl (by decide) rfl (fun ls hl => ?_)
          refine lv_iload_n hx hb dX11_hand_47 rfl (lv_at hl 3 rfl) ?_
          by_cases c8 : v2 = 0
          · replace h := if_t h c8
            refine lv_lookup (off := 28) (tgt := 76) hx hb dX11_hand_48 (by decide) (by rw [c8]; rfl) (by decide) ?_
            refine lv_iload_n hx hb dX11_hand_76 rfl (lv_at hl 0 rfl) ?_
            exact r_iret C0 hH (pj1 h) (pj2 h) dX11_hand_77
          · replace h := if_f h c8
            by_cases c9 : v2 = 1
            · replace h := if_t h c9
              refine lv_lookup (off := 30) (tgt := 78) hx hb dX11_hand_48 (by decide) (by rw [c9]; rfl) (by decide) ?_
              refine lv_aload_n hx hb dX11_hand_78 rfl (lv_at hl 1 rfl) ?_
              refine gf_X11_51 C0 hH hk0 dX11_hand_79 ?_
              refine gf_X11_202 C0 hH (kf_11_6 hk0) dX11_hand_82 ?_
              refine gf_X11_223 C0 hH (kf_4_0 (kf_11_6 hk0)) dX11_hand_85 ?_
              refine lv_iload_n hx hb dX11_hand_88 rfl (lv_at hl 0 rfl) ?_
              obtain ⟨r10, qr10, h⟩ := ob_s h
              refine go_i hH (va_run_V (As := [.int x7]) (rest := []) C0 hH lk_X11_232 (c_X5_widest hAd (((k0 + 175) + 1) + 1) x7 (kf_6_0 (kf_4_0 (kf_11_6 hk0))) σ1 qr10) (by decide) (ci := 5) (kf_6_0 (kf_4_0 (kf_11_6 hk0))) (by decide) (cob_5 _ _ _) rfl rfl hl.1 rfl (Nat.le_of_ble_eq_true rfl) dX11_hand_89) (fun H locs hH => ?_)
              exact r_iret C0 hH (pj1 h) (pj2 h) dX11_hand_92
            · replace h := if_f h c9
              refine lv_lookup (off := 45) (tgt := 93) hx hb dX11_hand_48 (by decide) (by have := i32_nv (v := 0) c8 (by decide); have := i32_nv (v := 1) c9 (by decide); simp [Op.lookupswitch.offset]; repeat rw [if_neg (by omega)]) (by decide) ?_
              refine lv_aload_n hx hb dX11_hand_93 rfl (lv_at hl 1 rfl) ?_
              refine gf_X11_51 C0 hH hk0 dX11_hand_94 ?_
              refine gf_X11_202 C0 hH (kf_11_6 hk0) dX11_hand_97 ?_
              refine gf_X11_223 C0 hH (kf_4_0 (kf_11_6 hk0)) dX11_hand_100 ?_
              refine lv_iload_n hx hb dX11_hand_103 rfl (lv_at hl 0 rfl) ?_
              obtain ⟨r11, qr11, h⟩ := ob_s h
              refine go_i hH (va_run_V (As := [.int x7]) (rest := []) C0 hH lk_X11_242 (c_X5_middle hAd (((k0 + 175) + 1) + 1) x7 (kf_6_0 (kf_4_0 (kf_11_6 hk0))) σ1 qr11) (by decide) (ci := 5) (kf_6_0 (kf_4_0 (kf_11_6 hk0))) (by decide) (cob_5 _ _ _) rfl rfl hl.1 rfl (Nat.le_of_ble_eq_true rfl) dX11_hand_104) (fun H locs hH => ?_)
              exact r_iret C0 hH (pj1 h) (pj2 h) dX11_hand_107
        · replace h := if_f h c5
          refine lv_ldc hx hb hown (hts _ qK_X11_84) dX11_hand_31 ?_
          exact r_iret C0 hH (pj1 h) (pj2 h) dX11_hand_33
theorem c_X11_hand {l : Launch} {E : EnvT} (hAd : Ad E) (k0 : Nat) (v1 : Int32) (v2 : Int32) (hk0 : kd k0 = 11) (σ : Mem) {r : Int32} {σ' : Mem} (h : X11_hand k0 v1 v2 σ = some (r, σ')) : Met l yX11_hand (wsM yX11_hand cX11_hand 4 (some .int)) (rmD 19) (PcM E [.ref (ea E k0), .int v1, .int v2] σ) (QiM E r σ') 0 0 (eA E) :=
  Met.ofM (by decide) (Nat.le_of_ble_eq_true rfl) (fun p e s m below meth c ls C0 hH hl => w_X11_hand_b0 C0 k0 v1 v2 hk0 hH hl h) hAd
set_option maxRecDepth 100000 in
set_option maxHeartbeats 4000000 in
theorem w_X11_run_b0 {r : Int32} {σ' : Mem} (C0 : Cx E p m c cX11_run 5 s args RX11 meth (some .int))  (k0 : Nat) (v1 : Int32) (v2 : Int32) (hk0 : kd k0 = 11) {σ : Mem} {H : Heap} {locs : List Loc} {ls : Array Slot} (hH : Hs E s σ H locs) (hl : lv_has ls 5 [(0, .ref (ea E k0)), (1, .int v1), (2, .int v2)]) (h : X11_run_b0 k0 v1 v2 σ = some (r, σ')) : W p l e (rmD 19) s m args below meth c H locs 0 0 (MQ below (QiM E r σ') args s 0 0 (eA E)) (F0 m 0 ls []) := by
  obtain ⟨⟨hx, hb, hml, hown, hts⟩, hr, hlocks, hF, hAd⟩ := id C0
  unfold X11_run_b0 at h
  refine lv_aload_n hx hb dX11_run_0 rfl (lv_at hl 0 rfl) ?_
  obtain ⟨σ1, qσ1, h⟩ := ob_s h
  refine go_v hH (va_run_V (As := []) (rest := []) C0 hH lk_X11_196 (c_X11_look hAd k0 hk0 σ qσ1) (by decide) (ci := 11) hk0 (by decide) (cob_11 _ _ _) rfl rfl hl.1 rfl (Nat.le_of_ble_eq_true rfl) dX11_run_1) (fun H locs hH => ?_)
  refine lv_iload_n hx hb dX11_run_4 rfl (lv_at hl 1 rfl) ?_
  refine lv_if_lt (tgt := 31) hx hb dX11_run_5 (by decide) (fun c2 => ?_) (fun c2 => ?_)
  · replace h := if_t h c2
    refine lv_ldc hx hb hown (hts _ qK_X11_84) dX11_run_31 ?_
    exact r_iret C0 hH (pj1 h) (pj2 h) dX11_run_33
  · replace h := if_f h c2
    refine lv_iload_n hx hb dX11_run_8 rfl (lv_at hl 1 rfl) ?_
    refine lv_aload_n hx hb dX11_run_9 rfl (lv_at hl 0 rfl) ?_
    refine gf_X11_51 C0 hH hk0 dX11_run_10 ?_
    refine gf_X11_214 C0 hH (kf_11_6 hk0) dX11_run_13 ?_
    refine gf_X11_245 C0 hH (kf_4_1 (kf_11_6 hk0)) dX11_run_16 ?_
    refine lv_icmp_ge (tgt := 31) hx hb dX11_run_19 (by decide) (fun c3 => ?_) (fun c3 => ?_)
    · replace h := if_t h c3
      refine lv_ldc hx hb hown (hts _ qK_X11_84) dX11_run_31 ?_
      exact r_iret C0 hH (pj1 h) (pj2 h) dX11_run_33
    · replace h := if_f h c3
      refine lv_iload_n hx hb dX11_run_22 rfl (lv_at hl 2 rfl) ?_
      refine lv_if_lt (tgt := 31) hx hb dX11_run_23 (by decide) (fun c4 => ?_) (fun c4 => ?_)
      · replace h := if_t h c4
        refine lv_ldc hx hb hown (hts _ qK_X11_84) dX11_run_31 ?_
        exact r_iret C0 hH (pj1 h) (pj2 h) dX11_run_33
      · replace h := if_f h c4
        refine lv_iload_n hx hb dX11_run_26 rfl (lv_at hl 2 rfl) ?_
        refine lv_iconst (v := 2) hx hb dX11_run_27 (by decide) ?_
        refine lv_icmp_le (tgt := 34) hx hb dX11_run_28 (by decide) (fun c5 => ?_) (fun c5 => ?_)
        · replace h := if_t h c5
          refine lv_aload_n hx hb dX11_run_34 rfl (lv_at hl 0 rfl) ?_
          refine gf_X11_51 C0 hH hk0 dX11_run_35 ?_
          refine gf_X11_214 C0 hH (kf_11_6 hk0) dX11_run_38 ?_
          refine gf_X11_246 C0 hH (kf_4_1 (kf_11_6 hk0)) dX11_run_41 ?_
          refine lv_iload_n hx hb dX11_run_44 rfl (lv_at hl 1 rfl) ?_
          obtain ⟨b6, h⟩ := gdx_s h
          refine r_iald C0 hH (n := 11) (kf_9_3 (kf_4_1 (kf_11_6 hk0))) b6 dX11_run_45 ?_
          obtain ⟨x7, ex7, h⟩ := letv_s h
          refine topi_of ex7 ?_
          refine lv_istore_n (lv' := [(3, .int x7), (0, .ref (ea E k0)), (1, .int v1), (2, .int v2)]) hx hb dX11_run_46 rfl hl (by decide) rfl (fun ls hl => ?_)
          refine lv_aload_n hx hb dX11_run_47 rfl (lv_at hl 1 rfl) ?_
          refine gf_X11_51 C0 hH hk0 dX11_run_48 ?_
          refine gf_X11_214 C0 hH (kf_11_6 hk0) dX11_run_51 ?_
          refine gf_X11_246 C0 hH (kf_4_1 (kf_11_6 hk0)) dX11_run_54 ?_
          refine lv_iload_n hx hb dX11_run_57 rfl (lv_at hl 2 rfl) ?_
          refine lv_iconst (v := 1) hx hb dX11_run_58 (by decide) ?_
          refine lv_iadd hx hb dX11_run_59 ?_
          obtain ⟨b8, h⟩ := gdx_s h
          refine r_iald C0 hH (n := 11) (kf_9_3 (kf_4_1 (kf_11_6 hk0))) b8 dX11_run_60 ?_
          obtain ⟨x9, ex9, h⟩ := letv_s h
          refine topi_of ex9 ?_
          refine lv_istore (lv' := [(4, .int x9), (3, .int x7), (0, .ref (ea E k0)), (1, .int v1), (2, .int v2)]) hx hb dX11_run_61 hl (by decide) rfl (fun ls hl => ?_)
          refine lv_iload_n hx hb dX11_run_63 rfl (lv_at hl 4 rfl) ?_
          by_cases c10 : v2 = 0
          · replace h := if_t h c10
            refine lv_lookup (off := 28) (tgt := 92) hx hb dX11_run_64 (by decide) (by rw [c10]; rfl) (by decide) ?_
            refine lv_iload_n hx hb dX11_run_92 rfl (lv_at hl 1 rfl) ?_
            exact r_iret C0 hH (pj1 h) (pj2 h) dX11_run_93
          · replace h := if_f h c10
            by_cases c11 : v2 = 1
            · replace h := if_t h c11
              refine lv_lookup (off := 30) (tgt := 94) hx hb dX11_run_64 (by decide) (by rw [c11]; rfl) (by decide) ?_
              refine lv_iload hx hb dX11_run_94 (lv_at hl 0 rfl) ?_
              refine lv_iload_n hx hb dX11_run_96 rfl (lv_at hl 1 rfl) ?_
              refine lv_isub hx hb dX11_run_97 ?_
              exact r_iret C0 hH (pj1 h) (pj2 h) dX11_run_98
            · replace h := if_f h c11
              refine lv_lookup (off := 35) (tgt := 99) hx hb dX11_run_64 (by decide) (by have := i32_nv (v := 0) c10 (by decide); have := i32_nv (v := 1) c11 (by decide); simp [Op.lookupswitch.offset]; repeat rw [if_neg (by omega)]) (by decide) ?_
              refine lv_aload_n hx hb dX11_run_99 rfl (lv_at hl 2 rfl) ?_
              refine gf_X11_51 C0 hH hk0 dX11_run_100 ?_
              refine gf_X11_202 C0 hH (kf_11_6 hk0) dX11_run_103 ?_
              refine gf_X11_223 C0 hH (kf_4_0 (kf_11_6 hk0)) dX11_run_106 ?_
              refine lv_iconst (v := 1) hx hb dX11_run_109 (by decide) ?_
              refine lv_iload hx hb dX11_run_110 (lv_at hl 0 rfl) ?_
              refine lv_ishl hx hb dX11_run_112 ?_
              refine lv_iconst (v := 1) hx hb dX11_run_113 (by decide) ?_
              refine lv_iload_n hx hb dX11_run_114 rfl (lv_at hl 1 rfl) ?_
              refine lv_ishl hx hb dX11_run_115 ?_
              refine lv_isub hx hb dX11_run_116 ?_
              obtain ⟨r12, qr12, h⟩ := ob_s h
              refine go_i hH (va_run_V (As := [.int ((shl 1 x9) - (shl 1 x7))]) (rest := []) C0 hH lk_X11_232 (c_X5_widest hAd (((k0 + 175) + 1) + 1) ((shl 1 x9) - (shl 1 x7)) (kf_6_0 (kf_4_0 (kf_11_6 hk0))) σ1 qr12) (by decide) (ci := 5) (kf_6_0 (kf_4_0 (kf_11_6 hk0))) (by decide) (cob_5 _ _ _) rfl rfl hl.1 rfl (Nat.le_of_ble_eq_true rfl) dX11_run_117) (fun H locs hH => ?_)
              exact r_iret C0 hH (pj1 h) (pj2 h) dX11_run_120
        · replace h := if_f h c5
          refine lv_ldc hx hb hown (hts _ qK_X11_84) dX11_run_31 ?_
          exact r_iret C0 hH (pj1 h) (pj2 h) dX11_run_33
theorem c_X11_run {l : Launch} {E : EnvT} (hAd : Ad E) (k0 : Nat) (v1 : Int32) (v2 : Int32) (hk0 : kd k0 = 11) (σ : Mem) {r : Int32} {σ' : Mem} (h : X11_run k0 v1 v2 σ = some (r, σ')) : Met l yX11_run (wsM yX11_run cX11_run 5 (some .int)) (rmD 19) (PcM E [.ref (ea E k0), .int v1, .int v2] σ) (QiM E r σ') 0 0 (eA E) :=
  Met.ofM (by decide) (Nat.le_of_ble_eq_true rfl) (fun p e s m below meth c ls C0 hH hl => w_X11_run_b0 C0 k0 v1 v2 hk0 hH hl h) hAd
set_option maxRecDepth 100000 in
set_option maxHeartbeats 4000000 in
theorem w_X11_sign_b0 {r : Int32} {σ' : Mem} (C0 : Cx E p m c cX11_sign 2 s args RX11 meth (some .int))  (k0 : Nat) (v1 : Int32) (hk0 : kd k0 = 11) {σ : Mem} {H : Heap} {locs : List Loc} {ls : Array Slot} (hH : Hs E s σ H locs) (hl : lv_has ls 2 [(0, .ref (ea E k0)), (1, .int v1)]) (h : X11_sign_b0 k0 v1 σ = some (r, σ')) : W p l e (rmD 19) s m args below meth c H locs 0 0 (MQ below (QiM E r σ') args s 0 0 (eA E)) (F0 m 0 ls []) := by
  obtain ⟨⟨hx, hb, hml, hown, hts⟩, hr, hlocks, hF, hAd⟩ := id C0
  unfold X11_sign_b0 at h
  refine lv_aload_n hx hb dX11_sign_0 rfl (lv_at hl 0 rfl) ?_
  refine go_i hH (va_run_V (As := []) (rest := []) C0 hH lk_X11_156 (c_X11_isWithoutBook hAd k0 hk0 σ rfl) (by decide) (ci := 11) hk0 (by decide) (cob_11 _ _ _) rfl rfl hl.1 rfl (Nat.le_of_ble_eq_true rfl) dX11_sign_1) (fun H locs hH => ?_)
  refine lv_if_eq (tgt := 10) hx hb dX11_sign_4 (by decide) (fun c1 => ?_) (fun c1 => ?_)
  · replace h := if_t h c1
    refine lv_iload_n hx hb dX11_sign_10 rfl (lv_at hl 1 rfl) ?_
    refine lv_if_ge (tgt := 17) hx hb dX11_sign_11 (by decide) (fun c2 => ?_) (fun c2 => ?_)
    · replace h := if_t h c2
      refine lv_aload_n hx hb dX11_sign_17 rfl (lv_at hl 0 rfl) ?_
      obtain ⟨σ3, qσ3, h⟩ := ob_s h
      refine go_v hH (va_run_V (As := []) (rest := []) C0 hH lk_X11_196 (c_X11_look hAd k0 hk0 σ qσ3) (by decide) (ci := 11) hk0 (by decide) (cob_11 _ _ _) rfl rfl hl.1 rfl (Nat.le_of_ble_eq_true rfl) dX11_sign_18) (fun H locs hH => ?_)
      refine lv_iload_n hx hb dX11_sign_21 rfl (lv_at hl 1 rfl) ?_
      refine lv_aload_n hx hb dX11_sign_22 rfl (lv_at hl 0 rfl) ?_
      refine gf_X11_51 C0 hH hk0 dX11_sign_23 ?_
      refine gf_X11_249 C0 hH (kf_11_6 hk0) dX11_sign_26 ?_
      refine lv_icmp_ge (tgt := 44) hx hb dX11_sign_29 (by decide) (fun c4 => ?_) (fun c4 => ?_)
      · replace h := if_t h c4
        refine lv_ldc hx hb hown (hts _ qK_X11_253) dX11_sign_44 ?_
        exact r_iret C0 hH (pj1 h) (pj2 h) dX11_sign_46
      · replace h := if_f h c4
        refine lv_aload_n hx hb dX11_sign_32 rfl (lv_at hl 0 rfl) ?_
        refine gf_X11_51 C0 hH hk0 dX11_sign_33 ?_
        refine gf_X11_250 C0 hH (kf_11_6 hk0) dX11_sign_36 ?_
        refine lv_iload_n hx hb dX11_sign_39 rfl (lv_at hl 1 rfl) ?_
        obtain ⟨b5, h⟩ := gdx_s h
        refine r_iald C0 hH (n := 64) (kf_4_6 (kf_11_6 hk0)) b5 dX11_sign_40 ?_
        refine lv_goto (tgt := 46) hx hb dX11_sign_41 (by decide) ?_
        exact r_iret C0 hH (pj1 h) (pj2 h) dX11_sign_46
    · replace h := if_f h c2
      refine lv_ldc hx hb hown (hts _ qK_X11_84) dX11_sign_14 ?_
      exact r_iret C0 hH (pj1 h) (pj2 h) dX11_sign_16
  · replace h := if_f h c1
    refine lv_ldc hx hb hown (hts _ qK_X11_152) dX11_sign_7 ?_
    exact r_iret C0 hH (pj1 h) (pj2 h) dX11_sign_9
theorem c_X11_sign {l : Launch} {E : EnvT} (hAd : Ad E) (k0 : Nat) (v1 : Int32) (hk0 : kd k0 = 11) (σ : Mem) {r : Int32} {σ' : Mem} (h : X11_sign k0 v1 σ = some (r, σ')) : Met l yX11_sign (wsM yX11_sign cX11_sign 2 (some .int)) (rmD 19) (PcM E [.ref (ea E k0), .int v1] σ) (QiM E r σ') 0 0 (eA E) :=
  Met.ofM (by decide) (Nat.le_of_ble_eq_true rfl) (fun p e s m below meth c ls C0 hH hl => w_X11_sign_b0 C0 k0 v1 hk0 hH hl h) hAd
set_option maxRecDepth 100000 in
set_option maxHeartbeats 4000000 in
theorem w_X11_without_b0 {r : Int32} {σ' : Mem} (C0 : Cx E p m c cX11_without 2 s args RX11 meth (some .int))  (k0 : Nat) (v1 : Int32) (hk0 : kd k0 = 11) {σ : Mem} {H : Heap} {locs : List Loc} {ls : Array Slot} (hH : Hs E s σ H locs) (hl : lv_has ls 2 [(0, .ref (ea E k0)), (1, .int v1)]) (h : X11_without_b0 k0 v1 σ = some (r, σ')) : W p l e (rmD 18) s m args below meth c H locs 0 0 (MQ below (QiM E r σ') args s 0 0 (eA E)) (F0 m 0 ls []) := by
  obtain ⟨⟨hx, hb, hml, hown, hts⟩, hr, hlocks, hF, hAd⟩ := id C0
  unfold X11_without_b0 at h
  refine lv_aload_n hx hb dX11_without_0 rfl (lv_at hl 0 rfl) ?_
  refine lv_iload_n hx hb dX11_without_1 rfl (lv_at hl 1 rfl) ?_
  refine go_i hH (va_run_V (As := [.int v1]) (rest := []) C0 hH lk_X11_173 (c_X11_isPage hAd k0 v1 hk0 σ rfl) (by decide) (ci := 11) hk0 (by decide) (cob_11 _ _ _) rfl rfl hl.1 rfl (Nat.le_of_ble_eq_true rfl) dX11_without_2) (fun H locs hH => ?_)
  refine lv_if_ne (tgt := 11) hx hb dX11_without_5 (by decide) (fun c1 => ?_) (fun c1 => ?_)
  · replace h := if_f h c1
    refine lv_aload_n hx hb dX11_without_11 rfl (lv_at hl 0 rfl) ?_
    refine gf_X11_33 C0 hH hk0 dX11_without_12 ?_
    refine gf_X11_146 C0 hH (kf_11_3 hk0) dX11_without_15 ?_
    refine lv_iconst (v := 1) hx hb dX11_without_18 (by decide) ?_
    refine lv_icmp_ne (tgt := 25) hx hb dX11_without_19 (by decide) (fun c2 => ?_) (fun c2 => ?_)
    · replace h := if_f h c2
      refine lv_aload_n hx hb dX11_without_25 rfl (lv_at hl 0 rfl) ?_
      refine gf_X11_58 C0 hH hk0 dX11_without_26 ?_
      refine lv_aload_n hx hb dX11_without_29 rfl (lv_at hl 0 rfl) ?_
      refine gf_X11_33 C0 hH hk0 dX11_without_30 ?_
      refine lv_iload_n hx hb dX11_without_33 rfl (lv_at hl 1 rfl) ?_
      obtain ⟨r3, σ4, qr3, h⟩ := ob2_s h
      refine go_i hH (va_run_V (As := [.ref (ea E (k0 + 22)), .int v1]) (rest := []) C0 hH lk_X11_257 (c_X3_handsWithout hAd (k0 + 211) (k0 + 22) v1 (kf_11_7 hk0) (kf_11_3 hk0) σ qr3) (by decide) (ci := 3) (kf_11_7 hk0) (by decide) (cob_3 _ _ _) rfl rfl hl.1 rfl (Nat.le_of_ble_eq_true rfl) dX11_without_34) (fun H locs hH => ?_)
      exact r_iret C0 hH (pj1 h) (pj2 h) dX11_without_37
    · replace h := if_t h c2
      refine lv_ldc hx hb hown (hts _ qK_X11_152) dX11_without_22 ?_
      exact r_iret C0 hH (pj1 h) (pj2 h) dX11_without_24
  · replace h := if_t h c1
    refine lv_ldc hx hb hown (hts _ qK_X11_84) dX11_without_8 ?_
    exact r_iret C0 hH (pj1 h) (pj2 h) dX11_without_10
theorem c_X11_without {l : Launch} {E : EnvT} (hAd : Ad E) (k0 : Nat) (v1 : Int32) (hk0 : kd k0 = 11) (σ : Mem) {r : Int32} {σ' : Mem} (h : X11_without k0 v1 σ = some (r, σ')) : Met l yX11_without (wsM yX11_without cX11_without 2 (some .int)) (rmD 18) (PcM E [.ref (ea E k0), .int v1] σ) (QiM E r σ') 0 0 (eA E) :=
  Met.ofM (by decide) (Nat.le_of_ble_eq_true rfl) (fun p e s m below meth c ls C0 hH hl => w_X11_without_b0 C0 k0 v1 hk0 hH hl h) hAd
set_option maxRecDepth 100000 in
set_option maxHeartbeats 4000000 in
theorem w_X11_least_b0 {r : Int32} {σ' : Mem} (C0 : Cx E p m c cX11_least 2 s args RX11 meth (some .int))  (k0 : Nat) (v1 : Int32) (hk0 : kd k0 = 11) {σ : Mem} {H : Heap} {locs : List Loc} {ls : Array Slot} (hH : Hs E s σ H locs) (hl : lv_has ls 2 [(0, .ref (ea E k0)), (1, .int v1)]) (h : X11_least_b0 k0 v1 σ = some (r, σ')) : W p l e (rmD 17) s m args below meth c H locs 0 0 (MQ below (QiM E r σ') args s 0 0 (eA E)) (F0 m 0 ls []) := by
  obtain ⟨⟨hx, hb, hml, hown, hts⟩, hr, hlocks, hF, hAd⟩ := id C0
  unfold X11_least_b0 at h
  refine lv_aload_n hx hb dX11_least_0 rfl (lv_at hl 0 rfl) ?_
  refine go_i hH (va_run_V (As := []) (rest := []) C0 hH lk_X11_156 (c_X11_isWithoutBook hAd k0 hk0 σ rfl) (by decide) (ci := 11) hk0 (by decide) (cob_11 _ _ _) rfl rfl hl.1 rfl (Nat.le_of_ble_eq_true rfl) dX11_least_1) (fun H locs hH => ?_)
  refine lv_if_eq (tgt := 10) hx hb dX11_least_4 (by decide) (fun c1 => ?_) (fun c1 => ?_)
  · replace h := if_t h c1
    refine lv_iload_n hx hb dX11_least_10 rfl (lv_at hl 1 rfl) ?_
    refine lv_iconst (v := 1) hx hb dX11_least_11 (by decide) ?_
    refine lv_icmp_lt (tgt := 21) hx hb dX11_least_12 (by decide) (fun c2 => ?_) (fun c2 => ?_)
    · replace h := if_t h c2
      refine lv_ldc hx hb hown (hts _ qK_X11_84) dX11_least_21 ?_
      exact r_iret C0 hH (pj1 h) (pj2 h) dX11_least_23
    · replace h := if_f h c2
      refine lv_iload_n hx hb dX11_least_15 rfl (lv_at hl 1 rfl) ?_
      refine lv_bipush (v := 10) hx hb dX11_least_16 (by decide) ?_
      refine lv_icmp_le (tgt := 24) hx hb dX11_least_18 (by decide) (fun c3 => ?_) (fun c3 => ?_)
      · replace h := if_t h c3
        refine lv_aload_n hx hb dX11_least_24 rfl (lv_at hl 0 rfl) ?_
        refine gf_X11_58 C0 hH hk0 dX11_least_25 ?_
        refine lv_aload_n hx hb dX11_least_28 rfl (lv_at hl 0 rfl) ?_
        refine gf_X11_33 C0 hH hk0 dX11_least_29 ?_
        refine lv_iload_n hx hb dX11_least_32 rfl (lv_at hl 1 rfl) ?_
        obtain ⟨r4, σ5, qr4, h⟩ := ob2_s h
        refine go_i hH (va_run_V (As := [.ref (ea E (k0 + 22)), .int v1]) (rest := []) C0 hH lk_X11_261 (c_X3_leastLimit hAd (k0 + 211) (k0 + 22) v1 (kf_11_7 hk0) (kf_11_3 hk0) σ qr4) (by decide) (ci := 3) (kf_11_7 hk0) (by decide) (cob_3 _ _ _) rfl rfl hl.1 rfl (Nat.le_of_ble_eq_true rfl) dX11_least_33) (fun H locs hH => ?_)
        exact r_iret C0 hH (pj1 h) (pj2 h) dX11_least_36
      · replace h := if_f h c3
        refine lv_ldc hx hb hown (hts _ qK_X11_84) dX11_least_21 ?_
        exact r_iret C0 hH (pj1 h) (pj2 h) dX11_least_23
  · replace h := if_f h c1
    refine lv_ldc hx hb hown (hts _ qK_X11_152) dX11_least_7 ?_
    exact r_iret C0 hH (pj1 h) (pj2 h) dX11_least_9
theorem c_X11_least {l : Launch} {E : EnvT} (hAd : Ad E) (k0 : Nat) (v1 : Int32) (hk0 : kd k0 = 11) (σ : Mem) {r : Int32} {σ' : Mem} (h : X11_least k0 v1 σ = some (r, σ')) : Met l yX11_least (wsM yX11_least cX11_least 2 (some .int)) (rmD 17) (PcM E [.ref (ea E k0), .int v1] σ) (QiM E r σ') 0 0 (eA E) :=
  Met.ofM (by decide) (Nat.le_of_ble_eq_true rfl) (fun p e s m below meth c ls C0 hH hl => w_X11_least_b0 C0 k0 v1 hk0 hH hl h) hAd
set_option maxRecDepth 100000 in
set_option maxHeartbeats 4000000 in
theorem w_X11_pairs_b0 {r : Int32} {σ' : Mem} (C0 : Cx E p m c cX11_pairs 2 s args RX11 meth (some .int))  (k0 : Nat) (v1 : Int32) (hk0 : kd k0 = 11) {σ : Mem} {H : Heap} {locs : List Loc} {ls : Array Slot} (hH : Hs E s σ H locs) (hl : lv_has ls 2 [(0, .ref (ea E k0)), (1, .int v1)]) (h : X11_pairs_b0 k0 v1 σ = some (r, σ')) : W p l e (rmD 19) s m args below meth c H locs 0 0 (MQ below (QiM E r σ') args s 0 0 (eA E)) (F0 m 0 ls []) := by
  obtain ⟨⟨hx, hb, hml, hown, hts⟩, hr, hlocks, hF, hAd⟩ := id C0
  unfold X11_pairs_b0 at h
  refine lv_aload_n hx hb dX11_pairs_0 rfl (lv_at hl 0 rfl) ?_
  refine lv_iload_n hx hb dX11_pairs_1 rfl (lv_at hl 1 rfl) ?_
  refine go_i hH (va_run_V (As := [.int v1]) (rest := []) C0 hH lk_X11_173 (c_X11_isPage hAd k0 v1 hk0 σ rfl) (by decide) (ci := 11) hk0 (by decide) (cob_11 _ _ _) rfl rfl hl.1 rfl (Nat.le_of_ble_eq_true rfl) dX11_pairs_2) (fun H locs hH => ?_)
  refine lv_if_ne (tgt := 11) hx hb dX11_pairs_5 (by decide) (fun c1 => ?_) (fun c1 => ?_)
  · replace h := if_f h c1
    refine lv_aload_n hx hb dX11_pairs_11 rfl (lv_at hl 0 rfl) ?_
    obtain ⟨σ2, qσ2, h⟩ := ob_s h
    refine go_v hH (va_run_V (As := []) (rest := []) C0 hH lk_X11_196 (c_X11_look hAd k0 hk0 σ qσ2) (by decide) (ci := 11) hk0 (by decide) (cob_11 _ _ _) rfl rfl hl.1 rfl (Nat.le_of_ble_eq_true rfl) dX11_pairs_12) (fun H locs hH => ?_)
    refine lv_aload_n hx hb dX11_pairs_15 rfl (lv_at hl 0 rfl) ?_
    refine gf_X11_51 C0 hH hk0 dX11_pairs_16 ?_
    refine gf_X11_202 C0 hH (kf_11_6 hk0) dX11_pairs_19 ?_
    refine gf_X11_223 C0 hH (kf_4_0 (kf_11_6 hk0)) dX11_pairs_22 ?_
    refine gf_X11_264 C0 hH (kf_6_0 (kf_4_0 (kf_11_6 hk0))) dX11_pairs_25 ?_
    refine lv_iload_n hx hb dX11_pairs_28 rfl (lv_at hl 1 rfl) ?_
    obtain ⟨b3, h⟩ := gdx_s h
    refine r_iald C0 hH (n := 10) (kf_5_2 (kf_6_0 (kf_4_0 (kf_11_6 hk0)))) b3 dX11_pairs_29 ?_
    refine lv_iconst (v := 1) hx hb dX11_pairs_30 (by decide) ?_
    refine lv_iload_n hx hb dX11_pairs_31 rfl (lv_at hl 1 rfl) ?_
    refine lv_ishl hx hb dX11_pairs_32 ?_
    refine lv_iconst (v := (-1)) hx hb dX11_pairs_33 (by decide) ?_
    refine lv_ixor hx hb dX11_pairs_34 ?_
    refine lv_iand hx hb dX11_pairs_35 ?_
    exact r_iret C0 hH (pj1 h) (pj2 h) dX11_pairs_36
  · replace h := if_t h c1
    refine lv_ldc hx hb hown (hts _ qK_X11_84) dX11_pairs_8 ?_
    exact r_iret C0 hH (pj1 h) (pj2 h) dX11_pairs_10
theorem c_X11_pairs {l : Launch} {E : EnvT} (hAd : Ad E) (k0 : Nat) (v1 : Int32) (hk0 : kd k0 = 11) (σ : Mem) {r : Int32} {σ' : Mem} (h : X11_pairs k0 v1 σ = some (r, σ')) : Met l yX11_pairs (wsM yX11_pairs cX11_pairs 2 (some .int)) (rmD 19) (PcM E [.ref (ea E k0), .int v1] σ) (QiM E r σ') 0 0 (eA E) :=
  Met.ofM (by decide) (Nat.le_of_ble_eq_true rfl) (fun p e s m below meth c ls C0 hH hl => w_X11_pairs_b0 C0 k0 v1 hk0 hH hl h) hAd
set_option maxRecDepth 100000 in
set_option maxHeartbeats 4000000 in
theorem w_X11_who_b0 {r : Int32} {σ' : Mem} (C0 : Cx E p m c cX11_who 8 s args RX11 meth (some .int))  (k0 : Nat) (v1 : Int32) (v2 : Int32) (v3 : Int32) (v4 : Int32) (v5 : Int32) (hk0 : kd k0 = 11) {σ : Mem} {H : Heap} {locs : List Loc} {ls : Array Slot} (hH : Hs E s σ H locs) (hl : lv_has ls 8 [(0, .ref (ea E k0)), (1, .int v1), (2, .int v2), (3, .int v3), (4, .int v4), (5, .int v5)]) (h : X11_who_b0 k0 v1 v2 v3 v4 v5 σ = some (r, σ')) : W p l e (rmD 19) s m args below meth c H locs 0 0 (MQ below (QiM E r σ') args s 0 0 (eA E)) (F0 m 0 ls []) := by
  obtain ⟨⟨hx, hb, hml, hown, hts⟩, hr, hlocks, hF, hAd⟩ := id C0
  unfold X11_who_b0 at h
  refine lv_aload_n hx hb dX11_who_0 rfl (lv_at hl 0 rfl) ?_
  refine lv_iload_n hx hb dX11_who_1 rfl (lv_at hl 1 rfl) ?_
  refine go_i hH (va_run_V (As := [.int v1]) (rest := []) C0 hH lk_X11_173 (c_X11_isPage hAd k0 v1 hk0 σ rfl) (by decide) (ci := 11) hk0 (by decide) (cob_11 _ _ _) rfl rfl hl.1 rfl (Nat.le_of_ble_eq_true rfl) dX11_who_2) (fun H locs hH => ?_)
  refine lv_if_eq (tgt := 42) hx hb dX11_who_5 (by decide) (fun c1 => ?_) (fun c1 => ?_)
  · replace h := if_t h c1
    refine lv_ldc hx hb hown (hts _ qK_X11_84) dX11_who_42 ?_
    exact r_iret C0 hH (pj1 h) (pj2 h) dX11_who_44
  · replace h := if_f h c1
    refine lv_iload_n hx hb dX11_who_8 rfl (lv_at hl 2 rfl) ?_
    refine lv_if_lt (tgt := 42) hx hb dX11_who_9 (by decide) (fun c2 => ?_) (fun c2 => ?_)
    · replace h := if_t h c2
      refine lv_ldc hx hb hown (hts _ qK_X11_84) dX11_who_42 ?_
      exact r_iret C0 hH (pj1 h) (pj2 h) dX11_who_44
    · replace h := if_f h c2
      refine lv_iload_n hx hb dX11_who_12 rfl (lv_at hl 2 rfl) ?_
      refine lv_iconst (v := 5) hx hb dX11_who_13 (by decide) ?_
      refine lv_icmp_gt (tgt := 42) hx hb dX11_who_14 (by decide) (fun c3 => ?_) (fun c3 => ?_)
      · replace h := if_t h c3
        refine lv_ldc hx hb hown (hts _ qK_X11_84) dX11_who_42 ?_
        exact r_iret C0 hH (pj1 h) (pj2 h) dX11_who_44
      · replace h := if_f h c3
        refine lv_iload_n hx hb dX11_who_17 rfl (lv_at hl 3 rfl) ?_
        refine go_i hH (va_run_S (As := [.int v3]) (rest := []) C0 hH lk_X11_80 (c_X11_isRow hAd v3  σ rfl) (by decide) rfl hl.1 rfl (Nat.le_of_ble_eq_true rfl) dX11_who_18) (fun H locs hH => ?_)
        refine lv_if_eq (tgt := 42) hx hb dX11_who_21 (by decide) (fun c4 => ?_) (fun c4 => ?_)
        · replace h := if_t h c4
          refine lv_ldc hx hb hown (hts _ qK_X11_84) dX11_who_42 ?_
          exact r_iret C0 hH (pj1 h) (pj2 h) dX11_who_44
        · replace h := if_f h c4
          refine lv_iload hx hb dX11_who_24 (lv_at hl 5 rfl) ?_
          refine lv_iconst (v := 1) hx hb dX11_who_26 (by decide) ?_
          refine lv_icmp_lt (tgt := 42) hx hb dX11_who_27 (by decide) (fun c5 => ?_) (fun c5 => ?_)
          · replace h := if_t h c5
            refine lv_ldc hx hb hown (hts _ qK_X11_84) dX11_who_42 ?_
            exact r_iret C0 hH (pj1 h) (pj2 h) dX11_who_44
          · replace h := if_f h c5
            refine lv_iload hx hb dX11_who_30 (lv_at hl 5 rfl) ?_
            refine lv_aload_n hx hb dX11_who_32 rfl (lv_at hl 0 rfl) ?_
            refine gf_X11_33 C0 hH hk0 dX11_who_33 ?_
            refine gf_X11_146 C0 hH (kf_11_3 hk0) dX11_who_36 ?_
            refine lv_icmp_le (tgt := 45) hx hb dX11_who_39 (by decide) (fun c6 => ?_) (fun c6 => ?_)
            · replace h := if_t h c6
              refine lv_aload_n hx hb dX11_who_45 rfl (lv_at hl 0 rfl) ?_
              refine gf_X11_10 C0 hH hk0 dX11_who_46 ?_
              refine lv_iload_n hx hb dX11_who_49 rfl (lv_at hl 3 rfl) ?_
              obtain ⟨r7, qr7, h⟩ := ob_s h
              refine go_i hH (va_run_V (As := [.int v3]) (rest := []) C0 hH lk_X11_93 (c_X8_isMissing hAd (k0 + 1) v3 (kf_11_0 hk0) σ qr7) (by decide) (ci := 8) (kf_11_0 hk0) (by decide) (cob_8 _ _ _) rfl rfl hl.1 rfl (Nat.le_of_ble_eq_true rfl) dX11_who_50) (fun H locs hH => ?_)
              refine lv_if_eq (tgt := 62) hx hb dX11_who_53 (by decide) (fun c8 => ?_) (fun c8 => ?_)
              · replace h := if_t h c8
                refine lv_aload_n hx hb dX11_who_62 rfl (lv_at hl 0 rfl) ?_
                refine gf_X11_10 C0 hH hk0 dX11_who_63 ?_
                refine lv_iload_n hx hb dX11_who_66 rfl (lv_at hl 3 rfl) ?_
                refine lv_iload hx hb dX11_who_67 (lv_at hl 4 rfl) ?_
                refine lv_iload hx hb dX11_who_69 (lv_at hl 5 rfl) ?_
                obtain ⟨r9, qr9, h⟩ := ob_s h
                refine go_i hH (va_run_V (As := [.int v3, .int v4, .int v5]) (rest := []) C0 hH lk_X11_96 (c_X8_holds hAd (k0 + 1) v3 v4 v5 (kf_11_0 hk0) σ qr9) (by decide) (ci := 8) (kf_11_0 hk0) (by decide) (cob_8 _ _ _) rfl rfl hl.1 rfl (Nat.le_of_ble_eq_true rfl) dX11_who_71) (fun H locs hH => ?_)
                refine lv_if_ne (tgt := 83) hx hb dX11_who_74 (by decide) (fun c10 => ?_) (fun c10 => ?_)
                · replace h := if_f h c10
                  refine lv_aload_n hx hb dX11_who_83 rfl (lv_at hl 0 rfl) ?_
                  refine lv_iconst (v := 0) hx hb dX11_who_84 (by decide) ?_
                  refine pf_X11_77 C0 hH hk0 dX11_who_85 (fun H locs hH => ?_)
                  refine lv_aload_n hx hb dX11_who_88 rfl (lv_at hl 0 rfl) ?_
                  refine gf_X11_58 C0 hH hk0 dX11_who_89 ?_
                  refine lv_aload_n hx hb dX11_who_92 rfl (lv_at hl 0 rfl) ?_
                  refine gf_X11_10 C0 hH hk0 dX11_who_93 ?_
                  refine gf_X11_108 C0 hH (kf_11_0 hk0) dX11_who_96 ?_
                  refine lv_iload_n hx hb dX11_who_99 rfl (lv_at hl 3 rfl) ?_
                  obtain ⟨b11, h⟩ := gdx_s h
                  refine ra_14 C0 hH (kf_8_0 (kf_11_0 hk0)) b11 dX11_who_100 ?_
                  refine lv_iload hx hb dX11_who_101 (lv_at hl 4 rfl) ?_
                  refine lv_iload hx hb dX11_who_103 (lv_at hl 5 rfl) ?_
                  obtain ⟨σ12, qσ12, h⟩ := ob_s h
                  refine go_v hH (va_run_V (As := [.ref (ea E (((k0 + 1) + 1) + 1 + nc v3)), .int v4, .int v5]) (rest := []) C0 hH lk_X11_267 (c_X3_hear hAd (k0 + 211) (((k0 + 1) + 1) + 1 + nc v3) v4 v5 (kf_11_7 hk0) (ka_14 (kf_8_0 (kf_11_0 hk0)) b11) (wr σ k0 11 0) qσ12) (by decide) (ci := 3) (kf_11_7 hk0) (by decide) (cob_3 _ _ _) rfl rfl hl.1 rfl (Nat.le_of_ble_eq_true rfl) dX11_who_105) (fun H locs hH => ?_)
                  refine lv_iload_n hx hb dX11_who_108 rfl (lv_at hl 2 rfl) ?_
                  refine lv_iconst (v := 2) hx hb dX11_who_109 (by decide) ?_
                  refine lv_icmp_ne (tgt := 126) hx hb dX11_who_110 (by decide) (fun c13 => ?_) (fun c13 => ?_)
                  · replace h := if_f h c13
                    refine lv_iload_n hx hb dX11_who_126 rfl (lv_at hl 2 rfl) ?_
                    refine lv_iconst (v := 2) hx hb dX11_who_127 (by decide) ?_
                    refine lv_icmp_le (tgt := 147) hx hb dX11_who_128 (by decide) (fun c14 => ?_) (fun c14 => ?_)
                    · replace h := if_t h c14
                      refine lv_aload_n hx hb dX11_who_147 rfl (lv_at hl 0 rfl) ?_
                      refine gf_X11_58 C0 hH hk0 dX11_who_148 ?_
                      refine lv_aload_n hx hb dX11_who_151 rfl (lv_at hl 0 rfl) ?_
                      refine gf_X11_33 C0 hH hk0 dX11_who_152 ?_
                      obtain ⟨r15, σ16, qr15, h⟩ := ob2_s h
                      refine go_l hH (va_run_V (As := [.ref (ea E (k0 + 22))]) (rest := []) C0 hH lk_X11_278 (c_X3_limitsOf hAd (k0 + 211) (k0 + 22) (kf_11_7 hk0) (kf_11_3 hk0) σ12 qr15) (by decide) (ci := 3) (kf_11_7 hk0) (by decide) (cob_3 _ _ _) rfl rfl hl.1 rfl (Nat.le_of_ble_eq_true rfl) dX11_who_155) (fun H locs hH => ?_)
                      refine lv_lstore (lv' := [(6, .long r15), (0, .ref (ea E k0)), (1, .int v1), (2, .int v2), (3, .int v3), (4, .int v4), (5, .int v5)]) hx hb dX11_who_158 hl (by decide) rfl (fun ls hl => ?_)
                      refine lv_iload_n hx hb dX11_who_160 rfl (lv_at hl 3 rfl) ?_
                      refine lv_if_ne (tgt := 170) hx hb dX11_who_161 (by decide) (fun c17 => ?_) (fun c17 => ?_)
                      · replace h := if_f h c17
                        refine lv_lload hx hb dX11_who_170 (lv_at hl 0 rfl) ?_
                        refine lv_lconst (v := 0) hx hb dX11_who_172 (by decide) ?_
                        refine W.lcmp hx hb dX11_who_173 ?_
                        refine lv_if_ne (tgt := 182) hx hb dX11_who_174 (by decide) (fun c18 => ?_) (fun c18 => ?_)
                        · replace h := if_f h c18
                          refine lv_lload hx hb dX11_who_182 (lv_at hl 0 rfl) ?_
                          refine go_i hH (va_run_S (As := [.long r15]) (rest := []) C0 hH lk_X11_288 (c_J13_numberOfTrailingZeros_95d88 hAd r15  σ16 rfl) (by decide) rfl hl.1 rfl (Nat.le_of_ble_eq_true rfl) dX11_who_184) (fun H locs hH => ?_)
                          exact r_iret C0 hH (pj1 h) (pj2 h) dX11_who_187
                        · replace h := if_t h c18
                          refine lv_ldc hx hb hown (hts _ qK_X11_253) dX11_who_177 ?_
                          refine lv_goto (tgt := 187) hx hb dX11_who_179 (by decide) ?_
                          exact r_iret C0 hH (pj1 h) (pj2 h) dX11_who_187
                      · replace h := if_t h c17
                        refine lv_lload hx hb dX11_who_164 (lv_at hl 0 rfl) ?_
                        refine go_i hH (va_run_S (As := [.long r15]) (rest := []) C0 hH lk_X11_282 (c_J13_bitCount_95d88 hAd r15  σ16 rfl) (by decide) rfl hl.1 rfl (Nat.le_of_ble_eq_true rfl) dX11_who_166) (fun H locs hH => ?_)
                        exact r_iret C0 hH (pj1 h) (pj2 h) dX11_who_169
                    · replace h := if_f h c14
                      refine lv_aload_n hx hb dX11_who_131 rfl (lv_at hl 0 rfl) ?_
                      refine gf_X11_58 C0 hH hk0 dX11_who_132 ?_
                      refine lv_aload_n hx hb dX11_who_135 rfl (lv_at hl 0 rfl) ?_
                      refine gf_X11_33 C0 hH hk0 dX11_who_136 ?_
                      refine lv_iload_n hx hb dX11_who_139 rfl (lv_at hl 1 rfl) ?_
                      refine lv_iload_n hx hb dX11_who_140 rfl (lv_at hl 2 rfl) ?_
                      refine lv_iconst (v := 3) hx hb dX11_who_141 (by decide) ?_
                      refine lv_isub hx hb dX11_who_142 ?_
                      obtain ⟨r19, σ20, qr19, h⟩ := ob2_s h
                      refine go_i hH (va_run_V (As := [.ref (ea E (k0 + 22)), .int v1, .int (v2 - 3)]) (rest := []) C0 hH lk_X11_274 (c_X3_numbersOf hAd (k0 + 211) (k0 + 22) v1 (v2 - 3) (kf_11_7 hk0) (kf_11_3 hk0) σ12 qr19) (by decide) (ci := 3) (kf_11_7 hk0) (by decide) (cob_3 _ _ _) rfl rfl hl.1 rfl (Nat.le_of_ble_eq_true rfl) dX11_who_143) (fun H locs hH => ?_)
                      exact r_iret C0 hH (pj1 h) (pj2 h) dX11_who_146
                  · replace h := if_t h c13
                    refine lv_aload_n hx hb dX11_who_113 rfl (lv_at hl 0 rfl) ?_
                    refine gf_X11_58 C0 hH hk0 dX11_who_114 ?_
                    refine lv_aload_n hx hb dX11_who_117 rfl (lv_at hl 0 rfl) ?_
                    refine gf_X11_33 C0 hH hk0 dX11_who_118 ?_
                    refine lv_iload_n hx hb dX11_who_121 rfl (lv_at hl 1 rfl) ?_
                    obtain ⟨r21, σ22, qr21, h⟩ := ob2_s h
                    refine go_i hH (va_run_V (As := [.ref (ea E (k0 + 22)), .int v1]) (rest := []) C0 hH lk_X11_271 (c_X3_kindsOf hAd (k0 + 211) (k0 + 22) v1 (kf_11_7 hk0) (kf_11_3 hk0) σ12 qr21) (by decide) (ci := 3) (kf_11_7 hk0) (by decide) (cob_3 _ _ _) rfl rfl hl.1 rfl (Nat.le_of_ble_eq_true rfl) dX11_who_122) (fun H locs hH => ?_)
                    exact r_iret C0 hH (pj1 h) (pj2 h) dX11_who_125
                · replace h := if_t h c10
                  refine lv_aload_n hx hb dX11_who_77 rfl (lv_at hl 0 rfl) ?_
                  refine lv_iconst (v := 2) hx hb dX11_who_78 (by decide) ?_
                  obtain ⟨r23, σ24, qr23, h⟩ := ob2_s h
                  refine go_i hH (va_run_V (As := [.int 2]) (rest := []) C0 hH lk_X11_85 (c_X11_finds hAd k0 2 hk0 σ qr23) (by decide) (ci := 11) hk0 (by decide) (cob_11 _ _ _) rfl rfl hl.1 rfl (Nat.le_of_ble_eq_true rfl) dX11_who_79) (fun H locs hH => ?_)
                  exact r_iret C0 hH (pj1 h) (pj2 h) dX11_who_82
              · replace h := if_f h c8
                refine lv_aload_n hx hb dX11_who_56 rfl (lv_at hl 0 rfl) ?_
                refine lv_iconst (v := 1) hx hb dX11_who_57 (by decide) ?_
                obtain ⟨r25, σ26, qr25, h⟩ := ob2_s h
                refine go_i hH (va_run_V (As := [.int 1]) (rest := []) C0 hH lk_X11_85 (c_X11_finds hAd k0 1 hk0 σ qr25) (by decide) (ci := 11) hk0 (by decide) (cob_11 _ _ _) rfl rfl hl.1 rfl (Nat.le_of_ble_eq_true rfl) dX11_who_58) (fun H locs hH => ?_)
                exact r_iret C0 hH (pj1 h) (pj2 h) dX11_who_61
            · replace h := if_f h c6
              refine lv_ldc hx hb hown (hts _ qK_X11_84) dX11_who_42 ?_
              exact r_iret C0 hH (pj1 h) (pj2 h) dX11_who_44
theorem c_X11_who {l : Launch} {E : EnvT} (hAd : Ad E) (k0 : Nat) (v1 : Int32) (v2 : Int32) (v3 : Int32) (v4 : Int32) (v5 : Int32) (hk0 : kd k0 = 11) (σ : Mem) {r : Int32} {σ' : Mem} (h : X11_who k0 v1 v2 v3 v4 v5 σ = some (r, σ')) : Met l yX11_who (wsM yX11_who cX11_who 8 (some .int)) (rmD 19) (PcM E [.ref (ea E k0), .int v1, .int v2, .int v3, .int v4, .int v5] σ) (QiM E r σ') 0 0 (eA E) :=
  Met.ofM (by decide) (Nat.le_of_ble_eq_true rfl) (fun p e s m below meth c ls C0 hH hl => w_X11_who_b0 C0 k0 v1 v2 v3 v4 v5 hk0 hH hl h) hAd
set_option maxRecDepth 100000 in
set_option maxHeartbeats 4000000 in
theorem w_X11_sharedDivisor_b9 {r : Int64} (C0 : Cx E p m c cX11_sharedDivisor 11 s args RX11 meth (some .long)) (K9 : Int64 → Int64 → Int32 → Option Int64) (hK9 : ∀ (v4 : Int64) (v6 : Int64) (v8 : Int32)  (σ : Mem) (H : Heap) (locs : List Loc) (ls : Array Slot), Hs E s σ H locs → lv_has ls 11 [(4, .long v4), (6, .long v6), (8, .int v8)] → K9 v4 v6 v8 = some r → W p l e (rmD 0) s m args below meth c H locs 0 0 (MQ below (QlM E r σ) args s 0 0 (eA E)) (F0 m 9 ls []))  (v4 : Int64) (v6 : Int64) (v8 : Int32)  {σ : Mem} {H : Heap} {locs : List Loc} {ls : Array Slot} (hH : Hs E s σ H locs) (hl : lv_has ls 11 [(4, .long v4), (6, .long v6), (8, .int v8)]) (h : X11_sharedDivisor_b9 K9 v4 v6 v8 = some r) : W p l e (rmD 0) s m args below meth c H locs 0 0 (MQ below (QlM E r σ) args s 0 0 (eA E)) (F0 m 9 ls []) := by
  obtain ⟨⟨hx, hb, hml, hown, hts⟩, hr, hlocks, hF, hAd⟩ := id C0
  unfold X11_sharedDivisor_b9 at h
  refine lv_iload hx hb dX11_sharedDivisor_9 (lv_at hl 2 rfl) ?_
  refine lv_bipush (v := 100) hx hb dX11_sharedDivisor_11 (by decide) ?_
  refine lv_icmp_ge (tgt := 44) hx hb dX11_sharedDivisor_13 (by decide) (fun c1 => ?_) (fun c1 => ?_)
  · replace h := if_t h c1
    refine lv_lload hx hb dX11_sharedDivisor_44 (lv_at hl 0 rfl) ?_
    exact r_lret C0 hH (Option.some.inj h) rfl dX11_sharedDivisor_46
  · replace h := if_f h c1
    refine lv_lload hx hb dX11_sharedDivisor_16 (lv_at hl 1 rfl) ?_
    refine lv_lconst (v := 0) hx hb dX11_sharedDivisor_18 (by decide) ?_
    refine W.lcmp hx hb dX11_sharedDivisor_19 ?_
    refine lv_if_le (tgt := 44) hx hb dX11_sharedDivisor_20 (by decide) (fun c2 => ?_) (fun c2 => ?_)
    · replace h := if_t h c2
      refine lv_lload hx hb dX11_sharedDivisor_44 (lv_at hl 0 rfl) ?_
      exact r_lret C0 hH (Option.some.inj h) rfl dX11_sharedDivisor_46
    · replace h := if_f h c2
      refine lv_lload hx hb dX11_sharedDivisor_23 (lv_at hl 0 rfl) ?_
      refine lv_lload hx hb dX11_sharedDivisor_25 (lv_at hl 1 rfl) ?_
      obtain ⟨z3, h⟩ := gdl_s h
      refine lv_lrem hx hb dX11_sharedDivisor_27 z3 ?_
      obtain ⟨x4, ex4, h⟩ := letv_s h
      refine topl_of ex4 ?_
      refine lv_lstore (lv' := [(9, .long x4), (4, .long v4), (6, .long v6), (8, .int v8)]) hx hb dX11_sharedDivisor_28 hl (by decide) rfl (fun ls hl => ?_)
      refine lv_lload hx hb dX11_sharedDivisor_30 (lv_at hl 2 rfl) ?_
      refine lv_lstore (lv' := [(4, .long v6), (9, .long x4), (6, .long v6), (8, .int v8)]) hx hb dX11_sharedDivisor_32 hl (by decide) rfl (fun ls hl => ?_)
      refine lv_lload hx hb dX11_sharedDivisor_34 (lv_at hl 1 rfl) ?_
      refine lv_lstore (lv' := [(6, .long x4), (4, .long v6), (9, .long x4), (8, .int v8)]) hx hb dX11_sharedDivisor_36 hl (by decide) rfl (fun ls hl => ?_)
      refine lv_iinc (v := v8 + 1) (lv' := [(8, .int (v8 + 1)), (6, .long x4), (4, .long v6), (9, .long x4)]) hx hb dX11_sharedDivisor_38 hl (k := 3) rfl rfl (by decide) rfl (fun ls hl => ?_)
      refine lv_goto (tgt := 9) hx hb dX11_sharedDivisor_41 (by decide) ?_
      exact hK9 v6 x4 (v8 + 1)  _ _ _ _ hH (lv_sub hl [2, 1, 0] rfl) h
set_option maxRecDepth 100000 in
set_option maxHeartbeats 4000000 in
theorem w_X11_sharedDivisor_l9 {r : Int64} (C0 : Cx E p m c cX11_sharedDivisor 11 s args RX11 meth (some .long))  (n : Nat) : ∀ (v4 : Int64) (v6 : Int64) (v8 : Int32)  (σ : Mem) (H : Heap) (locs : List Loc) (ls : Array Slot), Hs E s σ H locs → lv_has ls 11 [(4, .long v4), (6, .long v6), (8, .int v8)] → X11_sharedDivisor_l9 n v4 v6 v8 = some r → W p l e (rmD 0) s m args below meth c H locs 0 0 (MQ below (QlM E r σ) args s 0 0 (eA E)) (F0 m 9 ls []) := by
  induction n with
  | zero =>
    intro v4 v6 v8  σ H locs ls hH hl h
    cases h
  | succ n ih =>
    intro v4 v6 v8  σ H locs ls hH hl h
    exact w_X11_sharedDivisor_b9 C0 (X11_sharedDivisor_l9 n)  ih v4 v6 v8  hH hl h
set_option maxRecDepth 100000 in
set_option maxHeartbeats 4000000 in
theorem w_X11_sharedDivisor_b0 {r : Int64} (C0 : Cx E p m c cX11_sharedDivisor 11 s args RX11 meth (some .long))  (v0 : Int64) (v2 : Int64)  {σ : Mem} {H : Heap} {locs : List Loc} {ls : Array Slot} (hH : Hs E s σ H locs) (hl : lv_has ls 11 [(0, .long v0), (2, .long v2)]) (h : X11_sharedDivisor_b0 v0 v2 = some r) : W p l e (rmD 0) s m args below meth c H locs 0 0 (MQ below (QlM E r σ) args s 0 0 (eA E)) (F0 m 0 ls []) := by
  obtain ⟨⟨hx, hb, hml, hown, hts⟩, hr, hlocks, hF, hAd⟩ := id C0
  unfold X11_sharedDivisor_b0 at h
  refine lv_lload_n hx hb dX11_sharedDivisor_0 rfl (lv_at hl 1 rfl) ?_
  refine lv_lstore (lv' := [(4, .long v2), (0, .long v0), (2, .long v2)]) hx hb dX11_sharedDivisor_1 hl (by decide) rfl (fun ls hl => ?_)
  refine lv_lload_n hx hb dX11_sharedDivisor_3 rfl (lv_at hl 1 rfl) ?_
  refine lv_lstore (lv' := [(6, .long v0), (4, .long v2), (0, .long v0), (2, .long v2)]) hx hb dX11_sharedDivisor_4 hl (by decide) rfl (fun ls hl => ?_)
  refine lv_iconst (v := 0) hx hb dX11_sharedDivisor_6 (by decide) ?_
  refine lv_istore (lv' := [(8, .int 0), (6, .long v0), (4, .long v2), (0, .long v0), (2, .long v2)]) hx hb dX11_sharedDivisor_7 hl (by decide) rfl (fun ls hl => ?_)
  exact w_X11_sharedDivisor_l9 C0  FU v2 v0 0  _ _ _ _ hH (lv_sub hl [2, 1, 0] rfl) h
theorem c_X11_sharedDivisor {l : Launch} {E : EnvT} (hAd : Ad E) (v0 : Int64) (v2 : Int64)  (σ : Mem) {r : Int64} (h : X11_sharedDivisor v0 v2 = some r) : Met l yX11_sharedDivisor (wsM yX11_sharedDivisor cX11_sharedDivisor 11 (some .long)) (rmD 0) (PcM E [.long v0, .long v2] σ) (QlM E r σ) 0 0 (eA E) :=
  Met.ofM (by decide) (Nat.le_of_ble_eq_true rfl) (fun p e s m below meth c ls C0 hH hl => w_X11_sharedDivisor_b0 C0 v0 v2  hH hl h) hAd
set_option maxRecDepth 100000 in
set_option maxHeartbeats 4000000 in
theorem w_X11_lost_b0 {r : Int64} {σ' : Mem} (C0 : Cx E p m c cX11_lost 10 s args RX11 meth (some .long))  (k0 : Nat) (v1 : Int32) (v2 : Int32) (v3 : Int32) (hk0 : kd k0 = 11) {σ : Mem} {H : Heap} {locs : List Loc} {ls : Array Slot} (hH : Hs E s σ H locs) (hl : lv_has ls 10 [(0, .ref (ea E k0)), (1, .int v1), (2, .int v2), (3, .int v3)]) (h : X11_lost_b0 k0 v1 v2 v3 σ = some (r, σ')) : W p l e (rmD 6) s m args below meth c H locs 0 0 (MQ below (QlM E r σ') args s 0 0 (eA E)) (F0 m 0 ls []) := by
  obtain ⟨⟨hx, hb, hml, hown, hts⟩, hr, hlocks, hF, hAd⟩ := id C0
  unfold X11_lost_b0 at h
  refine lv_aload_n hx hb dX11_lost_0 rfl (lv_at hl 0 rfl) ?_
  refine go_i hH (va_run_V (As := []) (rest := []) C0 hH lk_X11_156 (c_X11_isWithoutBook hAd k0 hk0 σ rfl) (by decide) (ci := 11) hk0 (by decide) (cob_11 _ _ _) rfl rfl hl.1 rfl (Nat.le_of_ble_eq_true rfl) dX11_lost_1) (fun H locs hH => ?_)
  refine lv_if_eq (tgt := 11) hx hb dX11_lost_4 (by decide) (fun c1 => ?_) (fun c1 => ?_)
  · replace h := if_t h c1
    refine lv_iload_n hx hb dX11_lost_11 rfl (lv_at hl 1 rfl) ?_
    refine lv_if_lt (tgt := 40) hx hb dX11_lost_12 (by decide) (fun c2 => ?_) (fun c2 => ?_)
    · replace h := if_t h c2
      refine lv_ldc2 hx hb hown (hts _ qL_X11_293) dX11_lost_40 ?_
      exact r_lret C0 hH (pj1 h) (pj2 h) dX11_lost_43
    · replace h := if_f h c2
      refine lv_iload_n hx hb dX11_lost_15 rfl (lv_at hl 1 rfl) ?_
      refine lv_bipush (v := 10) hx hb dX11_lost_16 (by decide) ?_
      refine lv_icmp_gt (tgt := 40) hx hb dX11_lost_18 (by decide) (fun c3 => ?_) (fun c3 => ?_)
      · replace h := if_t h c3
        refine lv_ldc2 hx hb hown (hts _ qL_X11_293) dX11_lost_40 ?_
        exact r_lret C0 hH (pj1 h) (pj2 h) dX11_lost_43
      · replace h := if_f h c3
        refine lv_iload_n hx hb dX11_lost_21 rfl (lv_at hl 2 rfl) ?_
        refine lv_if_lt (tgt := 40) hx hb dX11_lost_22 (by decide) (fun c4 => ?_) (fun c4 => ?_)
        · replace h := if_t h c4
          refine lv_ldc2 hx hb hown (hts _ qL_X11_293) dX11_lost_40 ?_
          exact r_lret C0 hH (pj1 h) (pj2 h) dX11_lost_43
        · replace h := if_f h c4
          refine lv_iload_n hx hb dX11_lost_25 rfl (lv_at hl 2 rfl) ?_
          refine lv_bipush (v := 10) hx hb dX11_lost_26 (by decide) ?_
          refine lv_icmp_gt (tgt := 40) hx hb dX11_lost_28 (by decide) (fun c5 => ?_) (fun c5 => ?_)
          · replace h := if_t h c5
            refine lv_ldc2 hx hb hown (hts _ qL_X11_293) dX11_lost_40 ?_
            exact r_lret C0 hH (pj1 h) (pj2 h) dX11_lost_43
          · replace h := if_f h c5
            refine lv_iload_n hx hb dX11_lost_31 rfl (lv_at hl 3 rfl) ?_
            refine lv_if_lt (tgt := 40) hx hb dX11_lost_32 (by decide) (fun c6 => ?_) (fun c6 => ?_)
            · replace h := if_t h c6
              refine lv_ldc2 hx hb hown (hts _ qL_X11_293) dX11_lost_40 ?_
              exact r_lret C0 hH (pj1 h) (pj2 h) dX11_lost_43
            · replace h := if_f h c6
              refine lv_iload_n hx hb dX11_lost_35 rfl (lv_at hl 3 rfl) ?_
              refine lv_iconst (v := 1) hx hb dX11_lost_36 (by decide) ?_
              refine lv_icmp_le (tgt := 44) hx hb dX11_lost_37 (by decide) (fun c7 => ?_) (fun c7 => ?_)
              · replace h := if_t h c7
                refine lv_aload_n hx hb dX11_lost_44 rfl (lv_at hl 0 rfl) ?_
                refine gf_X11_58 C0 hH hk0 dX11_lost_45 ?_
                refine lv_aload_n hx hb dX11_lost_48 rfl (lv_at hl 0 rfl) ?_
                refine gf_X11_33 C0 hH hk0 dX11_lost_49 ?_
                refine lv_iload_n hx hb dX11_lost_52 rfl (lv_at hl 1 rfl) ?_
                refine lv_iload_n hx hb dX11_lost_53 rfl (lv_at hl 2 rfl) ?_
                obtain ⟨r8, σ9, qr8, h⟩ := ob2_s h
                refine go_l hH (va_run_V (As := [.ref (ea E (k0 + 22)), .int v1, .int v2]) (rest := []) C0 hH lk_X11_295 (c_X3_goodCases hAd (k0 + 211) (k0 + 22) v1 v2 (kf_11_7 hk0) (kf_11_3 hk0) σ qr8) (by decide) (ci := 3) (kf_11_7 hk0) (by decide) (cob_3 _ _ _) rfl rfl hl.1 rfl (Nat.le_of_ble_eq_true rfl) dX11_lost_54) (fun H locs hH => ?_)
                refine lv_lstore (lv' := [(4, .long r8), (0, .ref (ea E k0)), (1, .int v1), (2, .int v2), (3, .int v3)]) hx hb dX11_lost_57 hl (by decide) rfl (fun ls hl => ?_)
                refine lv_bipush (v := 10) hx hb dX11_lost_59 (by decide) ?_
                refine lv_aload_n hx hb dX11_lost_61 rfl (lv_at hl 1 rfl) ?_
                refine gf_X11_33 C0 hH hk0 dX11_lost_62 ?_
                refine gf_X11_146 C0 hH (kf_11_3 hk0) dX11_lost_65 ?_
                obtain ⟨r10, qr10, h⟩ := ob_s h
                refine go_l hH (va_run_S (As := [.int 10, .int (σ9 (k0 + 22) 0)]) (rest := []) C0 hH lk_X11_299 (c_X11_power hAd 10 (σ9 (k0 + 22) 0)  σ9 qr10) (by decide) rfl hl.1 rfl (Nat.le_of_ble_eq_true rfl) dX11_lost_68) (fun H locs hH => ?_)
                refine lv_lstore (lv' := [(6, .long r10), (4, .long r8), (0, .ref (ea E k0)), (1, .int v1), (2, .int v2), (3, .int v3)]) hx hb dX11_lost_71 hl (by decide) rfl (fun ls hl => ?_)
                refine lv_lload hx hb dX11_lost_73 (lv_at hl 1 rfl) ?_
                refine lv_lload hx hb dX11_lost_75 (lv_at hl 0 rfl) ?_
                obtain ⟨r11, qr11, h⟩ := ob_s h
                refine go_l hH (va_run_S (As := [.long r8, .long r10]) (rest := []) C0 hH lk_X11_303 (c_X11_sharedDivisor hAd r8 r10  σ9 qr11) (by decide) rfl hl.1 rfl (Nat.le_of_ble_eq_true rfl) dX11_lost_77) (fun H locs hH => ?_)
                refine lv_lstore (lv' := [(8, .long r11), (6, .long r10), (4, .long r8), (0, .ref (ea E k0)), (1, .int v1), (2, .int v2), (3, .int v3)]) hx hb dX11_lost_80 hl (by decide) rfl (fun ls hl => ?_)
                refine lv_lload hx hb dX11_lost_82 (lv_at hl 0 rfl) ?_
                refine lv_lconst (v := 1) hx hb dX11_lost_84 (by decide) ?_
                refine W.lcmp hx hb dX11_lost_85 ?_
                refine lv_if_ge (tgt := 92) hx hb dX11_lost_86 (by decide) (fun c12 => ?_) (fun c12 => ?_)
                · replace h := if_t h c12
                  refine lv_iload_n hx hb dX11_lost_92 rfl (lv_at hl 6 rfl) ?_
                  refine lv_if_ne (tgt := 101) hx hb dX11_lost_93 (by decide) (fun c13 => ?_) (fun c13 => ?_)
                  · replace h := if_f h c13
                    refine lv_lload hx hb dX11_lost_101 (lv_at hl 1 rfl) ?_
                    refine lv_lload hx hb dX11_lost_103 (lv_at hl 0 rfl) ?_
                    obtain ⟨z14, h⟩ := gdl_s h
                    refine lv_ldiv hx hb dX11_lost_105 z14 ?_
                    exact r_lret C0 hH (pj1 h) (pj2 h) dX11_lost_106
                  · replace h := if_t h c13
                    refine lv_lload hx hb dX11_lost_96 (lv_at hl 2 rfl) ?_
                    refine lv_goto (tgt := 103) hx hb dX11_lost_98 (by decide) ?_
                    refine lv_lload hx hb dX11_lost_103 (lv_at hl 0 rfl) ?_
                    obtain ⟨z15, h⟩ := gdl_s h
                    refine lv_ldiv hx hb dX11_lost_105 z15 ?_
                    exact r_lret C0 hH (pj1 h) (pj2 h) dX11_lost_106
                · replace h := if_f h c12
                  refine lv_iload_n hx hb dX11_lost_89 rfl (lv_at hl 6 rfl) ?_
                  refine lv_i2l (v := Int32.toInt64 v3) hx hb dX11_lost_90 rfl ?_
                  exact r_lret C0 hH (pj1 h) (pj2 h) dX11_lost_91
              · replace h := if_f h c7
                refine lv_ldc2 hx hb hown (hts _ qL_X11_293) dX11_lost_40 ?_
                exact r_lret C0 hH (pj1 h) (pj2 h) dX11_lost_43
  · replace h := if_f h c1
    refine lv_ldc2 hx hb hown (hts _ qL_X11_291) dX11_lost_7 ?_
    exact r_lret C0 hH (pj1 h) (pj2 h) dX11_lost_10
theorem c_X11_lost {l : Launch} {E : EnvT} (hAd : Ad E) (k0 : Nat) (v1 : Int32) (v2 : Int32) (v3 : Int32) (hk0 : kd k0 = 11) (σ : Mem) {r : Int64} {σ' : Mem} (h : X11_lost k0 v1 v2 v3 σ = some (r, σ')) : Met l yX11_lost (wsM yX11_lost cX11_lost 10 (some .long)) (rmD 6) (PcM E [.ref (ea E k0), .int v1, .int v2, .int v3] σ) (QlM E r σ') 0 0 (eA E) :=
  Met.ofM (by decide) (Nat.le_of_ble_eq_true rfl) (fun p e s m below meth c ls C0 hH hl => w_X11_lost_b0 C0 k0 v1 v2 v3 hk0 hH hl h) hAd
set_option maxRecDepth 100000 in
set_option maxHeartbeats 4000000 in
theorem w_X11_drawn_b0 {r : Int32} {σ' : Mem} (C0 : Cx E p m c cX11_drawn 5 s args RX11 meth (some .int))  (k0 : Nat) (v1 : Int32) (v2 : Int32) (v3 : Int32) (hk0 : kd k0 = 11) {σ : Mem} {H : Heap} {locs : List Loc} {ls : Array Slot} (hH : Hs E s σ H locs) (hl : lv_has ls 5 [(0, .ref (ea E k0)), (1, .int v1), (2, .int v2), (3, .int v3)]) (h : X11_drawn_b0 k0 v1 v2 v3 σ = some (r, σ')) : W p l e (rmD 18) s m args below meth c H locs 0 0 (MQ below (QiM E r σ') args s 0 0 (eA E)) (F0 m 0 ls []) := by
  obtain ⟨⟨hx, hb, hml, hown, hts⟩, hr, hlocks, hF, hAd⟩ := id C0
  unfold X11_drawn_b0 at h
  refine lv_aload_n hx hb dX11_drawn_0 rfl (lv_at hl 0 rfl) ?_
  refine go_i hH (va_run_V (As := []) (rest := []) C0 hH lk_X11_156 (c_X11_isWithoutBook hAd k0 hk0 σ rfl) (by decide) (ci := 11) hk0 (by decide) (cob_11 _ _ _) rfl rfl hl.1 rfl (Nat.le_of_ble_eq_true rfl) dX11_drawn_1) (fun H locs hH => ?_)
  refine lv_if_eq (tgt := 10) hx hb dX11_drawn_4 (by decide) (fun c1 => ?_) (fun c1 => ?_)
  · replace h := if_t h c1
    refine lv_iload_n hx hb dX11_drawn_10 rfl (lv_at hl 1 rfl) ?_
    refine lv_if_lt (tgt := 41) hx hb dX11_drawn_11 (by decide) (fun c2 => ?_) (fun c2 => ?_)
    · replace h := if_t h c2
      refine lv_ldc hx hb hown (hts _ qK_X11_84) dX11_drawn_41 ?_
      exact r_iret C0 hH (pj1 h) (pj2 h) dX11_drawn_43
    · replace h := if_f h c2
      refine lv_iload_n hx hb dX11_drawn_14 rfl (lv_at hl 1 rfl) ?_
      refine lv_bipush (v := 20) hx hb dX11_drawn_15 (by decide) ?_
      refine lv_icmp_gt (tgt := 41) hx hb dX11_drawn_17 (by decide) (fun c3 => ?_) (fun c3 => ?_)
      · replace h := if_t h c3
        refine lv_ldc hx hb hown (hts _ qK_X11_84) dX11_drawn_41 ?_
        exact r_iret C0 hH (pj1 h) (pj2 h) dX11_drawn_43
      · replace h := if_f h c3
        refine lv_iload_n hx hb dX11_drawn_20 rfl (lv_at hl 2 rfl) ?_
        refine lv_iconst (v := 1) hx hb dX11_drawn_21 (by decide) ?_
        refine lv_icmp_lt (tgt := 41) hx hb dX11_drawn_22 (by decide) (fun c4 => ?_) (fun c4 => ?_)
        · replace h := if_t h c4
          refine lv_ldc hx hb hown (hts _ qK_X11_84) dX11_drawn_41 ?_
          exact r_iret C0 hH (pj1 h) (pj2 h) dX11_drawn_43
        · replace h := if_f h c4
          refine lv_iload_n hx hb dX11_drawn_25 rfl (lv_at hl 2 rfl) ?_
          refine lv_ldcw hx hb hown (hts _ qK_X11_307) dX11_drawn_26 ?_
          refine lv_icmp_gt (tgt := 41) hx hb dX11_drawn_29 (by decide) (fun c5 => ?_) (fun c5 => ?_)
          · replace h := if_t h c5
            refine lv_ldc hx hb hown (hts _ qK_X11_84) dX11_drawn_41 ?_
            exact r_iret C0 hH (pj1 h) (pj2 h) dX11_drawn_43
          · replace h := if_f h c5
            refine lv_iload_n hx hb dX11_drawn_32 rfl (lv_at hl 3 rfl) ?_
            refine lv_if_lt (tgt := 41) hx hb dX11_drawn_33 (by decide) (fun c6 => ?_) (fun c6 => ?_)
            · replace h := if_t h c6
              refine lv_ldc hx hb hown (hts _ qK_X11_84) dX11_drawn_41 ?_
              exact r_iret C0 hH (pj1 h) (pj2 h) dX11_drawn_43
            · replace h := if_f h c6
              refine lv_iload_n hx hb dX11_drawn_36 rfl (lv_at hl 3 rfl) ?_
              refine lv_iconst (v := 1) hx hb dX11_drawn_37 (by decide) ?_
              refine lv_icmp_le (tgt := 44) hx hb dX11_drawn_38 (by decide) (fun c7 => ?_) (fun c7 => ?_)
              · replace h := if_t h c7
                refine lv_aload_n hx hb dX11_drawn_44 rfl (lv_at hl 0 rfl) ?_
                refine gf_X11_58 C0 hH hk0 dX11_drawn_45 ?_
                refine lv_aload_n hx hb dX11_drawn_48 rfl (lv_at hl 0 rfl) ?_
                refine gf_X11_33 C0 hH hk0 dX11_drawn_49 ?_
                refine lv_iload_n hx hb dX11_drawn_52 rfl (lv_at hl 1 rfl) ?_
                refine lv_iload_n hx hb dX11_drawn_53 rfl (lv_at hl 2 rfl) ?_
                obtain ⟨r8, σ9, qr8, h⟩ := ob2_s h
                refine go_i hH (va_run_V (As := [.ref (ea E (k0 + 22)), .int v1, .int v2]) (rest := []) C0 hH lk_X11_308 (c_X3_draw hAd (k0 + 211) (k0 + 22) v1 v2 (kf_11_7 hk0) (kf_11_3 hk0) σ qr8) (by decide) (ci := 3) (kf_11_7 hk0) (by decide) (cob_3 _ _ _) rfl rfl hl.1 rfl (Nat.le_of_ble_eq_true rfl) dX11_drawn_54) (fun H locs hH => ?_)
                refine lv_istore (lv' := [(4, .int r8), (0, .ref (ea E k0)), (1, .int v1), (2, .int v2), (3, .int v3)]) hx hb dX11_drawn_57 hl (by decide) rfl (fun ls hl => ?_)
                refine lv_iload_n hx hb dX11_drawn_59 rfl (lv_at hl 4 rfl) ?_
                refine lv_if_ne (tgt := 68) hx hb dX11_drawn_60 (by decide) (fun c10 => ?_) (fun c10 => ?_)
                · replace h := if_f h c10
                  refine lv_aload_n hx hb dX11_drawn_68 rfl (lv_at hl 1 rfl) ?_
                  refine gf_X11_58 C0 hH hk0 dX11_drawn_69 ?_
                  obtain ⟨r11, qr11, h⟩ := ob_s h
                  refine go_i hH (va_run_V (As := []) (rest := []) C0 hH lk_X11_311 (c_X3_spreadOfAll hAd (k0 + 211) (kf_11_7 hk0) σ9 qr11) (by decide) (ci := 3) (kf_11_7 hk0) (by decide) (cob_3 _ _ _) rfl rfl hl.1 rfl (Nat.le_of_ble_eq_true rfl) dX11_drawn_72) (fun H locs hH => ?_)
                  exact r_iret C0 hH (pj1 h) (pj2 h) dX11_drawn_75
                · replace h := if_t h c10
                  refine lv_iload hx hb dX11_drawn_63 (lv_at hl 0 rfl) ?_
                  refine lv_goto (tgt := 75) hx hb dX11_drawn_65 (by decide) ?_
                  exact r_iret C0 hH (pj1 h) (pj2 h) dX11_drawn_75
              · replace h := if_f h c7
                refine lv_ldc hx hb hown (hts _ qK_X11_84) dX11_drawn_41 ?_
                exact r_iret C0 hH (pj1 h) (pj2 h) dX11_drawn_43
  · replace h := if_f h c1
    refine lv_ldc hx hb hown (hts _ qK_X11_152) dX11_drawn_7 ?_
    exact r_iret C0 hH (pj1 h) (pj2 h) dX11_drawn_9
theorem c_X11_drawn {l : Launch} {E : EnvT} (hAd : Ad E) (k0 : Nat) (v1 : Int32) (v2 : Int32) (v3 : Int32) (hk0 : kd k0 = 11) (σ : Mem) {r : Int32} {σ' : Mem} (h : X11_drawn k0 v1 v2 v3 σ = some (r, σ')) : Met l yX11_drawn (wsM yX11_drawn cX11_drawn 5 (some .int)) (rmD 18) (PcM E [.ref (ea E k0), .int v1, .int v2, .int v3] σ) (QiM E r σ') 0 0 (eA E) :=
  Met.ofM (by decide) (Nat.le_of_ble_eq_true rfl) (fun p e s m below meth c ls C0 hH hl => w_X11_drawn_b0 C0 k0 v1 v2 v3 hk0 hH hl h) hAd
set_option maxRecDepth 100000 in
set_option maxHeartbeats 4000000 in
theorem w_X11_image_b0 {r : Int32} {σ' : Mem} (C0 : Cx E p m c cX11_image 2 s args RX11 meth (some .int))  (k0 : Nat) (v1 : Int32) (hk0 : kd k0 = 11) {σ : Mem} {H : Heap} {locs : List Loc} {ls : Array Slot} (hH : Hs E s σ H locs) (hl : lv_has ls 2 [(0, .ref (ea E k0)), (1, .int v1)]) (h : X11_image_b0 k0 v1 σ = some (r, σ')) : W p l e (rmD 2) s m args below meth c H locs 0 0 (MQ below (QiM E r σ') args s 0 0 (eA E)) (F0 m 0 ls []) := by
  obtain ⟨⟨hx, hb, hml, hown, hts⟩, hr, hlocks, hF, hAd⟩ := id C0
  unfold X11_image_b0 at h
  refine lv_iload_n hx hb dX11_image_0 rfl (lv_at hl 1 rfl) ?_
  refine lv_if_lt (tgt := 9) hx hb dX11_image_1 (by decide) (fun c1 => ?_) (fun c1 => ?_)
  · replace h := if_t h c1
    refine lv_ldc hx hb hown (hts _ qK_X11_84) dX11_image_9 ?_
    exact r_iret C0 hH (pj1 h) (pj2 h) dX11_image_11
  · replace h := if_f h c1
    refine lv_iload_n hx hb dX11_image_4 rfl (lv_at hl 1 rfl) ?_
    refine lv_iconst (v := 2) hx hb dX11_image_5 (by decide) ?_
    refine lv_icmp_lt (tgt := 12) hx hb dX11_image_6 (by decide) (fun c2 => ?_) (fun c2 => ?_)
    · replace h := if_t h c2
      refine lv_aload_n hx hb dX11_image_12 rfl (lv_at hl 0 rfl) ?_
      refine go_i hH (va_run_V (As := []) (rest := []) C0 hH lk_X11_156 (c_X11_isWithoutBook hAd k0 hk0 σ rfl) (by decide) (ci := 11) hk0 (by decide) (cob_11 _ _ _) rfl rfl hl.1 rfl (Nat.le_of_ble_eq_true rfl) dX11_image_13) (fun H locs hH => ?_)
      refine lv_if_eq (tgt := 22) hx hb dX11_image_16 (by decide) (fun c3 => ?_) (fun c3 => ?_)
      · replace h := if_t h c3
        refine lv_aload_n hx hb dX11_image_22 rfl (lv_at hl 0 rfl) ?_
        refine gf_X11_44 C0 hH hk0 dX11_image_23 ?_
        refine lv_iload_n hx hb dX11_image_26 rfl (lv_at hl 1 rfl) ?_
        obtain ⟨b4, h⟩ := gdx_s h
        refine ra_17 C0 hH (kf_11_5 hk0) b4 dX11_image_27 ?_
        refine lv_aload_n hx hb dX11_image_28 rfl (lv_at hl 0 rfl) ?_
        refine gf_X11_33 C0 hH hk0 dX11_image_29 ?_
        obtain ⟨σ5, qσ5, h⟩ := ob_s h
        refine go_v hH (va_run_V (As := [.ref (ea E (k0 + 22))]) (rest := []) C0 hH lk_X11_314 (c_X2_becomeLike hAd ((k0 + 174) + 65 + 6 * nc v1) (k0 + 22) (ka_17 (kf_11_5 hk0) b4) (kf_11_3 hk0) σ qσ5) (by decide) (ci := 2) (ka_17 (kf_11_5 hk0) b4) (by decide) (cob_2 _ _ _) rfl rfl hl.1 rfl (Nat.le_of_ble_eq_true rfl) dX11_image_32) (fun H locs hH => ?_)
        refine lv_iconst (v := 1) hx hb dX11_image_35 (by decide) ?_
        exact r_iret C0 hH (pj1 h) (pj2 h) dX11_image_36
      · replace h := if_f h c3
        refine lv_ldc hx hb hown (hts _ qK_X11_152) dX11_image_19 ?_
        exact r_iret C0 hH (pj1 h) (pj2 h) dX11_image_21
    · replace h := if_f h c2
      refine lv_ldc hx hb hown (hts _ qK_X11_84) dX11_image_9 ?_
      exact r_iret C0 hH (pj1 h) (pj2 h) dX11_image_11
theorem c_X11_image {l : Launch} {E : EnvT} (hAd : Ad E) (k0 : Nat) (v1 : Int32) (hk0 : kd k0 = 11) (σ : Mem) {r : Int32} {σ' : Mem} (h : X11_image k0 v1 σ = some (r, σ')) : Met l yX11_image (wsM yX11_image cX11_image 2 (some .int)) (rmD 2) (PcM E [.ref (ea E k0), .int v1] σ) (QiM E r σ') 0 0 (eA E) :=
  Met.ofM (by decide) (Nat.le_of_ble_eq_true rfl) (fun p e s m below meth c ls C0 hH hl => w_X11_image_b0 C0 k0 v1 hk0 hH hl h) hAd
set_option maxRecDepth 100000 in
set_option maxHeartbeats 4000000 in
theorem w_X11_restore_b0 {r : Int32} {σ' : Mem} (C0 : Cx E p m c cX11_restore 2 s args RX11 meth (some .int))  (k0 : Nat) (v1 : Int32) (hk0 : kd k0 = 11) {σ : Mem} {H : Heap} {locs : List Loc} {ls : Array Slot} (hH : Hs E s σ H locs) (hl : lv_has ls 2 [(0, .ref (ea E k0)), (1, .int v1)]) (h : X11_restore_b0 k0 v1 σ = some (r, σ')) : W p l e (rmD 3) s m args below meth c H locs 0 0 (MQ below (QiM E r σ') args s 0 0 (eA E)) (F0 m 0 ls []) := by
  obtain ⟨⟨hx, hb, hml, hown, hts⟩, hr, hlocks, hF, hAd⟩ := id C0
  unfold X11_restore_b0 at h
  refine lv_iload_n hx hb dX11_restore_0 rfl (lv_at hl 1 rfl) ?_
  refine lv_if_lt (tgt := 9) hx hb dX11_restore_1 (by decide) (fun c1 => ?_) (fun c1 => ?_)
  · replace h := if_t h c1
    refine lv_ldc hx hb hown (hts _ qK_X11_84) dX11_restore_9 ?_
    exact r_iret C0 hH (pj1 h) (pj2 h) dX11_restore_11
  · replace h := if_f h c1
    refine lv_iload_n hx hb dX11_restore_4 rfl (lv_at hl 1 rfl) ?_
    refine lv_iconst (v := 2) hx hb dX11_restore_5 (by decide) ?_
    refine lv_icmp_lt (tgt := 12) hx hb dX11_restore_6 (by decide) (fun c2 => ?_) (fun c2 => ?_)
    · replace h := if_t h c2
      refine lv_aload_n hx hb dX11_restore_12 rfl (lv_at hl 0 rfl) ?_
      refine gf_X11_44 C0 hH hk0 dX11_restore_13 ?_
      refine lv_iload_n hx hb dX11_restore_16 rfl (lv_at hl 1 rfl) ?_
      obtain ⟨b3, h⟩ := gdx_s h
      refine ra_17 C0 hH (kf_11_5 hk0) b3 dX11_restore_17 ?_
      refine gf_X11_146 C0 hH (ka_17 (kf_11_5 hk0) b3) dX11_restore_18 ?_
      refine lv_if_ne (tgt := 27) hx hb dX11_restore_21 (by decide) (fun c4 => ?_) (fun c4 => ?_)
      · replace h := if_f h c4
        refine lv_aload_n hx hb dX11_restore_27 rfl (lv_at hl 0 rfl) ?_
        refine lv_aload_n hx hb dX11_restore_28 rfl (lv_at hl 0 rfl) ?_
        refine gf_X11_44 C0 hH hk0 dX11_restore_29 ?_
        refine lv_iload_n hx hb dX11_restore_32 rfl (lv_at hl 1 rfl) ?_
        obtain ⟨b5, h⟩ := gdx_s h
        refine ra_17 C0 hH (kf_11_5 hk0) b5 dX11_restore_33 ?_
        obtain ⟨σ6, qσ6, h⟩ := ob_s h
        refine go_v hH (va_run_V (As := [.ref (ea E ((k0 + 174) + 65 + 6 * nc v1))]) (rest := []) C0 hH lk_X11_142 (c_X11_begin hAd k0 ((k0 + 174) + 65 + 6 * nc v1) hk0 (ka_17 (kf_11_5 hk0) b5) σ qσ6) (by decide) (ci := 11) hk0 (by decide) (cob_11 _ _ _) rfl rfl hl.1 rfl (Nat.le_of_ble_eq_true rfl) dX11_restore_34) (fun H locs hH => ?_)
        refine lv_iconst (v := 1) hx hb dX11_restore_37 (by decide) ?_
        exact r_iret C0 hH (pj1 h) (pj2 h) dX11_restore_38
      · replace h := if_t h c4
        refine lv_ldc hx hb hown (hts _ qK_X11_152) dX11_restore_24 ?_
        exact r_iret C0 hH (pj1 h) (pj2 h) dX11_restore_26
    · replace h := if_f h c2
      refine lv_ldc hx hb hown (hts _ qK_X11_84) dX11_restore_9 ?_
      exact r_iret C0 hH (pj1 h) (pj2 h) dX11_restore_11
theorem c_X11_restore {l : Launch} {E : EnvT} (hAd : Ad E) (k0 : Nat) (v1 : Int32) (hk0 : kd k0 = 11) (σ : Mem) {r : Int32} {σ' : Mem} (h : X11_restore k0 v1 σ = some (r, σ')) : Met l yX11_restore (wsM yX11_restore cX11_restore 2 (some .int)) (rmD 3) (PcM E [.ref (ea E k0), .int v1] σ) (QiM E r σ') 0 0 (eA E) :=
  Met.ofM (by decide) (Nat.le_of_ble_eq_true rfl) (fun p e s m below meth c ls C0 hH hl => w_X11_restore_b0 C0 k0 v1 hk0 hH hl h) hAd
set_option maxRecDepth 100000 in
set_option maxHeartbeats 4000000 in
theorem w_X11_kind_b0 {r : Int32} (C0 : Cx E p m c cX11_kind 2 s args RX11 meth (some .int))  (k0 : Nat) (v1 : Int32) (hk0 : kd k0 = 11) {σ : Mem} {H : Heap} {locs : List Loc} {ls : Array Slot} (hH : Hs E s σ H locs) (hl : lv_has ls 2 [(0, .ref (ea E k0)), (1, .int v1)]) (h : X11_kind_b0 k0 v1 σ = some r) : W p l e (rmD 1) s m args below meth c H locs 0 0 (MQ below (QiM E r σ) args s 0 0 (eA E)) (F0 m 0 ls []) := by
  obtain ⟨⟨hx, hb, hml, hown, hts⟩, hr, hlocks, hF, hAd⟩ := id C0
  unfold X11_kind_b0 at h
  refine lv_aload_n hx hb dX11_kind_0 rfl (lv_at hl 0 rfl) ?_
  refine lv_iload_n hx hb dX11_kind_1 rfl (lv_at hl 1 rfl) ?_
  refine go_i hH (va_run_V (As := [.int v1]) (rest := []) C0 hH lk_X11_173 (c_X11_isPage hAd k0 v1 hk0 σ rfl) (by decide) (ci := 11) hk0 (by decide) (cob_11 _ _ _) rfl rfl hl.1 rfl (Nat.le_of_ble_eq_true rfl) dX11_kind_2) (fun H locs hH => ?_)
  refine lv_if_eq (tgt := 20) hx hb dX11_kind_5 (by decide) (fun c1 => ?_) (fun c1 => ?_)
  · replace h := if_t h c1
    refine lv_ldc hx hb hown (hts _ qK_X11_84) dX11_kind_20 ?_
    exact r_iret C0 hH (Option.some.inj h) rfl dX11_kind_22
  · replace h := if_f h c1
    refine lv_aload_n hx hb dX11_kind_8 rfl (lv_at hl 0 rfl) ?_
    refine gf_X11_33 C0 hH hk0 dX11_kind_9 ?_
    refine gf_X11_184 C0 hH (kf_11_3 hk0) dX11_kind_12 ?_
    refine lv_iload_n hx hb dX11_kind_15 rfl (lv_at hl 1 rfl) ?_
    obtain ⟨b2, h⟩ := gdx_s h
    refine r_iald C0 hH (n := 10) (kf_2_3 (kf_11_3 hk0)) b2 dX11_kind_16 ?_
    refine lv_goto (tgt := 22) hx hb dX11_kind_17 (by decide) ?_
    exact r_iret C0 hH (Option.some.inj h) rfl dX11_kind_22
theorem c_X11_kind {l : Launch} {E : EnvT} (hAd : Ad E) (k0 : Nat) (v1 : Int32) (hk0 : kd k0 = 11) (σ : Mem) {r : Int32} (h : X11_kind k0 v1 σ = some r) : Met l yX11_kind (wsM yX11_kind cX11_kind 2 (some .int)) (rmD 1) (PcM E [.ref (ea E k0), .int v1] σ) (QiM E r σ) 0 0 (eA E) :=
  Met.ofM (by decide) (Nat.le_of_ble_eq_true rfl) (fun p e s m below meth c ls C0 hH hl => w_X11_kind_b0 C0 k0 v1 hk0 hH hl h) hAd
set_option maxRecDepth 100000 in
set_option maxHeartbeats 4000000 in
theorem w_X11_isSuch_b4 {r : Int32} (C0 : Cx E p m c cX11_isSuch 4 s args RX11 meth (some .boolean)) (K4 : Int32 → Int32 → Int32 → Mem → Option Int32) (hK4 : ∀ (v1 : Int32) (v2 : Int32) (v3 : Int32)  (σ : Mem) (H : Heap) (locs : List Loc) (ls : Array Slot), Hs E s σ H locs → lv_has ls 4 [(1, .int v1), (2, .int v2), (3, .int v3)] → K4 v1 v2 v3 σ = some r → W p l e (rmD 0) s m args below meth c H locs 0 0 (MQ below (QiM E r σ) args s 0 0 (eA E)) (F0 m 4 ls []))  (v1 : Int32) (v2 : Int32) (v3 : Int32)  {σ : Mem} {H : Heap} {locs : List Loc} {ls : Array Slot} (hH : Hs E s σ H locs) (hl : lv_has ls 4 [(1, .int v1), (2, .int v2), (3, .int v3)]) (h : X11_isSuch_b4 K4 v1 v2 v3 σ = some r) : W p l e (rmD 0) s m args below meth c H locs 0 0 (MQ below (QiM E r σ) args s 0 0 (eA E)) (F0 m 4 ls []) := by
  obtain ⟨⟨hx, hb, hml, hown, hts⟩, hr, hlocks, hF, hAd⟩ := id C0
  unfold X11_isSuch_b4 at h
  refine lv_iload_n hx hb dX11_isSuch_4 rfl (lv_at hl 2 rfl) ?_
  refine lv_iconst (v := 5) hx hb dX11_isSuch_5 (by decide) ?_
  refine lv_icmp_gt (tgt := 37) hx hb dX11_isSuch_6 (by decide) (fun c1 => ?_) (fun c1 => ?_)
  · replace h := if_t h c1
    refine lv_iconst (v := 0) hx hb dX11_isSuch_37 (by decide) ?_
    exact r_zret C0 rfl hH (Option.some.inj h) rfl dX11_isSuch_38
  · replace h := if_f h c1
    refine lv_iload_n hx hb dX11_isSuch_9 rfl (lv_at hl 1 rfl) ?_
    refine lv_if_lt (tgt := 37) hx hb dX11_isSuch_10 (by decide) (fun c2 => ?_) (fun c2 => ?_)
    · replace h := if_t h c2
      refine lv_iconst (v := 0) hx hb dX11_isSuch_37 (by decide) ?_
      exact r_zret C0 rfl hH (Option.some.inj h) rfl dX11_isSuch_38
    · replace h := if_f h c2
      refine lv_iload_n hx hb dX11_isSuch_13 rfl (lv_at hl 1 rfl) ?_
      refine lv_iconst (v := 5) hx hb dX11_isSuch_14 (by decide) ?_
      refine lv_icmp_gt (tgt := 37) hx hb dX11_isSuch_15 (by decide) (fun c3 => ?_) (fun c3 => ?_)
      · replace h := if_t h c3
        refine lv_iconst (v := 0) hx hb dX11_isSuch_37 (by decide) ?_
        exact r_zret C0 rfl hH (Option.some.inj h) rfl dX11_isSuch_38
      · replace h := if_f h c3
        refine lv_iload_n hx hb dX11_isSuch_18 rfl (lv_at hl 1 rfl) ?_
        refine lv_iload_n hx hb dX11_isSuch_19 rfl (lv_at hl 0 rfl) ?_
        refine lv_icmp_ne (tgt := 25) hx hb dX11_isSuch_20 (by decide) (fun c4 => ?_) (fun c4 => ?_)
        · replace h := if_f h c4
          refine r_nk C0 hH dX11_isSuch_25 ?_
          refine lv_iload_n hx hb dX11_isSuch_28 rfl (lv_at hl 1 rfl) ?_
          obtain ⟨b5, h⟩ := gdx_s h
          refine r_nkald C0 hH b5 dX11_isSuch_29 ?_
          obtain ⟨x6, ex6, h⟩ := letv_s h
          refine topi_of ex6 ?_
          refine lv_istore_n (lv' := [(2, .int x6), (1, .int v1), (3, .int v3)]) hx hb dX11_isSuch_30 rfl hl (by decide) rfl (fun ls hl => ?_)
          refine lv_iinc (v := v3 + 1) (lv' := [(3, .int (v3 + 1)), (2, .int x6), (1, .int v1)]) hx hb dX11_isSuch_31 hl (k := 2) rfl rfl (by decide) rfl (fun ls hl => ?_)
          refine lv_goto (tgt := 4) hx hb dX11_isSuch_34 (by decide) ?_
          exact hK4 v1 x6 (v3 + 1)  _ _ _ _ hH (lv_sub hl [2, 1, 0] rfl) h
        · replace h := if_t h c4
          refine lv_iconst (v := 1) hx hb dX11_isSuch_23 (by decide) ?_
          exact r_zret C0 rfl hH (Option.some.inj h) rfl dX11_isSuch_24
set_option maxRecDepth 100000 in
set_option maxHeartbeats 4000000 in
theorem w_X11_isSuch_l4 {r : Int32} (C0 : Cx E p m c cX11_isSuch 4 s args RX11 meth (some .boolean))  (n : Nat) : ∀ (v1 : Int32) (v2 : Int32) (v3 : Int32)  (σ : Mem) (H : Heap) (locs : List Loc) (ls : Array Slot), Hs E s σ H locs → lv_has ls 4 [(1, .int v1), (2, .int v2), (3, .int v3)] → X11_isSuch_l4 n v1 v2 v3 σ = some r → W p l e (rmD 0) s m args below meth c H locs 0 0 (MQ below (QiM E r σ) args s 0 0 (eA E)) (F0 m 4 ls []) := by
  induction n with
  | zero =>
    intro v1 v2 v3  σ H locs ls hH hl h
    cases h
  | succ n ih =>
    intro v1 v2 v3  σ H locs ls hH hl h
    exact w_X11_isSuch_b4 C0 (X11_isSuch_l4 n)  ih v1 v2 v3  hH hl h
set_option maxRecDepth 100000 in
set_option maxHeartbeats 4000000 in
theorem w_X11_isSuch_b0 {r : Int32} (C0 : Cx E p m c cX11_isSuch 4 s args RX11 meth (some .boolean))  (v0 : Int32) (v1 : Int32)  {σ : Mem} {H : Heap} {locs : List Loc} {ls : Array Slot} (hH : Hs E s σ H locs) (hl : lv_has ls 4 [(0, .int v0), (1, .int v1)]) (h : X11_isSuch_b0 v0 v1 σ = some r) : W p l e (rmD 0) s m args below meth c H locs 0 0 (MQ below (QiM E r σ) args s 0 0 (eA E)) (F0 m 0 ls []) := by
  obtain ⟨⟨hx, hb, hml, hown, hts⟩, hr, hlocks, hF, hAd⟩ := id C0
  unfold X11_isSuch_b0 at h
  refine lv_iload_n hx hb dX11_isSuch_0 rfl (lv_at hl 0 rfl) ?_
  refine lv_istore_n (lv' := [(2, .int v0), (0, .int v0), (1, .int v1)]) hx hb dX11_isSuch_1 rfl hl (by decide) rfl (fun ls hl => ?_)
  refine lv_iconst (v := 0) hx hb dX11_isSuch_2 (by decide) ?_
  refine lv_istore_n (lv' := [(3, .int 0), (2, .int v0), (0, .int v0), (1, .int v1)]) hx hb dX11_isSuch_3 rfl hl (by decide) rfl (fun ls hl => ?_)
  exact w_X11_isSuch_l4 C0  FU v1 v0 0  _ _ _ _ hH (lv_sub hl [3, 1, 0] rfl) h
theorem c_X11_isSuch {l : Launch} {E : EnvT} (hAd : Ad E) (v0 : Int32) (v1 : Int32)  (σ : Mem) {r : Int32} (h : X11_isSuch v0 v1 σ = some r) : Met l yX11_isSuch (wsM yX11_isSuch cX11_isSuch 4 (some .boolean)) (rmD 0) (PcM E [.int v0, .int v1] σ) (QiM E r σ) 0 0 (eA E) :=
  Met.ofM (by decide) (Nat.le_of_ble_eq_true rfl) (fun p e s m below meth c ls C0 hH hl => w_X11_isSuch_b0 C0 v0 v1  hH hl h) hAd
set_option maxRecDepth 100000 in
set_option maxHeartbeats 4000000 in
theorem w_X11_as_b0 {r : Int32} {σ' : Mem} (C0 : Cx E p m c cX11_as 3 s args RX11 meth (some .int))  (k0 : Nat) (v1 : Int32) (v2 : Int32) (hk0 : kd k0 = 11) {σ : Mem} {H : Heap} {locs : List Loc} {ls : Array Slot} (hH : Hs E s σ H locs) (hl : lv_has ls 3 [(0, .ref (ea E k0)), (1, .int v1), (2, .int v2)]) (h : X11_as_b0 k0 v1 v2 σ = some (r, σ')) : W p l e (rmD 1) s m args below meth c H locs 0 0 (MQ below (QiM E r σ') args s 0 0 (eA E)) (F0 m 0 ls []) := by
  obtain ⟨⟨hx, hb, hml, hown, hts⟩, hr, hlocks, hF, hAd⟩ := id C0
  unfold X11_as_b0 at h
  refine lv_aload_n hx hb dX11_as_0 rfl (lv_at hl 0 rfl) ?_
  refine lv_iload_n hx hb dX11_as_1 rfl (lv_at hl 1 rfl) ?_
  refine go_i hH (va_run_V (As := [.int v1]) (rest := []) C0 hH lk_X11_173 (c_X11_isPage hAd k0 v1 hk0 σ rfl) (by decide) (ci := 11) hk0 (by decide) (cob_11 _ _ _) rfl rfl hl.1 rfl (Nat.le_of_ble_eq_true rfl) dX11_as_2) (fun H locs hH => ?_)
  refine lv_if_eq (tgt := 17) hx hb dX11_as_5 (by decide) (fun c1 => ?_) (fun c1 => ?_)
  · replace h := if_t h c1
    refine lv_ldc hx hb hown (hts _ qK_X11_84) dX11_as_17 ?_
    exact r_iret C0 hH (pj1 h) (pj2 h) dX11_as_19
  · replace h := if_f h c1
    refine lv_iload_n hx hb dX11_as_8 rfl (lv_at hl 2 rfl) ?_
    refine lv_if_lt (tgt := 17) hx hb dX11_as_9 (by decide) (fun c2 => ?_) (fun c2 => ?_)
    · replace h := if_t h c2
      refine lv_ldc hx hb hown (hts _ qK_X11_84) dX11_as_17 ?_
      exact r_iret C0 hH (pj1 h) (pj2 h) dX11_as_19
    · replace h := if_f h c2
      refine lv_iload_n hx hb dX11_as_12 rfl (lv_at hl 2 rfl) ?_
      refine lv_iconst (v := 5) hx hb dX11_as_13 (by decide) ?_
      refine lv_icmp_le (tgt := 20) hx hb dX11_as_14 (by decide) (fun c3 => ?_) (fun c3 => ?_)
      · replace h := if_t h c3
        refine lv_aload_n hx hb dX11_as_20 rfl (lv_at hl 0 rfl) ?_
        refine gf_X11_33 C0 hH hk0 dX11_as_21 ?_
        refine gf_X11_184 C0 hH (kf_11_3 hk0) dX11_as_24 ?_
        refine lv_iload_n hx hb dX11_as_27 rfl (lv_at hl 1 rfl) ?_
        obtain ⟨b4, h⟩ := gdx_s h
        refine r_iald C0 hH (n := 10) (kf_2_3 (kf_11_3 hk0)) b4 dX11_as_28 ?_
        refine lv_iload_n hx hb dX11_as_29 rfl (lv_at hl 2 rfl) ?_
        obtain ⟨r5, qr5, h⟩ := ob_s h
        refine go_i hH (va_run_S (As := [.int (σ ((k0 + 22) + 1) (nc v1)), .int v2]) (rest := []) C0 hH lk_X11_317 (c_X11_isSuch hAd (σ ((k0 + 22) + 1) (nc v1)) v2  σ qr5) (by decide) rfl hl.1 rfl (Nat.le_of_ble_eq_true rfl) dX11_as_30) (fun H locs hH => ?_)
        refine lv_if_ne (tgt := 42) hx hb dX11_as_33 (by decide) (fun c6 => ?_) (fun c6 => ?_)
        · replace h := if_f h c6
          refine lv_aload_n hx hb dX11_as_42 rfl (lv_at hl 0 rfl) ?_
          refine lv_iconst (v := 0) hx hb dX11_as_43 (by decide) ?_
          refine pf_X11_77 C0 hH hk0 dX11_as_44 (fun H locs hH => ?_)
          refine lv_iload_n hx hb dX11_as_47 rfl (lv_at hl 1 rfl) ?_
          exact r_iret C0 hH (pj1 h) (pj2 h) dX11_as_48
        · replace h := if_t h c6
          refine lv_aload_n hx hb dX11_as_36 rfl (lv_at hl 0 rfl) ?_
          refine lv_iconst (v := 3) hx hb dX11_as_37 (by decide) ?_
          obtain ⟨r7, σ8, qr7, h⟩ := ob2_s h
          refine go_i hH (va_run_V (As := [.int 3]) (rest := []) C0 hH lk_X11_85 (c_X11_finds hAd k0 3 hk0 σ qr7) (by decide) (ci := 11) hk0 (by decide) (cob_11 _ _ _) rfl rfl hl.1 rfl (Nat.le_of_ble_eq_true rfl) dX11_as_38) (fun H locs hH => ?_)
          exact r_iret C0 hH (pj1 h) (pj2 h) dX11_as_41
      · replace h := if_f h c3
        refine lv_ldc hx hb hown (hts _ qK_X11_84) dX11_as_17 ?_
        exact r_iret C0 hH (pj1 h) (pj2 h) dX11_as_19
theorem c_X11_as {l : Launch} {E : EnvT} (hAd : Ad E) (k0 : Nat) (v1 : Int32) (v2 : Int32) (hk0 : kd k0 = 11) (σ : Mem) {r : Int32} {σ' : Mem} (h : X11_as k0 v1 v2 σ = some (r, σ')) : Met l yX11_as (wsM yX11_as cX11_as 3 (some .int)) (rmD 1) (PcM E [.ref (ea E k0), .int v1, .int v2] σ) (QiM E r σ') 0 0 (eA E) :=
  Met.ofM (by decide) (Nat.le_of_ble_eq_true rfl) (fun p e s m below meth c ls C0 hH hl => w_X11_as_b0 C0 k0 v1 v2 hk0 hH hl h) hAd
set_option maxRecDepth 100000 in
set_option maxHeartbeats 4000000 in
theorem w_X11_ask_b0 {r : Int32} {σ' : Mem} (C0 : Cx E p m c cX11_ask 3 s args RX11 meth (some .int))  (k0 : Nat) (v1 : Int32) (v2 : Int32) (hk0 : kd k0 = 11) {σ : Mem} {H : Heap} {locs : List Loc} {ls : Array Slot} (hH : Hs E s σ H locs) (hl : lv_has ls 3 [(0, .ref (ea E k0)), (1, .int v1), (2, .int v2)]) (h : X11_ask_b0 k0 v1 v2 σ = some (r, σ')) : W p l e (rmD 19) s m args below meth c H locs 0 0 (MQ below (QiM E r σ') args s 0 0 (eA E)) (F0 m 0 ls []) := by
  obtain ⟨⟨hx, hb, hml, hown, hts⟩, hr, hlocks, hF, hAd⟩ := id C0
  unfold X11_ask_b0 at h
  refine lv_aload_n hx hb dX11_ask_0 rfl (lv_at hl 0 rfl) ?_
  refine lv_iload_n hx hb dX11_ask_1 rfl (lv_at hl 1 rfl) ?_
  refine go_i hH (va_run_V (As := [.int v1]) (rest := []) C0 hH lk_X11_173 (c_X11_isPage hAd k0 v1 hk0 σ rfl) (by decide) (ci := 11) hk0 (by decide) (cob_11 _ _ _) rfl rfl hl.1 rfl (Nat.le_of_ble_eq_true rfl) dX11_ask_2) (fun H locs hH => ?_)
  refine lv_if_eq (tgt := 17) hx hb dX11_ask_5 (by decide) (fun c1 => ?_) (fun c1 => ?_)
  · replace h := if_t h c1
    refine lv_ldc hx hb hown (hts _ qK_X11_84) dX11_ask_17 ?_
    exact r_iret C0 hH (pj1 h) (pj2 h) dX11_ask_19
  · replace h := if_f h c1
    refine lv_iload_n hx hb dX11_ask_8 rfl (lv_at hl 2 rfl) ?_
    refine lv_if_lt (tgt := 17) hx hb dX11_ask_9 (by decide) (fun c2 => ?_) (fun c2 => ?_)
    · replace h := if_t h c2
      refine lv_ldc hx hb hown (hts _ qK_X11_84) dX11_ask_17 ?_
      exact r_iret C0 hH (pj1 h) (pj2 h) dX11_ask_19
    · replace h := if_f h c2
      refine lv_iload_n hx hb dX11_ask_12 rfl (lv_at hl 2 rfl) ?_
      refine lv_iconst (v := 1) hx hb dX11_ask_13 (by decide) ?_
      refine lv_icmp_le (tgt := 20) hx hb dX11_ask_14 (by decide) (fun c3 => ?_) (fun c3 => ?_)
      · replace h := if_t h c3
        refine lv_aload_n hx hb dX11_ask_20 rfl (lv_at hl 0 rfl) ?_
        obtain ⟨σ4, qσ4, h⟩ := ob_s h
        refine go_v hH (va_run_V (As := []) (rest := []) C0 hH lk_X11_196 (c_X11_look hAd k0 hk0 σ qσ4) (by decide) (ci := 11) hk0 (by decide) (cob_11 _ _ _) rfl rfl hl.1 rfl (Nat.le_of_ble_eq_true rfl) dX11_ask_21) (fun H locs hH => ?_)
        refine lv_aload_n hx hb dX11_ask_24 rfl (lv_at hl 0 rfl) ?_
        refine gf_X11_65 C0 hH hk0 dX11_ask_25 ?_
        refine lv_aload_n hx hb dX11_ask_28 rfl (lv_at hl 0 rfl) ?_
        refine gf_X11_33 C0 hH hk0 dX11_ask_29 ?_
        refine lv_iload_n hx hb dX11_ask_32 rfl (lv_at hl 1 rfl) ?_
        refine lv_aload_n hx hb dX11_ask_33 rfl (lv_at hl 0 rfl) ?_
        refine gf_X11_51 C0 hH hk0 dX11_ask_34 ?_
        refine gf_X11_202 C0 hH (kf_11_6 hk0) dX11_ask_37 ?_
        refine gf_X11_206 C0 hH (kf_4_0 (kf_11_6 hk0)) dX11_ask_40 ?_
        refine lv_iload_n hx hb dX11_ask_43 rfl (lv_at hl 1 rfl) ?_
        obtain ⟨b5, h⟩ := gdx_s h
        refine r_iald C0 hH (n := 10) (kf_6_1 (kf_4_0 (kf_11_6 hk0))) b5 dX11_ask_44 ?_
        obtain ⟨σ6, qσ6, h⟩ := ob_s h
        refine go_v hH (va_run_V (As := [.ref (ea E (k0 + 22)), .int v1, .int (σ4 (((k0 + 175) + 1) + 14) (nc v1))]) (rest := []) C0 hH lk_X11_321 (c_X1_begin hAd (k0 + 237) (k0 + 22) v1 (σ4 (((k0 + 175) + 1) + 14) (nc v1)) (kf_11_8 hk0) (kf_11_3 hk0) σ4 qσ6) (by decide) (ci := 1) (kf_11_8 hk0) (by decide) (cob_1 _ _ _) rfl rfl hl.1 rfl (Nat.le_of_ble_eq_true rfl) dX11_ask_45) (fun H locs hH => ?_)
        refine lv_iload_n hx hb dX11_ask_48 rfl (lv_at hl 2 rfl) ?_
        refine lv_if_ne (tgt := 62) hx hb dX11_ask_49 (by decide) (fun c7 => ?_) (fun c7 => ?_)
        · replace h := if_f h c7
          refine lv_aload_n hx hb dX11_ask_62 rfl (lv_at hl 0 rfl) ?_
          refine gf_X11_65 C0 hH hk0 dX11_ask_63 ?_
          obtain ⟨r8, σ9, qr8, h⟩ := ob2_s h
          refine go_i hH (va_run_V (As := []) (rest := []) C0 hH lk_X11_327 (c_X1_mark hAd (k0 + 237) (kf_11_8 hk0) σ6 qr8) (by decide) (ci := 1) (kf_11_8 hk0) (by decide) (cob_1 _ _ _) rfl rfl hl.1 rfl (Nat.le_of_ble_eq_true rfl) dX11_ask_66) (fun H locs hH => ?_)
          exact r_iret C0 hH (pj1 h) (pj2 h) dX11_ask_69
        · replace h := if_t h c7
          refine lv_aload_n hx hb dX11_ask_52 rfl (lv_at hl 0 rfl) ?_
          refine gf_X11_65 C0 hH hk0 dX11_ask_53 ?_
          obtain ⟨r10, σ11, qr10, h⟩ := ob2_s h
          refine go_i hH (va_run_V (As := []) (rest := []) C0 hH lk_X11_324 (c_X1_size hAd (k0 + 237) (kf_11_8 hk0) σ6 qr10) (by decide) (ci := 1) (kf_11_8 hk0) (by decide) (cob_1 _ _ _) rfl rfl hl.1 rfl (Nat.le_of_ble_eq_true rfl) dX11_ask_56) (fun H locs hH => ?_)
          refine lv_goto (tgt := 69) hx hb dX11_ask_59 (by decide) ?_
          exact r_iret C0 hH (pj1 h) (pj2 h) dX11_ask_69
      · replace h := if_f h c3
        refine lv_ldc hx hb hown (hts _ qK_X11_84) dX11_ask_17 ?_
        exact r_iret C0 hH (pj1 h) (pj2 h) dX11_ask_19
theorem c_X11_ask {l : Launch} {E : EnvT} (hAd : Ad E) (k0 : Nat) (v1 : Int32) (v2 : Int32) (hk0 : kd k0 = 11) (σ : Mem) {r : Int32} {σ' : Mem} (h : X11_ask k0 v1 v2 σ = some (r, σ')) : Met l yX11_ask (wsM yX11_ask cX11_ask 3 (some .int)) (rmD 19) (PcM E [.ref (ea E k0), .int v1, .int v2] σ) (QiM E r σ') 0 0 (eA E) :=
  Met.ofM (by decide) (Nat.le_of_ble_eq_true rfl) (fun p e s m below meth c ls C0 hH hl => w_X11_ask_b0 C0 k0 v1 v2 hk0 hH hl h) hAd
set_option maxRecDepth 100000 in
set_option maxHeartbeats 4000000 in
theorem w_X11_trace_b0 {r : Int32} (C0 : Cx E p m c cX11_trace 2 s args RX11 meth (some .int))  (k0 : Nat) (v1 : Int32) (hk0 : kd k0 = 11) {σ : Mem} {H : Heap} {locs : List Loc} {ls : Array Slot} (hH : Hs E s σ H locs) (hl : lv_has ls 2 [(0, .ref (ea E k0)), (1, .int v1)]) (h : X11_trace_b0 k0 v1 σ = some r) : W p l e (rmD 0) s m args below meth c H locs 0 0 (MQ below (QiM E r σ) args s 0 0 (eA E)) (F0 m 0 ls []) := by
  obtain ⟨⟨hx, hb, hml, hown, hts⟩, hr, hlocks, hF, hAd⟩ := id C0
  unfold X11_trace_b0 at h
  refine lv_iload_n hx hb dX11_trace_0 rfl (lv_at hl 1 rfl) ?_
  refine lv_if_lt (tgt := 27) hx hb dX11_trace_1 (by decide) (fun c1 => ?_) (fun c1 => ?_)
  · replace h := if_t h c1
    refine lv_ldc hx hb hown (hts _ qK_X11_253) dX11_trace_27 ?_
    exact r_iret C0 hH (Option.some.inj h) rfl dX11_trace_29
  · replace h := if_f h c1
    refine lv_iload_n hx hb dX11_trace_4 rfl (lv_at hl 1 rfl) ?_
    refine lv_aload_n hx hb dX11_trace_5 rfl (lv_at hl 0 rfl) ?_
    refine gf_X11_65 C0 hH hk0 dX11_trace_6 ?_
    refine gf_X11_330 C0 hH (kf_11_8 hk0) dX11_trace_9 ?_
    refine lv_icmp_ge (tgt := 27) hx hb dX11_trace_12 (by decide) (fun c2 => ?_) (fun c2 => ?_)
    · replace h := if_t h c2
      refine lv_ldc hx hb hown (hts _ qK_X11_253) dX11_trace_27 ?_
      exact r_iret C0 hH (Option.some.inj h) rfl dX11_trace_29
    · replace h := if_f h c2
      refine lv_aload_n hx hb dX11_trace_15 rfl (lv_at hl 0 rfl) ?_
      refine gf_X11_65 C0 hH hk0 dX11_trace_16 ?_
      refine gf_X11_333 C0 hH (kf_11_8 hk0) dX11_trace_19 ?_
      refine lv_iload_n hx hb dX11_trace_22 rfl (lv_at hl 1 rfl) ?_
      obtain ⟨b3, h⟩ := gdx_s h
      refine r_iald C0 hH (n := 16) (kf_1_0 (kf_11_8 hk0)) b3 dX11_trace_23 ?_
      refine lv_goto (tgt := 29) hx hb dX11_trace_24 (by decide) ?_
      exact r_iret C0 hH (Option.some.inj h) rfl dX11_trace_29
theorem c_X11_trace {l : Launch} {E : EnvT} (hAd : Ad E) (k0 : Nat) (v1 : Int32) (hk0 : kd k0 = 11) (σ : Mem) {r : Int32} (h : X11_trace k0 v1 σ = some r) : Met l yX11_trace (wsM yX11_trace cX11_trace 2 (some .int)) (rmD 0) (PcM E [.ref (ea E k0), .int v1] σ) (QiM E r σ) 0 0 (eA E) :=
  Met.ofM (by decide) (Nat.le_of_ble_eq_true rfl) (fun p e s m below meth c ls C0 hH hl => w_X11_trace_b0 C0 k0 v1 hk0 hH hl h) hAd
set_option maxRecDepth 100000 in
set_option maxHeartbeats 4000000 in
theorem w_X11_count_b60 {r : Int32} (C0 : Cx E p m c cX11_count 2 s args RX11 meth (some .int))  (k0 : Nat) (v1 : Int32) (hk0 : kd k0 = 11) {σ : Mem} {H : Heap} {locs : List Loc} {ls : Array Slot} (hH : Hs E s σ H locs) (hl : lv_has ls 2 [(0, .ref (ea E k0)), (1, .int v1)]) (h : X11_count_b60 k0 v1 σ = some r) : W p l e (rmD 1) s m args below meth c H locs 0 0 (MQ below (QiM E r σ) args s 0 0 (eA E)) (F0 m 60 ls []) := by
  obtain ⟨⟨hx, hb, hml, hown, hts⟩, hr, hlocks, hF, hAd⟩ := id C0
  unfold X11_count_b60 at h
  refine lv_aload_n hx hb dX11_count_60 rfl (lv_at hl 0 rfl) ?_
  refine gf_X11_33 C0 hH hk0 dX11_count_61 ?_
  refine lv_iload_n hx hb dX11_count_64 rfl (lv_at hl 1 rfl) ?_
  refine lv_iconst (v := 2) hx hb dX11_count_65 (by decide) ?_
  refine lv_isub hx hb dX11_count_66 ?_
  obtain ⟨r1, qr1, h⟩ := ob_s h
  refine go_i hH (va_run_V (As := [.int (v1 - 2)]) (rest := []) C0 hH lk_X11_339 (c_X2_together hAd (k0 + 22) (v1 - 2) (kf_11_3 hk0) σ qr1) (by decide) (ci := 2) (kf_11_3 hk0) (by decide) (cob_2 _ _ _) rfl rfl hl.1 rfl (Nat.le_of_ble_eq_true rfl) dX11_count_67) (fun H locs hH => ?_)
  exact r_iret C0 hH (Option.some.inj h) rfl dX11_count_70
set_option maxRecDepth 100000 in
set_option maxHeartbeats 4000000 in
theorem w_X11_count_b0 {r : Int32} (C0 : Cx E p m c cX11_count 2 s args RX11 meth (some .int))  (k0 : Nat) (v1 : Int32) (hk0 : kd k0 = 11) {σ : Mem} {H : Heap} {locs : List Loc} {ls : Array Slot} (hH : Hs E s σ H locs) (hl : lv_has ls 2 [(0, .ref (ea E k0)), (1, .int v1)]) (h : X11_count_b0 k0 v1 σ = some r) : W p l e (rmD 1) s m args below meth c H locs 0 0 (MQ below (QiM E r σ) args s 0 0 (eA E)) (F0 m 0 ls []) := by
  obtain ⟨⟨hx, hb, hml, hown, hts⟩, hr, hlocks, hF, hAd⟩ := id C0
  unfold X11_count_b0 at h
  refine lv_iload_n hx hb dX11_count_0 rfl (lv_at hl 1 rfl) ?_
  by_cases c1 : v1 = 0
  · replace h := if_t h c1
    refine lv_tableIn (off := 43) (tgt := 44) hx hb dX11_count_1 (by rw [c1]; decide) (by rw [c1]; decide) (by rw [c1]; rfl) (by decide) ?_
    refine lv_aload_n hx hb dX11_count_44 rfl (lv_at hl 0 rfl) ?_
    refine gf_X11_10 C0 hH hk0 dX11_count_45 ?_
    obtain ⟨r2, qr2, h⟩ := ob_s h
    refine go_i hH (va_run_V (As := []) (rest := []) C0 hH lk_X11_336 (c_X8_laid hAd (k0 + 1) (kf_11_0 hk0) σ qr2) (by decide) (ci := 8) (kf_11_0 hk0) (by decide) (cob_8 _ _ _) rfl rfl hl.1 rfl (Nat.le_of_ble_eq_true rfl) dX11_count_48) (fun H locs hH => ?_)
    exact r_iret C0 hH (Option.some.inj h) rfl dX11_count_51
  · replace h := if_f h c1
    by_cases c3 : v1 = 1
    · replace h := if_t h c3
      refine lv_tableIn (off := 51) (tgt := 52) hx hb dX11_count_1 (by rw [c3]; decide) (by rw [c3]; decide) (by rw [c3]; rfl) (by decide) ?_
      refine lv_aload_n hx hb dX11_count_52 rfl (lv_at hl 0 rfl) ?_
      refine gf_X11_33 C0 hH hk0 dX11_count_53 ?_
      refine gf_X11_146 C0 hH (kf_11_3 hk0) dX11_count_56 ?_
      exact r_iret C0 hH (Option.some.inj h) rfl dX11_count_59
    · replace h := if_f h c3
      by_cases c4 : v1 = 2
      · replace h := if_t h c4
        refine lv_tableIn (off := 59) (tgt := 60) hx hb dX11_count_1 (by rw [c4]; decide) (by rw [c4]; decide) (by rw [c4]; rfl) (by decide) ?_
        exact w_X11_count_b60 C0  k0 v1 hk0 hH (lv_sub hl [0, 1] rfl) h
      · replace h := if_f h c4
        by_cases c5 : v1 = 3
        · replace h := if_t h c5
          refine lv_tableIn (off := 59) (tgt := 60) hx hb dX11_count_1 (by rw [c5]; decide) (by rw [c5]; decide) (by rw [c5]; rfl) (by decide) ?_
          exact w_X11_count_b60 C0  k0 v1 hk0 hH (lv_sub hl [0, 1] rfl) h
        · replace h := if_f h c5
          by_cases c6 : v1 = 4
          · replace h := if_t h c6
            refine lv_tableIn (off := 59) (tgt := 60) hx hb dX11_count_1 (by rw [c6]; decide) (by rw [c6]; decide) (by rw [c6]; rfl) (by decide) ?_
            exact w_X11_count_b60 C0  k0 v1 hk0 hH (lv_sub hl [0, 1] rfl) h
          · replace h := if_f h c6
            by_cases c7 : v1 = 5
            · replace h := if_t h c7
              refine lv_tableIn (off := 70) (tgt := 71) hx hb dX11_count_1 (by rw [c7]; decide) (by rw [c7]; decide) (by rw [c7]; rfl) (by decide) ?_
              refine lv_aload_n hx hb dX11_count_71 rfl (lv_at hl 0 rfl) ?_
              refine gf_X11_40 C0 hH hk0 dX11_count_72 ?_
              refine gf_X11_149 C0 hH (kf_11_4 hk0) dX11_count_75 ?_
              exact r_iret C0 hH (Option.some.inj h) rfl dX11_count_78
            · replace h := if_f h c7
              by_cases c8 : v1 = 6
              · replace h := if_t h c8
                refine lv_tableIn (off := 78) (tgt := 79) hx hb dX11_count_1 (by rw [c8]; decide) (by rw [c8]; decide) (by rw [c8]; rfl) (by decide) ?_
                refine lv_aload_n hx hb dX11_count_79 rfl (lv_at hl 0 rfl) ?_
                refine gf_X11_19 C0 hH hk0 dX11_count_80 ?_
                refine gf_X11_121 C0 hH (kf_11_1 hk0) dX11_count_83 ?_
                exact r_iret C0 hH (Option.some.inj h) rfl dX11_count_86
              · replace h := if_f h c8
                refine lv_tableOut (tgt := 87) hx hb dX11_count_1 (by have := i32_nv (v := 0) c1 (by decide); have := i32_nv (v := 1) c3 (by decide); have := i32_nv (v := 2) c4 (by decide); have := i32_nv (v := 3) c5 (by decide); have := i32_nv (v := 4) c6 (by decide); have := i32_nv (v := 5) c7 (by decide); have := i32_nv (v := 6) c8 (by decide); omega) (by decide) ?_
                refine lv_ldc hx hb hown (hts _ qK_X11_84) dX11_count_87 ?_
                exact r_iret C0 hH (Option.some.inj h) rfl dX11_count_89
theorem c_X11_count {l : Launch} {E : EnvT} (hAd : Ad E) (k0 : Nat) (v1 : Int32) (hk0 : kd k0 = 11) (σ : Mem) {r : Int32} (h : X11_count k0 v1 σ = some r) : Met l yX11_count (wsM yX11_count cX11_count 2 (some .int)) (rmD 1) (PcM E [.ref (ea E k0), .int v1] σ) (QiM E r σ) 0 0 (eA E) :=
  Met.ofM (by decide) (Nat.le_of_ble_eq_true rfl) (fun p e s m below meth c ls C0 hH hl => w_X11_count_b0 C0 k0 v1 hk0 hH hl h) hAd
set_option maxRecDepth 100000 in
set_option maxHeartbeats 4000000 in
theorem w_X11_status_b0 {r : Int32} (C0 : Cx E p m c cX11_status 1 s args RX11 meth (some .int))  (k0 : Nat) (hk0 : kd k0 = 11) {σ : Mem} {H : Heap} {locs : List Loc} {ls : Array Slot} (hH : Hs E s σ H locs) (hl : lv_has ls 1 [(0, .ref (ea E k0))]) (h : X11_status_b0 k0 σ = r) : W p l e (rmD 0) s m args below meth c H locs 0 0 (MQ below (QiM E r σ) args s 0 0 (eA E)) (F0 m 0 ls []) := by
  obtain ⟨⟨hx, hb, hml, hown, hts⟩, hr, hlocks, hF, hAd⟩ := id C0
  unfold X11_status_b0 at h
  refine lv_aload_n hx hb dX11_status_0 rfl (lv_at hl 0 rfl) ?_
  refine gf_X11_77 C0 hH hk0 dX11_status_1 ?_
  exact r_iret C0 hH h rfl dX11_status_4
theorem c_X11_status {l : Launch} {E : EnvT} (hAd : Ad E) (k0 : Nat) (hk0 : kd k0 = 11) (σ : Mem) {r : Int32} (h : X11_status k0 σ = r) : Met l yX11_status (wsM yX11_status cX11_status 1 (some .int)) (rmD 0) (PcM E [.ref (ea E k0)] σ) (QiM E r σ) 0 0 (eA E) :=
  Met.ofM (by decide) (Nat.le_of_ble_eq_true rfl) (fun p e s m below meth c ls C0 hH hl => w_X11_status_b0 C0 k0 hk0 hH hl h) hAd
end
