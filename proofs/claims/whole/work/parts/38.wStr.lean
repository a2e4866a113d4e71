section
variable {p : Program} {l : Launch} {e : Env} {s : State} {m : MethodId} {args : Array Value} {below : List Frame} {meth : Method} {c : Code} {E : EnvT}
set_option maxRecDepth 100000 in
set_option maxHeartbeats 4000000 in
theorem w_X10_spells_b15 {r : Int32} (C0 : Cx E p m c cX10_spells 3 s args RX10 meth (some .boolean)) (K15 : Nat → Nat → Int32 → Mem → Option Int32) (hK15 : ∀ (k0 : Nat) (k1 : Nat) (v2 : Int32) (hk0 : kd k0 = 10) (hk1 : k1 < 9) (σ : Mem) (H : Heap) (locs : List Loc) (ls : Array Slot), Hs E s σ H locs → lv_has ls 3 [(0, .ref (ea E k0)), (1, .ref (eK E k1)), (2, .int v2)] → K15 k0 k1 v2 σ = some r → W p l e (rmD 5) s m args below meth c H locs 0 0 (MQ below (QiM E r σ) args s 0 0 (eA E)) (F0 m 15 ls []))  (k0 : Nat) (k1 : Nat) (v2 : Int32) (hk0 : kd k0 = 10) (hk1 : k1 < 9) {σ : Mem} {H : Heap} {locs : List Loc} {ls : Array Slot} (hH : Hs E s σ H locs) (hl : lv_has ls 3 [(0, .ref (ea E k0)), (1, .ref (eK E k1)), (2, .int v2)]) (h : X10_spells_b15 K15 k0 k1 v2 σ = some r) : W p l e (rmD 5) s m args below meth c H locs 0 0 (MQ below (QiM E r σ) args s 0 0 (eA E)) (F0 m 15 ls []) := by
  obtain ⟨⟨hx, hb, hml, hown, hts⟩, hr, hlocks, hF, hAd⟩ := id C0
  unfold X10_spells_b15 at h
  refine lv_iload_n hx hb dX10_spells_15 rfl (lv_at hl 2 rfl) ?_
  refine lv_aload_n hx hb dX10_spells_16 rfl (lv_at hl 0 rfl) ?_
  refine gf_X10_15 C0 hH hk0 dX10_spells_17 ?_
  refine lv_icmp_ge (tgt := 45) hx hb dX10_spells_20 (by decide) (fun c1 => ?_) (fun c1 => ?_)
  · replace h := if_t h c1
    refine lv_iconst (v := 1) hx hb dX10_spells_45 (by decide) ?_
    exact r_zret C0 rfl hH (Option.some.inj h) rfl dX10_spells_46
  · replace h := if_f h c1
    refine lv_aload_n hx hb dX10_spells_23 rfl (lv_at hl 0 rfl) ?_
    refine gf_X10_9 C0 hH hk0 dX10_spells_24 ?_
    refine lv_iload_n hx hb dX10_spells_27 rfl (lv_at hl 2 rfl) ?_
    obtain ⟨b2, h⟩ := gdx_s h
    refine r_iald C0 hH (n := 130) (kf_10_0 hk0) b2 dX10_spells_28 ?_
    refine lv_aload_n hx hb dX10_spells_29 rfl (lv_at hl 1 rfl) ?_
    refine lv_iload_n hx hb dX10_spells_30 rfl (lv_at hl 2 rfl) ?_
    obtain ⟨b3, h⟩ := gdx_s h
    refine r_strch C0 hH hk1 hl.1 (Nat.le_of_ble_eq_true rfl) b3 dX10_spells_31 (fun H locs hH => ?_)
    refine lv_icmp_eq (tgt := 39) hx hb dX10_spells_34 (by decide) (fun c4 => ?_) (fun c4 => ?_)
    · replace h := if_t h c4
      refine lv_iinc (v := v2 + 1) (lv' := [(2, .int (v2 + 1)), (0, .ref (ea E k0)), (1, .ref (eK E k1))]) hx hb dX10_spells_39 hl (k := 2) rfl rfl (by decide) rfl (fun ls hl => ?_)
      refine lv_goto (tgt := 15) hx hb dX10_spells_42 (by decide) ?_
      exact hK15 k0 k1 (v2 + 1) hk0 hk1 _ _ _ _ hH (lv_sub hl [1, 2, 0] rfl) h
    · replace h := if_f h c4
      refine lv_iconst (v := 0) hx hb dX10_spells_37 (by decide) ?_
      exact r_zret C0 rfl hH (Option.some.inj h) rfl dX10_spells_38
set_option maxRecDepth 100000 in
set_option maxHeartbeats 4000000 in
theorem w_X10_spells_l15 {r : Int32} (C0 : Cx E p m c cX10_spells 3 s args RX10 meth (some .boolean))  (n : Nat) : ∀ (k0 : Nat) (k1 : Nat) (v2 : Int32) (hk0 : kd k0 = 10) (hk1 : k1 < 9) (σ : Mem) (H : Heap) (locs : List Loc) (ls : Array Slot), Hs E s σ H locs → lv_has ls 3 [(0, .ref (ea E k0)), (1, .ref (eK E k1)), (2, .int v2)] → X10_spells_l15 n k0 k1 v2 σ = some r → W p l e (rmD 5) s m args below meth c H locs 0 0 (MQ below (QiM E r σ) args s 0 0 (eA E)) (F0 m 15 ls []) := by
  induction n with
  | zero =>
    intro k0 k1 v2 hk0 hk1 σ H locs ls hH hl h
    cases h
  | succ n ih =>
    intro k0 k1 v2 hk0 hk1 σ H locs ls hH hl h
    exact w_X10_spells_b15 C0 (X10_spells_l15 n)  ih k0 k1 v2 hk0 hk1 hH hl h
set_option maxRecDepth 100000 in
set_option maxHeartbeats 4000000 in
theorem w_X10_spells_b0 {r : Int32} (C0 : Cx E p m c cX10_spells 3 s args RX10 meth (some .boolean))  (k0 : Nat) (k1 : Nat) (hk0 : kd k0 = 10) (hk1 : k1 < 9) {σ : Mem} {H : Heap} {locs : List Loc} {ls : Array Slot} (hH : Hs E s σ H locs) (hl : lv_has ls 3 [(0, .ref (ea E k0)), (1, .ref (eK E k1))]) (h : X10_spells_b0 k0 k1 σ = some r) : W p l e (rmD 5) s m args below meth c H locs 0 0 (MQ below (QiM E r σ) args s 0 0 (eA E)) (F0 m 0 ls []) := by
  obtain ⟨⟨hx, hb, hml, hown, hts⟩, hr, hlocks, hF, hAd⟩ := id C0
  unfold X10_spells_b0 at h
  refine lv_aload_n hx hb dX10_spells_0 rfl (lv_at hl 1 rfl) ?_
  refine r_strlen C0 hH hk1 hl.1 (Nat.le_of_ble_eq_true rfl) dX10_spells_1 (fun H locs hH => ?_)
  refine lv_aload_n hx hb dX10_spells_4 rfl (lv_at hl 0 rfl) ?_
  refine gf_X10_15 C0 hH hk0 dX10_spells_5 ?_
  refine lv_icmp_eq (tgt := 13) hx hb dX10_spells_8 (by decide) (fun c1 => ?_) (fun c1 => ?_)
  · replace h := if_t h c1
    refine lv_iconst (v := 0) hx hb dX10_spells_13 (by decide) ?_
    refine lv_istore_n (lv' := [(2, .int 0), (0, .ref (ea E k0)), (1, .ref (eK E k1))]) hx hb dX10_spells_14 rfl hl (by decide) rfl (fun ls hl => ?_)
    exact w_X10_spells_l15 C0  FU k0 k1 0 hk0 hk1 _ _ _ _ hH (lv_sub hl [1, 2, 0] rfl) h
  · replace h := if_f h c1
    refine lv_iconst (v := 0) hx hb dX10_spells_11 (by decide) ?_
    exact r_zret C0 rfl hH (Option.some.inj h) rfl dX10_spells_12
theorem c_X10_spells {l : Launch} {E : EnvT} (hAd : Ad E) (k0 : Nat) (k1 : Nat) (hk0 : kd k0 = 10) (hk1 : k1 < 9) (σ : Mem) {r : Int32} (h : X10_spells k0 k1 σ = some r) : Met l yX10_spells (wsM yX10_spells cX10_spells 3 (some .boolean)) (rmD 5) (PcM E [.ref (ea E k0), .ref (eK E k1)] σ) (QiM E r σ) 0 0 (eA E) :=
  Met.ofM (by decide) (Nat.le_of_ble_eq_true rfl) (fun p e s m below meth c ls C0 hH hl => w_X10_spells_b0 C0 k0 k1 hk0 hk1 hH hl h) hAd
set_option maxRecDepth 100000 in
set_option maxHeartbeats 4000000 in
theorem w_X10_asks_b0 {r : Int32} (C0 : Cx E p m c cX10_asks 1 s args RX10 meth (some .int))  (k0 : Nat) (hk0 : kd k0 = 10) {σ : Mem} {H : Heap} {locs : List Loc} {ls : Array Slot} (hH : Hs E s σ H locs) (hl : lv_has ls 1 [(0, .ref (ea E k0))]) (h : X10_asks_b0 k0 σ = some r) : W p l e (rmD 6) s m args below meth c H locs 0 0 (MQ below (QiM E r σ) args s 0 0 (eA E)) (F0 m 0 ls []) := by
  obtain ⟨⟨hx, hb, hml, hown, hts⟩, hr, hlocks, hF, hAd⟩ := id C0
  unfold X10_asks_b0 at h
  refine lv_aload_n hx hb dX10_asks_0 rfl (lv_at hl 0 rfl) ?_
  refine va_ldcS hx hb hown (hF.2.2.2.2.1 0 (by decide)) dX10_asks_1 ?_
  obtain ⟨r1, qr1, h⟩ := ob_s h
  refine go_i hH (va_run_V (As := [.ref (eK E 0)]) (rest := []) C0 hH lk_X10_34 (c_X10_spells hAd k0 0 hk0 (by decide) σ qr1) (by decide) (ci := 10) hk0 (by decide) (cob_10 _ _ _) rfl rfl hl.1 rfl (Nat.le_of_ble_eq_true rfl) dX10_asks_3) (fun H locs hH => ?_)
  refine lv_if_eq (tgt := 11) hx hb dX10_asks_6 (by decide) (fun c2 => ?_) (fun c2 => ?_)
  · replace h := if_t h c2
    refine lv_aload_n hx hb dX10_asks_11 rfl (lv_at hl 0 rfl) ?_
    refine va_ldcS hx hb hown (hF.2.2.2.2.1 1 (by decide)) dX10_asks_12 ?_
    obtain ⟨r3, qr3, h⟩ := ob_s h
    refine go_i hH (va_run_V (As := [.ref (eK E 1)]) (rest := []) C0 hH lk_X10_34 (c_X10_spells hAd k0 1 hk0 (by decide) σ qr3) (by decide) (ci := 10) hk0 (by decide) (cob_10 _ _ _) rfl rfl hl.1 rfl (Nat.le_of_ble_eq_true rfl) dX10_asks_14) (fun H locs hH => ?_)
    refine lv_if_eq (tgt := 22) hx hb dX10_asks_17 (by decide) (fun c4 => ?_) (fun c4 => ?_)
    · replace h := if_t h c4
      refine lv_aload_n hx hb dX10_asks_22 rfl (lv_at hl 0 rfl) ?_
      refine va_ldcS hx hb hown (hF.2.2.2.2.1 2 (by decide)) dX10_asks_23 ?_
      obtain ⟨r5, qr5, h⟩ := ob_s h
      refine go_i hH (va_run_V (As := [.ref (eK E 2)]) (rest := []) C0 hH lk_X10_34 (c_X10_spells hAd k0 2 hk0 (by decide) σ qr5) (by decide) (ci := 10) hk0 (by decide) (cob_10 _ _ _) rfl rfl hl.1 rfl (Nat.le_of_ble_eq_true rfl) dX10_asks_25) (fun H locs hH => ?_)
      refine lv_if_eq (tgt := 33) hx hb dX10_asks_28 (by decide) (fun c6 => ?_) (fun c6 => ?_)
      · replace h := if_t h c6
        refine lv_aload_n hx hb dX10_asks_33 rfl (lv_at hl 0 rfl) ?_
        refine va_ldcS hx hb hown (hF.2.2.2.2.1 3 (by decide)) dX10_asks_34 ?_
        obtain ⟨r7, qr7, h⟩ := ob_s h
        refine go_i hH (va_run_V (As := [.ref (eK E 3)]) (rest := []) C0 hH lk_X10_34 (c_X10_spells hAd k0 3 hk0 (by decide) σ qr7) (by decide) (ci := 10) hk0 (by decide) (cob_10 _ _ _) rfl rfl hl.1 rfl (Nat.le_of_ble_eq_true rfl) dX10_asks_36) (fun H locs hH => ?_)
        refine lv_if_eq (tgt := 44) hx hb dX10_asks_39 (by decide) (fun c8 => ?_) (fun c8 => ?_)
        · replace h := if_t h c8
          refine lv_aload_n hx hb dX10_asks_44 rfl (lv_at hl 0 rfl) ?_
          refine va_ldcS hx hb hown (hF.2.2.2.2.1 4 (by decide)) dX10_asks_45 ?_
          obtain ⟨r9, qr9, h⟩ := ob_s h
          refine go_i hH (va_run_V (As := [.ref (eK E 4)]) (rest := []) C0 hH lk_X10_34 (c_X10_spells hAd k0 4 hk0 (by decide) σ qr9) (by decide) (ci := 10) hk0 (by decide) (cob_10 _ _ _) rfl rfl hl.1 rfl (Nat.le_of_ble_eq_true rfl) dX10_asks_47) (fun H locs hH => ?_)
          refine lv_if_eq (tgt := 55) hx hb dX10_asks_50 (by decide) (fun c10 => ?_) (fun c10 => ?_)
          · replace h := if_t h c10
            refine lv_aload_n hx hb dX10_asks_55 rfl (lv_at hl 0 rfl) ?_
            refine va_ldcS hx hb hown (hF.2.2.2.2.1 5 (by decide)) dX10_asks_56 ?_
            obtain ⟨r11, qr11, h⟩ := ob_s h
            refine go_i hH (va_run_V (As := [.ref (eK E 5)]) (rest := []) C0 hH lk_X10_34 (c_X10_spells hAd k0 5 hk0 (by decide) σ qr11) (by decide) (ci := 10) hk0 (by decide) (cob_10 _ _ _) rfl rfl hl.1 rfl (Nat.le_of_ble_eq_true rfl) dX10_asks_58) (fun H locs hH => ?_)
            refine lv_if_eq (tgt := 66) hx hb dX10_asks_61 (by decide) (fun c12 => ?_) (fun c12 => ?_)
            · replace h := if_t h c12
              refine lv_aload_n hx hb dX10_asks_66 rfl (lv_at hl 0 rfl) ?_
              refine va_ldcS hx hb hown (hF.2.2.2.2.1 6 (by decide)) dX10_asks_67 ?_
              obtain ⟨r13, qr13, h⟩ := ob_s h
              refine go_i hH (va_run_V (As := [.ref (eK E 6)]) (rest := []) C0 hH lk_X10_34 (c_X10_spells hAd k0 6 hk0 (by decide) σ qr13) (by decide) (ci := 10) hk0 (by decide) (cob_10 _ _ _) rfl rfl hl.1 rfl (Nat.le_of_ble_eq_true rfl) dX10_asks_69) (fun H locs hH => ?_)
              refine lv_if_eq (tgt := 78) hx hb dX10_asks_72 (by decide) (fun c14 => ?_) (fun c14 => ?_)
              · replace h := if_t h c14
                refine lv_aload_n hx hb dX10_asks_78 rfl (lv_at hl 0 rfl) ?_
                refine va_ldcS hx hb hown (hF.2.2.2.2.1 7 (by decide)) dX10_asks_79 ?_
                obtain ⟨r15, qr15, h⟩ := ob_s h
                refine go_i hH (va_run_V (As := [.ref (eK E 7)]) (rest := []) C0 hH lk_X10_34 (c_X10_spells hAd k0 7 hk0 (by decide) σ qr15) (by decide) (ci := 10) hk0 (by decide) (cob_10 _ _ _) rfl rfl hl.1 rfl (Nat.le_of_ble_eq_true rfl) dX10_asks_81) (fun H locs hH => ?_)
                refine lv_if_eq (tgt := 90) hx hb dX10_asks_84 (by decide) (fun c16 => ?_) (fun c16 => ?_)
                · replace h := if_t h c16
                  refine lv_aload_n hx hb dX10_asks_90 rfl (lv_at hl 0 rfl) ?_
                  refine va_ldcS hx hb hown (hF.2.2.2.2.1 8 (by decide)) dX10_asks_91 ?_
                  obtain ⟨r17, qr17, h⟩ := ob_s h
                  refine go_i hH (va_run_V (As := [.ref (eK E 8)]) (rest := []) C0 hH lk_X10_34 (c_X10_spells hAd k0 8 hk0 (by decide) σ qr17) (by decide) (ci := 10) hk0 (by decide) (cob_10 _ _ _) rfl rfl hl.1 rfl (Nat.le_of_ble_eq_true rfl) dX10_asks_93) (fun H locs hH => ?_)
                  refine lv_if_eq (tgt := 104) hx hb dX10_asks_96 (by decide) (fun c18 => ?_) (fun c18 => ?_)
                  · replace h := if_t h c18
                    refine lv_ldc hx hb hown (hts _ qK_X10_54) dX10_asks_104 ?_
                    exact r_iret C0 hH (Option.some.inj h) rfl dX10_asks_106
                  · replace h := if_f h c18
                    refine lv_bipush (v := 9) hx hb dX10_asks_99 (by decide) ?_
                    refine lv_goto (tgt := 106) hx hb dX10_asks_101 (by decide) ?_
                    exact r_iret C0 hH (Option.some.inj h) rfl dX10_asks_106
                · replace h := if_f h c16
                  refine lv_bipush (v := 7) hx hb dX10_asks_87 (by decide) ?_
                  exact r_iret C0 hH (Option.some.inj h) rfl dX10_asks_89
              · replace h := if_f h c14
                refine lv_bipush (v := 6) hx hb dX10_asks_75 (by decide) ?_
                exact r_iret C0 hH (Option.some.inj h) rfl dX10_asks_77
            · replace h := if_f h c12
              refine lv_iconst (v := 5) hx hb dX10_asks_64 (by decide) ?_
              exact r_iret C0 hH (Option.some.inj h) rfl dX10_asks_65
          · replace h := if_f h c10
            refine lv_iconst (v := 4) hx hb dX10_asks_53 (by decide) ?_
            exact r_iret C0 hH (Option.some.inj h) rfl dX10_asks_54
        · replace h := if_f h c8
          refine lv_iconst (v := 3) hx hb dX10_asks_42 (by decide) ?_
          exact r_iret C0 hH (Option.some.inj h) rfl dX10_asks_43
      · replace h := if_f h c6
        refine lv_iconst (v := 2) hx hb dX10_asks_31 (by decide) ?_
        exact r_iret C0 hH (Option.some.inj h) rfl dX10_asks_32
    · replace h := if_f h c4
      refine lv_iconst (v := 1) hx hb dX10_asks_20 (by decide) ?_
      exact r_iret C0 hH (Option.some.inj h) rfl dX10_asks_21
  · replace h := if_f h c2
    refine lv_iconst (v := 0) hx hb dX10_asks_9 (by decide) ?_
    exact r_iret C0 hH (Option.some.inj h) rfl dX10_asks_10
theorem c_X10_asks {l : Launch} {E : EnvT} (hAd : Ad E) (k0 : Nat) (hk0 : kd k0 = 10) (σ : Mem) {r : Int32} (h : X10_asks k0 σ = some r) : Met l yX10_asks (wsM yX10_asks cX10_asks 1 (some .int)) (rmD 6) (PcM E [.ref (ea E k0)] σ) (QiM E r σ) 0 0 (eA E) :=
  Met.ofM (by decide) (Nat.le_of_ble_eq_true rfl) (fun p e s m below meth c ls C0 hH hl => w_X10_asks_b0 C0 k0 hk0 hH hl h) hAd
set_option maxRecDepth 100000 in
set_option maxHeartbeats 4000000 in
theorem w_X11_say_b19 {r : Int32} {σ' : Mem} (C0 : Cx E p m c cX11_say 2 s args RX11 meth (some .int))  (k0 : Nat) (s0 : Int32) (hk0 : kd k0 = 11) {σ : Mem} {H : Heap} {locs : List Loc} {ls : Array Slot} (hH : Hs E s σ H locs) (hl : lv_has ls 2 [(0, .ref (ea E k0))]) (h : X11_say_b19 k0 s0 σ = some (r, σ')) : W p l e (rmD 19) s m args below meth c H locs 0 0 (MQ below (QiM E r σ') args s 0 0 (eA E)) (F0 m 19 ls [.int s0]) := by
  obtain ⟨⟨hx, hb, hml, hown, hts⟩, hr, hlocks, hF, hAd⟩ := id C0
  unfold X11_say_b19 at h
  refine lv_istore_n (lv' := [(1, .int s0), (0, .ref (ea E k0))]) hx hb dX11_say_19 rfl hl (by decide) rfl (fun ls hl => ?_)
  refine lv_aload_n hx hb dX11_say_20 rfl (lv_at hl 1 rfl) ?_
  refine gf_X11_19 C0 hH hk0 dX11_say_21 ?_
  refine lv_iconst (v := 0) hx hb dX11_say_24 (by decide) ?_
  refine pf_X11_121 C0 hH (kf_11_1 hk0) dX11_say_25 (fun H locs hH => ?_)
  refine lv_iload_n hx hb dX11_say_28 rfl (lv_at hl 0 rfl) ?_
  refine lv_if_ge (tgt := 34) hx hb dX11_say_29 (by decide) (fun c1 => ?_) (fun c1 => ?_)
  · replace h := if_t h c1
    refine lv_aload_n hx hb dX11_say_34 rfl (lv_at hl 1 rfl) ?_
    obtain ⟨σ2, qσ2, h⟩ := ob_s h
    refine go_v hH (va_run_V (As := []) (rest := []) C0 hH lk_X11_196 (c_X11_look hAd k0 hk0 (wr σ (k0 + 13) 1 0) qσ2) (by decide) (ci := 11) hk0 (by decide) (cob_11 _ _ _) rfl rfl hl.1 rfl (Nat.le_of_ble_eq_true rfl) dX11_say_35) (fun H locs hH => ?_)
    refine lv_aload_n hx hb dX11_say_38 rfl (lv_at hl 1 rfl) ?_
    refine lv_iload_n hx hb dX11_say_39 rfl (lv_at hl 0 rfl) ?_
    obtain ⟨r3, qr3, h⟩ := ob_s h
    refine go_i hH (va_run_V (As := [.int s0]) (rest := []) C0 hH lk_X11_235 (c_X11_answer hAd k0 s0 hk0 σ2 qr3) (by decide) (ci := 11) hk0 (by decide) (cob_11 _ _ _) rfl rfl hl.1 rfl (Nat.le_of_ble_eq_true rfl) dX11_say_40) (fun H locs hH => ?_)
    exact r_iret C0 hH (pj1 h) (pj2 h) dX11_say_43
  · replace h := if_f h c1
    refine lv_iload_n hx hb dX11_say_32 rfl (lv_at hl 0 rfl) ?_
    exact r_iret C0 hH (pj1 h) (pj2 h) dX11_say_33
set_option maxRecDepth 100000 in
set_option maxHeartbeats 4000000 in
theorem w_X11_say_b0 {r : Int32} {σ' : Mem} (C0 : Cx E p m c cX11_say 2 s args RX11 meth (some .int))  (k0 : Nat) (hk0 : kd k0 = 11) {σ : Mem} {H : Heap} {locs : List Loc} {ls : Array Slot} (hH : Hs E s σ H locs) (hl : lv_has ls 2 [(0, .ref (ea E k0))]) (h : X11_say_b0 k0 σ = some (r, σ')) : W p l e (rmD 19) s m args below meth c H locs 0 0 (MQ below (QiM E r σ') args s 0 0 (eA E)) (F0 m 0 ls []) := by
  obtain ⟨⟨hx, hb, hml, hown, hts⟩, hr, hlocks, hF, hAd⟩ := id C0
  unfold X11_say_b0 at h
  refine lv_aload_n hx hb dX11_say_0 rfl (lv_at hl 0 rfl) ?_
  refine go_i hH (va_run_V (As := []) (rest := []) C0 hH lk_X11_156 (c_X11_isWithoutBook hAd k0 hk0 σ rfl) (by decide) (ci := 11) hk0 (by decide) (cob_11 _ _ _) rfl rfl hl.1 rfl (Nat.le_of_ble_eq_true rfl) dX11_say_1) (fun H locs hH => ?_)
  refine lv_if_eq (tgt := 12) hx hb dX11_say_4 (by decide) (fun c1 => ?_) (fun c1 => ?_)
  · replace h := if_t h c1
    refine lv_aload_n hx hb dX11_say_12 rfl (lv_at hl 0 rfl) ?_
    refine gf_X11_19 C0 hH hk0 dX11_say_13 ?_
    obtain ⟨r2, qr2, h⟩ := ob_s h
    refine go_i hH (va_run_V (As := []) (rest := []) C0 hH lk_X11_254 (c_X10_asks hAd (k0 + 13) (kf_11_1 hk0) σ qr2) (by decide) (ci := 10) (kf_11_1 hk0) (by decide) (cob_10 _ _ _) rfl rfl hl.1 rfl (Nat.le_of_ble_eq_true rfl) dX11_say_16) (fun H locs hH => ?_)
    exact w_X11_say_b19 C0  k0 r2 hk0 hH (lv_sub hl [0] rfl) h
  · replace h := if_f h c1
    refine lv_ldc hx hb hown (hts _ qK_X11_152) dX11_say_7 ?_
    refine lv_goto (tgt := 19) hx hb dX11_say_9 (by decide) ?_
    exact w_X11_say_b19 C0  k0 (-1000002) hk0 hH (lv_sub hl [0] rfl) h
theorem c_X11_say {l : Launch} {E : EnvT} (hAd : Ad E) (k0 : Nat) (hk0 : kd k0 = 11) (σ : Mem) {r : Int32} {σ' : Mem} (h : X11_say k0 σ = some (r, σ')) : Met l yX11_say (wsM yX11_say cX11_say 2 (some .int)) (rmD 19) (PcM E [.ref (ea E k0)] σ) (QiM E r σ') 0 0 (eA E) :=
  Met.ofM (by decide) (Nat.le_of_ble_eq_true rfl) (fun p e s m below meth c ls C0 hH hl => w_X11_say_b0 C0 k0 hk0 hH hl h) hAd
end
