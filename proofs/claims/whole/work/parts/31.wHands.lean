section
variable {p : Program} {l : Launch} {e : Env} {s : State} {m : MethodId} {args : Array Value} {below : List Frame} {meth : Method} {c : Code} {E : EnvT}
set_option maxRecDepth 100000 in
set_option maxHeartbeats 4000000 in
theorem w_X5_given_b0 {r : Int32} (C0 : Cx E p m c cX5_given 5 s args RX5 meth (some .int))  (v0 : Int32) (v1 : Int32) (v2 : Int32) (v3 : Int32)  {σ : Mem} {H : Heap} {locs : List Loc} {ls : Array Slot} (hH : Hs E s σ H locs) (hl : lv_has ls 5 [(0, .int v0), (1, .int v1), (2, .int v2), (3, .int v3)]) (h : X5_given_b0 v0 v1 v2 v3 = r) : W p l e (rmD 1) s m args below meth c H locs 0 0 (MQ below (QiM E r σ) args s 0 0 (eA E)) (F0 m 0 ls []) := by
  obtain ⟨⟨hx, hb, hml, hown, hts⟩, hr, hlocks, hF, hAd⟩ := id C0
  unfold X5_given_b0 at h
  refine lv_iload_n hx hb dX5_given_0 rfl (lv_at hl 1 rfl) ?_
  refine lv_iload_n hx hb dX5_given_1 rfl (lv_at hl 2 rfl) ?_
  refine lv_iload_n hx hb dX5_given_2 rfl (lv_at hl 3 rfl) ?_
  refine r_mmax C0 (h := 0) qM_X5_39 hl.1 rfl (Nat.le_of_ble_eq_true rfl) dX5_given_3 ?_
  refine r_mmax C0 (h := 0) qM_X5_39 hl.1 rfl (Nat.le_of_ble_eq_true rfl) dX5_given_6 ?_
  obtain ⟨x1, ex1, h⟩ := letv_s h
  refine topi_of ex1 ?_
  refine lv_istore (lv' := [(4, .int x1), (0, .int v0), (1, .int v1), (2, .int v2), (3, .int v3)]) hx hb dX5_given_9 hl (by decide) rfl (fun ls hl => ?_)
  refine lv_iload_n hx hb dX5_given_11 rfl (lv_at hl 1 rfl) ?_
  by_cases c2 : v0 = 2
  · replace h := if_t h c2
    refine lv_tableIn (off := 32) (tgt := 44) hx hb dX5_given_12 (by rw [c2]; decide) (by rw [c2]; decide) (by rw [c2]; rfl) (by decide) ?_
    refine lv_iload_n hx hb dX5_given_44 rfl (lv_at hl 2 rfl) ?_
    refine lv_iload_n hx hb dX5_given_45 rfl (lv_at hl 3 rfl) ?_
    refine lv_iadd hx hb dX5_given_46 ?_
    exact r_iret C0 hH h rfl dX5_given_47
  · replace h := if_f h c2
    by_cases c3 : v0 = 3
    · replace h := if_t h c3
      refine lv_tableIn (off := 36) (tgt := 48) hx hb dX5_given_12 (by rw [c3]; decide) (by rw [c3]; decide) (by rw [c3]; rfl) (by decide) ?_
      refine lv_iload_n hx hb dX5_given_48 rfl (lv_at hl 2 rfl) ?_
      refine lv_iload_n hx hb dX5_given_49 rfl (lv_at hl 3 rfl) ?_
      refine lv_iconst (v := 2) hx hb dX5_given_50 (by decide) ?_
      refine lv_idiv hx hb dX5_given_51 (by decide) ?_
      refine lv_iadd hx hb dX5_given_52 ?_
      refine lv_iload_n hx hb dX5_given_53 rfl (lv_at hl 4 rfl) ?_
      refine lv_iadd hx hb dX5_given_54 ?_
      exact r_iret C0 hH h rfl dX5_given_55
    · replace h := if_f h c3
      by_cases c4 : v0 = 4
      · replace h := if_t h c4
        refine lv_tableIn (off := 44) (tgt := 56) hx hb dX5_given_12 (by rw [c4]; decide) (by rw [c4]; decide) (by rw [c4]; rfl) (by decide) ?_
        refine lv_iload hx hb dX5_given_56 (lv_at hl 0 rfl) ?_
        exact r_iret C0 hH h rfl dX5_given_58
      · replace h := if_f h c4
        by_cases c5 : v0 = 5
        · replace h := if_t h c5
          refine lv_tableIn (off := 47) (tgt := 59) hx hb dX5_given_12 (by rw [c5]; decide) (by rw [c5]; decide) (by rw [c5]; rfl) (by decide) ?_
          refine lv_iload hx hb dX5_given_59 (lv_at hl 0 rfl) ?_
          refine lv_iconst (v := 5) hx hb dX5_given_61 (by decide) ?_
          refine lv_iadd hx hb dX5_given_62 ?_
          exact r_iret C0 hH h rfl dX5_given_63
        · replace h := if_f h c5
          refine lv_tableOut (tgt := 64) hx hb dX5_given_12 (by have := i32_nv (v := 2) c2 (by decide); have := i32_nv (v := 3) c3 (by decide); have := i32_nv (v := 4) c4 (by decide); have := i32_nv (v := 5) c5 (by decide); omega) (by decide) ?_
          refine lv_iload_n hx hb dX5_given_64 rfl (lv_at hl 2 rfl) ?_
          refine lv_iload_n hx hb dX5_given_65 rfl (lv_at hl 3 rfl) ?_
          refine lv_iadd hx hb dX5_given_66 ?_
          refine lv_iload_n hx hb dX5_given_67 rfl (lv_at hl 4 rfl) ?_
          refine lv_iadd hx hb dX5_given_68 ?_
          exact r_iret C0 hH h rfl dX5_given_69
theorem c_X5_given {l : Launch} {E : EnvT} (hAd : Ad E) (v0 : Int32) (v1 : Int32) (v2 : Int32) (v3 : Int32)  (σ : Mem) {r : Int32} (h : X5_given v0 v1 v2 v3 = r) : Met l yX5_given (wsM yX5_given cX5_given 5 (some .int)) (rmD 1) (PcM E [.int v0, .int v1, .int v2, .int v3] σ) (QiM E r σ) 0 0 (eA E) :=
  Met.ofM (by decide) (Nat.le_of_ble_eq_true rfl) (fun p e s m below meth c ls C0 hH hl => w_X5_given_b0 C0 v0 v1 v2 v3  hH hl h) hAd
set_option maxRecDepth 100000 in
set_option maxHeartbeats 4000000 in
theorem w_X5_between_b0 {r : Int32} (C0 : Cx E p m c cX5_between 6 s args RX5 meth (some .int))  (k0 : Nat) (v1 : Int32) (v2 : Int32) (hk0 : kd k0 = 2) {σ : Mem} {H : Heap} {locs : List Loc} {ls : Array Slot} (hH : Hs E s σ H locs) (hl : lv_has ls 6 [(0, .ref (ea E k0)), (1, .int v1), (2, .int v2)]) (h : X5_between_b0 k0 v1 v2 σ = some r) : W p l e (rmD 2) s m args below meth c H locs 0 0 (MQ below (QiM E r σ) args s 0 0 (eA E)) (F0 m 0 ls []) := by
  obtain ⟨⟨hx, hb, hml, hown, hts⟩, hr, hlocks, hF, hAd⟩ := id C0
  unfold X5_between_b0 at h
  refine lv_aload_n hx hb dX5_between_0 rfl (lv_at hl 0 rfl) ?_
  refine gf_X5_45 C0 hH hk0 dX5_between_1 ?_
  refine lv_iconst (v := 0) hx hb dX5_between_4 (by decide) ?_
  refine ra_13 C0 hH (kf_2_4 hk0) (vin (by decide)) dX5_between_5 ?_
  refine lv_iload_n hx hb dX5_between_6 rfl (lv_at hl 1 rfl) ?_
  obtain ⟨b1, h⟩ := gdx_s h
  refine r_iald C0 hH (n := 10) (ka_13 (kf_2_4 hk0) (vin (by decide))) b1 dX5_between_7 ?_
  refine lv_aload_n hx hb dX5_between_8 rfl (lv_at hl 0 rfl) ?_
  refine gf_X5_45 C0 hH hk0 dX5_between_9 ?_
  refine lv_iconst (v := 0) hx hb dX5_between_12 (by decide) ?_
  refine ra_13 C0 hH (kf_2_4 hk0) (vin (by decide)) dX5_between_13 ?_
  refine lv_iload_n hx hb dX5_between_14 rfl (lv_at hl 2 rfl) ?_
  obtain ⟨b2, h⟩ := gdx_s h
  refine r_iald C0 hH (n := 10) (ka_13 (kf_2_4 hk0) (vin (by decide))) b2 dX5_between_15 ?_
  refine lv_isub hx hb dX5_between_16 ?_
  refine r_mabs C0 (h := 1) qM_X5_48 hl.1 rfl (Nat.le_of_ble_eq_true rfl) dX5_between_17 ?_
  obtain ⟨x3, ex3, h⟩ := letv_s h
  refine topi_of ex3 ?_
  refine lv_istore_n (lv' := [(3, .int x3), (0, .ref (ea E k0)), (1, .int v1), (2, .int v2)]) hx hb dX5_between_20 rfl hl (by decide) rfl (fun ls hl => ?_)
  refine lv_aload_n hx hb dX5_between_21 rfl (lv_at hl 1 rfl) ?_
  refine gf_X5_45 C0 hH hk0 dX5_between_22 ?_
  refine lv_iconst (v := 1) hx hb dX5_between_25 (by decide) ?_
  refine ra_13 C0 hH (kf_2_4 hk0) (vin (by decide)) dX5_between_26 ?_
  refine lv_iload_n hx hb dX5_between_27 rfl (lv_at hl 2 rfl) ?_
  obtain ⟨b4, h⟩ := gdx_s h
  refine r_iald C0 hH (n := 10) (ka_13 (kf_2_4 hk0) (vin (by decide))) b4 dX5_between_28 ?_
  refine lv_aload_n hx hb dX5_between_29 rfl (lv_at hl 1 rfl) ?_
  refine gf_X5_45 C0 hH hk0 dX5_between_30 ?_
  refine lv_iconst (v := 1) hx hb dX5_between_33 (by decide) ?_
  refine ra_13 C0 hH (kf_2_4 hk0) (vin (by decide)) dX5_between_34 ?_
  refine lv_iload_n hx hb dX5_between_35 rfl (lv_at hl 3 rfl) ?_
  obtain ⟨b5, h⟩ := gdx_s h
  refine r_iald C0 hH (n := 10) (ka_13 (kf_2_4 hk0) (vin (by decide))) b5 dX5_between_36 ?_
  refine lv_isub hx hb dX5_between_37 ?_
  refine r_mabs C0 (h := 1) qM_X5_48 hl.1 rfl (Nat.le_of_ble_eq_true rfl) dX5_between_38 ?_
  obtain ⟨x6, ex6, h⟩ := letv_s h
  refine topi_of ex6 ?_
  refine lv_istore (lv' := [(4, .int x6), (3, .int x3), (0, .ref (ea E k0)), (1, .int v1), (2, .int v2)]) hx hb dX5_between_41 hl (by decide) rfl (fun ls hl => ?_)
  refine lv_aload_n hx hb dX5_between_43 rfl (lv_at hl 2 rfl) ?_
  refine gf_X5_45 C0 hH hk0 dX5_between_44 ?_
  refine lv_iconst (v := 2) hx hb dX5_between_47 (by decide) ?_
  refine ra_13 C0 hH (kf_2_4 hk0) (vin (by decide)) dX5_between_48 ?_
  refine lv_iload_n hx hb dX5_between_49 rfl (lv_at hl 3 rfl) ?_
  obtain ⟨b7, h⟩ := gdx_s h
  refine r_iald C0 hH (n := 10) (ka_13 (kf_2_4 hk0) (vin (by decide))) b7 dX5_between_50 ?_
  refine lv_aload_n hx hb dX5_between_51 rfl (lv_at hl 2 rfl) ?_
  refine gf_X5_45 C0 hH hk0 dX5_between_52 ?_
  refine lv_iconst (v := 2) hx hb dX5_between_55 (by decide) ?_
  refine ra_13 C0 hH (kf_2_4 hk0) (vin (by decide)) dX5_between_56 ?_
  refine lv_iload_n hx hb dX5_between_57 rfl (lv_at hl 4 rfl) ?_
  obtain ⟨b8, h⟩ := gdx_s h
  refine r_iald C0 hH (n := 10) (ka_13 (kf_2_4 hk0) (vin (by decide))) b8 dX5_between_58 ?_
  refine lv_isub hx hb dX5_between_59 ?_
  refine r_mabs C0 (h := 1) qM_X5_48 hl.1 rfl (Nat.le_of_ble_eq_true rfl) dX5_between_60 ?_
  obtain ⟨x9, ex9, h⟩ := letv_s h
  refine topi_of ex9 ?_
  refine lv_istore (lv' := [(5, .int x9), (4, .int x6), (3, .int x3), (0, .ref (ea E k0)), (1, .int v1), (2, .int v2)]) hx hb dX5_between_63 hl (by decide) rfl (fun ls hl => ?_)
  refine lv_aload_n hx hb dX5_between_65 rfl (lv_at hl 3 rfl) ?_
  refine gf_X5_52 C0 hH hk0 dX5_between_66 ?_
  refine lv_iload_n hx hb dX5_between_69 rfl (lv_at hl 4 rfl) ?_
  obtain ⟨b10, h⟩ := gdx_s h
  refine r_iald C0 hH (n := 10) (kf_2_3 hk0) b10 dX5_between_70 ?_
  refine lv_iload_n hx hb dX5_between_71 rfl (lv_at hl 2 rfl) ?_
  refine lv_iload hx hb dX5_between_72 (lv_at hl 1 rfl) ?_
  refine lv_iload hx hb dX5_between_74 (lv_at hl 0 rfl) ?_
  refine go_i hH (va_run_S (As := [.int (σ (k0 + 1) (nc v1)), .int x3, .int x6, .int x9]) (rest := []) C0 hH lk_X5_55 (c_X5_given hAd (σ (k0 + 1) (nc v1)) x3 x6 x9  σ rfl) (by decide) rfl hl.1 rfl (Nat.le_of_ble_eq_true rfl) dX5_between_76) (fun H locs hH => ?_)
  refine lv_aload_n hx hb dX5_between_79 rfl (lv_at hl 3 rfl) ?_
  refine gf_X5_52 C0 hH hk0 dX5_between_80 ?_
  refine lv_iload_n hx hb dX5_between_83 rfl (lv_at hl 5 rfl) ?_
  obtain ⟨b11, h⟩ := gdx_s h
  refine r_iald C0 hH (n := 10) (kf_2_3 hk0) b11 dX5_between_84 ?_
  refine lv_iload_n hx hb dX5_between_85 rfl (lv_at hl 2 rfl) ?_
  refine lv_iload hx hb dX5_between_86 (lv_at hl 1 rfl) ?_
  refine lv_iload hx hb dX5_between_88 (lv_at hl 0 rfl) ?_
  refine go_i hH (va_run_S (As := [.int (σ (k0 + 1) (nc v2)), .int x3, .int x6, .int x9]) (rest := [.int (X5_given (σ (k0 + 1) (nc v1)) x3 x6 x9)]) C0 hH lk_X5_55 (c_X5_given hAd (σ (k0 + 1) (nc v2)) x3 x6 x9  σ rfl) (by decide) rfl hl.1 rfl (Nat.le_of_ble_eq_true rfl) dX5_between_90) (fun H locs hH => ?_)
  refine r_mmin C0 (h := 1) qM_X5_59 hl.1 rfl (Nat.le_of_ble_eq_true rfl) dX5_between_93 ?_
  exact r_iret C0 hH (Option.some.inj h) rfl dX5_between_96
theorem c_X5_between {l : Launch} {E : EnvT} (hAd : Ad E) (k0 : Nat) (v1 : Int32) (v2 : Int32) (hk0 : kd k0 = 2) (σ : Mem) {r : Int32} (h : X5_between k0 v1 v2 σ = some r) : Met l yX5_between (wsM yX5_between cX5_between 6 (some .int)) (rmD 2) (PcM E [.ref (ea E k0), .int v1, .int v2] σ) (QiM E r σ) 0 0 (eA E) :=
  Met.ofM (by decide) (Nat.le_of_ble_eq_true rfl) (fun p e s m below meth c ls C0 hH hl => w_X5_between_b0 C0 k0 v1 v2 hk0 hH hl h) hAd
set_option maxRecDepth 100000 in
set_option maxHeartbeats 4000000 in
theorem w_X5_surveyFrom_b25 {σ' : Mem} (C0 : Cx E p m c cX5_surveyFrom 5 s args RX5 meth (none)) (K2 : Nat → Nat → Int32 → Int32 → Mem → Option Mem) (hK2 : ∀ (k0 : Nat) (k1 : Nat) (v2 : Int32) (v3 : Int32) (hk0 : kd k0 = 5) (hk1 : kd k1 = 2) (σ : Mem) (H : Heap) (locs : List Loc) (ls : Array Slot), Hs E s σ H locs → lv_has ls 5 [(0, .ref (ea E k0)), (1, .ref (ea E k1)), (2, .int v2), (3, .int v3)] → K2 k0 k1 v2 v3 σ = some σ' → W p l e (rmD 3) s m args below meth c H locs 0 0 (MQ below (QvM E σ') args s 0 0 (eA E)) (F0 m 2 ls []))  (k0 : Nat) (k1 : Nat) (v2 : Int32) (v3 : Int32) (s0 : Int32) (hk0 : kd k0 = 5) (hk1 : kd k1 = 2) {σ : Mem} {H : Heap} {locs : List Loc} {ls : Array Slot} (hH : Hs E s σ H locs) (hl : lv_has ls 5 [(0, .ref (ea E k0)), (1, .ref (ea E k1)), (2, .int v2), (3, .int v3)]) (h : X5_surveyFrom_b25 K2 k0 k1 v2 v3 s0 σ = some σ') : W p l e (rmD 3) s m args below meth c H locs 0 0 (MQ below (QvM E σ') args s 0 0 (eA E)) (F0 m 25 ls [.int s0]) := by
  obtain ⟨⟨hx, hb, hml, hown, hts⟩, hr, hlocks, hF, hAd⟩ := id C0
  unfold X5_surveyFrom_b25 at h
  refine lv_istore (lv' := [(4, .int s0), (0, .ref (ea E k0)), (1, .ref (ea E k1)), (2, .int v2), (3, .int v3)]) hx hb dX5_surveyFrom_25 hl (by decide) rfl (fun ls hl => ?_)
  refine lv_aload_n hx hb dX5_surveyFrom_27 rfl (lv_at hl 1 rfl) ?_
  refine gf_X5_17 C0 hH hk0 dX5_surveyFrom_28 ?_
  refine lv_iload_n hx hb dX5_surveyFrom_31 rfl (lv_at hl 3 rfl) ?_
  obtain ⟨b1, h⟩ := gdx_s h
  refine ra_15 C0 hH (kf_5_1 hk0) b1 dX5_surveyFrom_32 ?_
  refine lv_iload_n hx hb dX5_surveyFrom_33 rfl (lv_at hl 4 rfl) ?_
  refine lv_iload hx hb dX5_surveyFrom_34 (lv_at hl 0 rfl) ?_
  obtain ⟨b2, h⟩ := gdx_s h
  refine r_iast C0 hH (n := 10) (ka_15 (kf_5_1 hk0) b1) b2 dX5_surveyFrom_36 (fun H locs hH => ?_)
  refine lv_aload_n hx hb dX5_surveyFrom_37 rfl (lv_at hl 1 rfl) ?_
  refine gf_X5_17 C0 hH hk0 dX5_surveyFrom_38 ?_
  refine lv_iload_n hx hb dX5_surveyFrom_41 rfl (lv_at hl 4 rfl) ?_
  obtain ⟨b3, h⟩ := gdx_s h
  refine ra_15 C0 hH (kf_5_1 hk0) b3 dX5_surveyFrom_42 ?_
  refine lv_iload_n hx hb dX5_surveyFrom_43 rfl (lv_at hl 3 rfl) ?_
  refine lv_iload hx hb dX5_surveyFrom_44 (lv_at hl 0 rfl) ?_
  obtain ⟨σ4, eσ4, h⟩ := letv_s h
  replace hH := hs_of eσ4 hH
  obtain ⟨b5, h⟩ := gdx_s h
  refine r_iast C0 hH (n := 10) (ka_15 (kf_5_1 hk0) b3) b5 dX5_surveyFrom_46 (fun H locs hH => ?_)
  refine lv_iinc (v := v3 + 1) (lv' := [(3, .int (v3 + 1)), (4, .int s0), (0, .ref (ea E k0)), (1, .ref (ea E k1)), (2, .int v2)]) hx hb dX5_surveyFrom_47 hl (k := 4) rfl rfl (by decide) rfl (fun ls hl => ?_)
  refine lv_goto (tgt := 2) hx hb dX5_surveyFrom_50 (by decide) ?_
  exact hK2 k0 k1 v2 (v3 + 1) hk0 hk1 _ _ _ _ hH (lv_sub hl [2, 3, 4, 0] rfl) h
set_option maxRecDepth 100000 in
set_option maxHeartbeats 4000000 in
theorem w_X5_surveyFrom_b2 {σ' : Mem} (C0 : Cx E p m c cX5_surveyFrom 5 s args RX5 meth (none)) (K2 : Nat → Nat → Int32 → Int32 → Mem → Option Mem) (hK2 : ∀ (k0 : Nat) (k1 : Nat) (v2 : Int32) (v3 : Int32) (hk0 : kd k0 = 5) (hk1 : kd k1 = 2) (σ : Mem) (H : Heap) (locs : List Loc) (ls : Array Slot), Hs E s σ H locs → lv_has ls 5 [(0, .ref (ea E k0)), (1, .ref (ea E k1)), (2, .int v2), (3, .int v3)] → K2 k0 k1 v2 v3 σ = some σ' → W p l e (rmD 3) s m args below meth c H locs 0 0 (MQ below (QvM E σ') args s 0 0 (eA E)) (F0 m 2 ls []))  (k0 : Nat) (k1 : Nat) (v2 : Int32) (v3 : Int32) (hk0 : kd k0 = 5) (hk1 : kd k1 = 2) {σ : Mem} {H : Heap} {locs : List Loc} {ls : Array Slot} (hH : Hs E s σ H locs) (hl : lv_has ls 5 [(0, .ref (ea E k0)), (1, .ref (ea E k1)), (2, .int v2), (3, .int v3)]) (h : X5_surveyFrom_b2 K2 k0 k1 v2 v3 σ = some σ') : W p l e (rmD 3) s m args below meth c H locs 0 0 (MQ below (QvM E σ') args s 0 0 (eA E)) (F0 m 2 ls []) := by
  obtain ⟨⟨hx, hb, hml, hown, hts⟩, hr, hlocks, hF, hAd⟩ := id C0
  unfold X5_surveyFrom_b2 at h
  refine lv_iload_n hx hb dX5_surveyFrom_2 rfl (lv_at hl 3 rfl) ?_
  refine lv_aload_n hx hb dX5_surveyFrom_3 rfl (lv_at hl 0 rfl) ?_
  refine gf_X5_9 C0 hH hk0 dX5_surveyFrom_4 ?_
  refine lv_icmp_ge (tgt := 53) hx hb dX5_surveyFrom_7 (by decide) (fun c1 => ?_) (fun c1 => ?_)
  · replace h := if_t h c1
    exact r_vret C0 hH (Option.some.inj h) dX5_surveyFrom_53
  · replace h := if_f h c1
    refine lv_iload_n hx hb dX5_surveyFrom_10 rfl (lv_at hl 2 rfl) ?_
    refine lv_iload_n hx hb dX5_surveyFrom_11 rfl (lv_at hl 3 rfl) ?_
    refine lv_icmp_ne (tgt := 19) hx hb dX5_surveyFrom_12 (by decide) (fun c2 => ?_) (fun c2 => ?_)
    · replace h := if_f h c2
      refine lv_aload_n hx hb dX5_surveyFrom_19 rfl (lv_at hl 1 rfl) ?_
      refine lv_iload_n hx hb dX5_surveyFrom_20 rfl (lv_at hl 2 rfl) ?_
      refine lv_iload_n hx hb dX5_surveyFrom_21 rfl (lv_at hl 3 rfl) ?_
      obtain ⟨r3, qr3, h⟩ := ob_s h
      refine go_i hH (va_run_S (As := [.ref (ea E k1), .int v2, .int v3]) (rest := []) C0 hH lk_X5_31 (c_X5_between hAd k1 v2 v3 hk1 σ qr3) (by decide) rfl hl.1 rfl (Nat.le_of_ble_eq_true rfl) dX5_surveyFrom_22) (fun H locs hH => ?_)
      exact w_X5_surveyFrom_b25 C0 K2 hK2 k0 k1 v2 v3 r3 hk0 hk1 hH (lv_sub hl [0, 1, 2, 3] rfl) h
    · replace h := if_t h c2
      refine lv_iconst (v := 0) hx hb dX5_surveyFrom_15 (by decide) ?_
      refine lv_goto (tgt := 25) hx hb dX5_surveyFrom_16 (by decide) ?_
      exact w_X5_surveyFrom_b25 C0 K2 hK2 k0 k1 v2 v3 0 hk0 hk1 hH (lv_sub hl [0, 1, 2, 3] rfl) h
set_option maxRecDepth 100000 in
set_option maxHeartbeats 4000000 in
theorem w_X5_surveyFrom_l2 {σ' : Mem} (C0 : Cx E p m c cX5_surveyFrom 5 s args RX5 meth (none))  (n : Nat) : ∀ (k0 : Nat) (k1 : Nat) (v2 : Int32) (v3 : Int32) (hk0 : kd k0 = 5) (hk1 : kd k1 = 2) (σ : Mem) (H : Heap) (locs : List Loc) (ls : Array Slot), Hs E s σ H locs → lv_has ls 5 [(0, .ref (ea E k0)), (1, .ref (ea E k1)), (2, .int v2), (3, .int v3)] → X5_surveyFrom_l2 n k0 k1 v2 v3 σ = some σ' → W p l e (rmD 3) s m args below meth c H locs 0 0 (MQ below (QvM E σ') args s 0 0 (eA E)) (F0 m 2 ls []) := by
  induction n with
  | zero =>
    intro k0 k1 v2 v3 hk0 hk1 σ H locs ls hH hl h
    cases h
  | succ n ih =>
    intro k0 k1 v2 v3 hk0 hk1 σ H locs ls hH hl h
    exact w_X5_surveyFrom_b2 C0 (X5_surveyFrom_l2 n)  ih k0 k1 v2 v3 hk0 hk1 hH hl h
set_option maxRecDepth 100000 in
set_option maxHeartbeats 4000000 in
theorem w_X5_surveyFrom_b0 {σ' : Mem} (C0 : Cx E p m c cX5_surveyFrom 5 s args RX5 meth (none))  (k0 : Nat) (k1 : Nat) (v2 : Int32) (hk0 : kd k0 = 5) (hk1 : kd k1 = 2) {σ : Mem} {H : Heap} {locs : List Loc} {ls : Array Slot} (hH : Hs E s σ H locs) (hl : lv_has ls 5 [(0, .ref (ea E k0)), (1, .ref (ea E k1)), (2, .int v2)]) (h : X5_surveyFrom_b0 k0 k1 v2 σ = some σ') : W p l e (rmD 3) s m args below meth c H locs 0 0 (MQ below (QvM E σ') args s 0 0 (eA E)) (F0 m 0 ls []) := by
  obtain ⟨⟨hx, hb, hml, hown, hts⟩, hr, hlocks, hF, hAd⟩ := id C0
  unfold X5_surveyFrom_b0 at h
  refine lv_iconst (v := 0) hx hb dX5_surveyFrom_0 (by decide) ?_
  refine lv_istore_n (lv' := [(3, .int 0), (0, .ref (ea E k0)), (1, .ref (ea E k1)), (2, .int v2)]) hx hb dX5_surveyFrom_1 rfl hl (by decide) rfl (fun ls hl => ?_)
  exact w_X5_surveyFrom_l2 C0  FU k0 k1 v2 0 hk0 hk1 _ _ _ _ hH (lv_sub hl [1, 2, 3, 0] rfl) h
theorem c_X5_surveyFrom {l : Launch} {E : EnvT} (hAd : Ad E) (k0 : Nat) (k1 : Nat) (v2 : Int32) (hk0 : kd k0 = 5) (hk1 : kd k1 = 2) (σ : Mem) {σ' : Mem} (h : X5_surveyFrom k0 k1 v2 σ = some σ') : Met l yX5_surveyFrom (wsM yX5_surveyFrom cX5_surveyFrom 5 (none)) (rmD 3) (PcM E [.ref (ea E k0), .ref (ea E k1), .int v2] σ) (QvM E σ') 0 0 (eA E) :=
  Met.ofM (by decide) (Nat.le_of_ble_eq_true rfl) (fun p e s m below meth c ls C0 hH hl => w_X5_surveyFrom_b0 C0 k0 k1 v2 hk0 hk1 hH hl h) hAd
set_option maxRecDepth 100000 in
set_option maxHeartbeats 4000000 in
theorem w_X5_survey_b10 {σ' : Mem} (C0 : Cx E p m c cX5_survey 3 s args RX5 meth (none)) (K10 : Nat → Nat → Int32 → Mem → Option Mem) (hK10 : ∀ (k0 : Nat) (k1 : Nat) (v2 : Int32) (hk0 : kd k0 = 5) (hk1 : kd k1 = 2) (σ : Mem) (H : Heap) (locs : List Loc) (ls : Array Slot), Hs E s σ H locs → lv_has ls 3 [(0, .ref (ea E k0)), (1, .ref (ea E k1)), (2, .int v2)] → K10 k0 k1 v2 σ = some σ' → W p l e (rmD 4) s m args below meth c H locs 0 0 (MQ below (QvM E σ') args s 0 0 (eA E)) (F0 m 10 ls []))  (k0 : Nat) (k1 : Nat) (v2 : Int32) (hk0 : kd k0 = 5) (hk1 : kd k1 = 2) {σ : Mem} {H : Heap} {locs : List Loc} {ls : Array Slot} (hH : Hs E s σ H locs) (hl : lv_has ls 3 [(0, .ref (ea E k0)), (1, .ref (ea E k1)), (2, .int v2)]) (h : X5_survey_b10 K10 k0 k1 v2 σ = some σ') : W p l e (rmD 4) s m args below meth c H locs 0 0 (MQ below (QvM E σ') args s 0 0 (eA E)) (F0 m 10 ls []) := by
  obtain ⟨⟨hx, hb, hml, hown, hts⟩, hr, hlocks, hF, hAd⟩ := id C0
  unfold X5_survey_b10 at h
  refine lv_iload_n hx hb dX5_survey_10 rfl (lv_at hl 2 rfl) ?_
  refine lv_aload_n hx hb dX5_survey_11 rfl (lv_at hl 0 rfl) ?_
  refine gf_X5_9 C0 hH hk0 dX5_survey_12 ?_
  refine lv_icmp_ge (tgt := 30) hx hb dX5_survey_15 (by decide) (fun c1 => ?_) (fun c1 => ?_)
  · replace h := if_t h c1
    exact r_vret C0 hH (Option.some.inj h) dX5_survey_30
  · replace h := if_f h c1
    refine lv_aload_n hx hb dX5_survey_18 rfl (lv_at hl 0 rfl) ?_
    refine lv_aload_n hx hb dX5_survey_19 rfl (lv_at hl 1 rfl) ?_
    refine lv_iload_n hx hb dX5_survey_20 rfl (lv_at hl 2 rfl) ?_
    obtain ⟨σ2, qσ2, h⟩ := ob_s h
    refine go_v hH (va_run_V (As := [.ref (ea E k1), .int v2]) (rest := []) C0 hH lk_X5_27 (c_X5_surveyFrom hAd k0 k1 v2 hk0 hk1 σ qσ2) (by decide) (ci := 5) hk0 (by decide) (cob_5 _ _ _) rfl rfl hl.1 rfl (Nat.le_of_ble_eq_true rfl) dX5_survey_21) (fun H locs hH => ?_)
    refine lv_iinc (v := v2 + 1) (lv' := [(2, .int (v2 + 1)), (0, .ref (ea E k0)), (1, .ref (ea E k1))]) hx hb dX5_survey_24 hl (k := 2) rfl rfl (by decide) rfl (fun ls hl => ?_)
    refine lv_goto (tgt := 10) hx hb dX5_survey_27 (by decide) ?_
    exact hK10 k0 k1 (v2 + 1) hk0 hk1 _ _ _ _ hH (lv_sub hl [1, 2, 0] rfl) h
set_option maxRecDepth 100000 in
set_option maxHeartbeats 4000000 in
theorem w_X5_survey_l10 {σ' : Mem} (C0 : Cx E p m c cX5_survey 3 s args RX5 meth (none))  (n : Nat) : ∀ (k0 : Nat) (k1 : Nat) (v2 : Int32) (hk0 : kd k0 = 5) (hk1 : kd k1 = 2) (σ : Mem) (H : Heap) (locs : List Loc) (ls : Array Slot), Hs E s σ H locs → lv_has ls 3 [(0, .ref (ea E k0)), (1, .ref (ea E k1)), (2, .int v2)] → X5_survey_l10 n k0 k1 v2 σ = some σ' → W p l e (rmD 4) s m args below meth c H locs 0 0 (MQ below (QvM E σ') args s 0 0 (eA E)) (F0 m 10 ls []) := by
  induction n with
  | zero =>
    intro k0 k1 v2 hk0 hk1 σ H locs ls hH hl h
    cases h
  | succ n ih =>
    intro k0 k1 v2 hk0 hk1 σ H locs ls hH hl h
    exact w_X5_survey_b10 C0 (X5_survey_l10 n)  ih k0 k1 v2 hk0 hk1 hH hl h
set_option maxRecDepth 100000 in
set_option maxHeartbeats 4000000 in
theorem w_X5_survey_b0 {σ' : Mem} (C0 : Cx E p m c cX5_survey 3 s args RX5 meth (none))  (k0 : Nat) (k1 : Nat) (hk0 : kd k0 = 5) (hk1 : kd k1 = 2) {σ : Mem} {H : Heap} {locs : List Loc} {ls : Array Slot} (hH : Hs E s σ H locs) (hl : lv_has ls 3 [(0, .ref (ea E k0)), (1, .ref (ea E k1))]) (h : X5_survey_b0 k0 k1 σ = some σ') : W p l e (rmD 4) s m args below meth c H locs 0 0 (MQ below (QvM E σ') args s 0 0 (eA E)) (F0 m 0 ls []) := by
  obtain ⟨⟨hx, hb, hml, hown, hts⟩, hr, hlocks, hF, hAd⟩ := id C0
  unfold X5_survey_b0 at h
  refine lv_aload_n hx hb dX5_survey_0 rfl (lv_at hl 0 rfl) ?_
  refine lv_aload_n hx hb dX5_survey_1 rfl (lv_at hl 1 rfl) ?_
  refine gf_X5_24 C0 hH hk1 dX5_survey_2 ?_
  refine pf_X5_9 C0 hH hk0 dX5_survey_5 (fun H locs hH => ?_)
  refine lv_iconst (v := 0) hx hb dX5_survey_8 (by decide) ?_
  refine lv_istore_n (lv' := [(2, .int 0), (0, .ref (ea E k0)), (1, .ref (ea E k1))]) hx hb dX5_survey_9 rfl hl (by decide) rfl (fun ls hl => ?_)
  exact w_X5_survey_l10 C0  FU k0 k1 0 hk0 hk1 _ _ _ _ hH (lv_sub hl [1, 2, 0] rfl) h
theorem c_X5_survey {l : Launch} {E : EnvT} (hAd : Ad E) (k0 : Nat) (k1 : Nat) (hk0 : kd k0 = 5) (hk1 : kd k1 = 2) (σ : Mem) {σ' : Mem} (h : X5_survey k0 k1 σ = some σ') : Met l yX5_survey (wsM yX5_survey cX5_survey 3 (none)) (rmD 4) (PcM E [.ref (ea E k0), .ref (ea E k1)] σ) (QvM E σ') 0 0 (eA E) :=
  Met.ofM (by decide) (Nat.le_of_ble_eq_true rfl) (fun p e s m below meth c ls C0 hH hl => w_X5_survey_b0 C0 k0 k1 hk0 hk1 hH hl h) hAd
set_option maxRecDepth 100000 in
set_option maxHeartbeats 4000000 in
theorem w_X5_markNear_b51 {σ' : Mem} (C0 : Cx E p m c cX5_markNear 4 s args RX5 meth (none)) (K2 : Nat → Int32 → Int32 → Mem → Option Mem) (K19 : Nat → Int32 → Int32 → Int32 → Mem → Option Mem) (hK2 : ∀ (k0 : Nat) (v1 : Int32) (v2 : Int32) (hk0 : kd k0 = 5) (σ : Mem) (H : Heap) (locs : List Loc) (ls : Array Slot), Hs E s σ H locs → lv_has ls 4 [(0, .ref (ea E k0)), (1, .int v1), (2, .int v2)] → K2 k0 v1 v2 σ = some σ' → W p l e (rmD 0) s m args below meth c H locs 0 0 (MQ below (QvM E σ') args s 0 0 (eA E)) (F0 m 2 ls [])) (hK19 : ∀ (k0 : Nat) (v1 : Int32) (v2 : Int32) (v3 : Int32) (hk0 : kd k0 = 5) (σ : Mem) (H : Heap) (locs : List Loc) (ls : Array Slot), Hs E s σ H locs → lv_has ls 4 [(0, .ref (ea E k0)), (1, .int v1), (2, .int v2), (3, .int v3)] → K19 k0 v1 v2 v3 σ = some σ' → W p l e (rmD 0) s m args below meth c H locs 0 0 (MQ below (QvM E σ') args s 0 0 (eA E)) (F0 m 19 ls []))  (k0 : Nat) (v1 : Int32) (v2 : Int32) (v3 : Int32) (hk0 : kd k0 = 5) {σ : Mem} {H : Heap} {locs : List Loc} {ls : Array Slot} (hH : Hs E s σ H locs) (hl : lv_has ls 4 [(0, .ref (ea E k0)), (1, .int v1), (2, .int v2), (3, .int v3)]) (h : X5_markNear_b51 K2 K19 k0 v1 v2 v3 σ = some σ') : W p l e (rmD 0) s m args below meth c H locs 0 0 (MQ below (QvM E σ') args s 0 0 (eA E)) (F0 m 51 ls []) := by
  obtain ⟨⟨hx, hb, hml, hown, hts⟩, hr, hlocks, hF, hAd⟩ := id C0
  unfold X5_markNear_b51 at h
  refine lv_iinc (v := v3 + 1) (lv' := [(3, .int (v3 + 1)), (0, .ref (ea E k0)), (1, .int v1), (2, .int v2)]) hx hb dX5_markNear_51 hl (k := 3) rfl rfl (by decide) rfl (fun ls hl => ?_)
  refine lv_goto (tgt := 19) hx hb dX5_markNear_54 (by decide) ?_
  exact hK19 k0 v1 v2 (v3 + 1) hk0 _ _ _ _ hH (lv_sub hl [1, 2, 3, 0] rfl) h
set_option maxRecDepth 100000 in
set_option maxHeartbeats 4000000 in
theorem w_X5_markNear_b19 {σ' : Mem} (C0 : Cx E p m c cX5_markNear 4 s args RX5 meth (none)) (K2 : Nat → Int32 → Int32 → Mem → Option Mem) (K19 : Nat → Int32 → Int32 → Int32 → Mem → Option Mem) (hK2 : ∀ (k0 : Nat) (v1 : Int32) (v2 : Int32) (hk0 : kd k0 = 5) (σ : Mem) (H : Heap) (locs : List Loc) (ls : Array Slot), Hs E s σ H locs → lv_has ls 4 [(0, .ref (ea E k0)), (1, .int v1), (2, .int v2)] → K2 k0 v1 v2 σ = some σ' → W p l e (rmD 0) s m args below meth c H locs 0 0 (MQ below (QvM E σ') args s 0 0 (eA E)) (F0 m 2 ls [])) (hK19 : ∀ (k0 : Nat) (v1 : Int32) (v2 : Int32) (v3 : Int32) (hk0 : kd k0 = 5) (σ : Mem) (H : Heap) (locs : List Loc) (ls : Array Slot), Hs E s σ H locs → lv_has ls 4 [(0, .ref (ea E k0)), (1, .int v1), (2, .int v2), (3, .int v3)] → K19 k0 v1 v2 v3 σ = some σ' → W p l e (rmD 0) s m args below meth c H locs 0 0 (MQ below (QvM E σ') args s 0 0 (eA E)) (F0 m 19 ls []))  (k0 : Nat) (v1 : Int32) (v2 : Int32) (v3 : Int32) (hk0 : kd k0 = 5) {σ : Mem} {H : Heap} {locs : List Loc} {ls : Array Slot} (hH : Hs E s σ H locs) (hl : lv_has ls 4 [(0, .ref (ea E k0)), (1, .int v1), (2, .int v2), (3, .int v3)]) (h : X5_markNear_b19 K2 K19 k0 v1 v2 v3 σ = some σ') : W p l e (rmD 0) s m args below meth c H locs 0 0 (MQ below (QvM E σ') args s 0 0 (eA E)) (F0 m 19 ls []) := by
  obtain ⟨⟨hx, hb, hml, hown, hts⟩, hr, hlocks, hF, hAd⟩ := id C0
  unfold X5_markNear_b19 at h
  refine lv_iload_n hx hb dX5_markNear_19 rfl (lv_at hl 3 rfl) ?_
  refine lv_aload_n hx hb dX5_markNear_20 rfl (lv_at hl 0 rfl) ?_
  refine gf_X5_9 C0 hH hk0 dX5_markNear_21 ?_
  refine lv_icmp_ge (tgt := 57) hx hb dX5_markNear_24 (by decide) (fun c1 => ?_) (fun c1 => ?_)
  · replace h := if_t h c1
    refine lv_iinc (v := v2 + 1) (lv' := [(2, .int (v2 + 1)), (0, .ref (ea E k0)), (1, .int v1), (3, .int v3)]) hx hb dX5_markNear_57 hl (k := 2) rfl rfl (by decide) rfl (fun ls hl => ?_)
    refine lv_goto (tgt := 2) hx hb dX5_markNear_60 (by decide) ?_
    exact hK2 k0 v1 (v2 + 1) hk0 _ _ _ _ hH (lv_sub hl [1, 2, 0] rfl) h
  · replace h := if_f h c1
    refine lv_aload_n hx hb dX5_markNear_27 rfl (lv_at hl 0 rfl) ?_
    refine gf_X5_17 C0 hH hk0 dX5_markNear_28 ?_
    refine lv_iload_n hx hb dX5_markNear_31 rfl (lv_at hl 2 rfl) ?_
    obtain ⟨b2, h⟩ := gdx_s h
    refine ra_15 C0 hH (kf_5_1 hk0) b2 dX5_markNear_32 ?_
    refine lv_iload_n hx hb dX5_markNear_33 rfl (lv_at hl 3 rfl) ?_
    obtain ⟨b3, h⟩ := gdx_s h
    refine r_iald C0 hH (n := 10) (ka_15 (kf_5_1 hk0) b2) b3 dX5_markNear_34 ?_
    refine lv_iload_n hx hb dX5_markNear_35 rfl (lv_at hl 1 rfl) ?_
    refine lv_icmp_gt (tgt := 51) hx hb dX5_markNear_36 (by decide) (fun c4 => ?_) (fun c4 => ?_)
    · replace h := if_t h c4
      exact w_X5_markNear_b51 C0 K2 K19 hK2 hK19 k0 v1 v2 v3 hk0 hH (lv_sub hl [0, 1, 2, 3] rfl) h
    · replace h := if_f h c4
      refine lv_aload_n hx hb dX5_markNear_39 rfl (lv_at hl 0 rfl) ?_
      refine gf_X5_20 C0 hH hk0 dX5_markNear_40 ?_
      refine lv_iload_n hx hb dX5_markNear_43 rfl (lv_at hl 2 rfl) ?_
      refine lv_dup2_11 hx hb dX5_markNear_44 rfl rfl ?_
      obtain ⟨b5, h⟩ := gdx_s h
      refine r_iald C0 hH (n := 10) (kf_5_2 hk0) b5 dX5_markNear_45 ?_
      refine lv_iconst (v := 1) hx hb dX5_markNear_46 (by decide) ?_
      refine lv_iload_n hx hb dX5_markNear_47 rfl (lv_at hl 3 rfl) ?_
      refine lv_ishl hx hb dX5_markNear_48 ?_
      refine lv_ior hx hb dX5_markNear_49 ?_
      obtain ⟨b6, h⟩ := gdx_s h
      refine r_iast C0 hH (n := 10) (kf_5_2 hk0) b6 dX5_markNear_50 (fun H locs hH => ?_)
      exact w_X5_markNear_b51 C0 K2 K19 hK2 hK19 k0 v1 v2 v3 hk0 hH (lv_sub hl [0, 1, 2, 3] rfl) h
set_option maxRecDepth 100000 in
set_option maxHeartbeats 4000000 in
theorem w_X5_markNear_l19 {σ' : Mem} (C0 : Cx E p m c cX5_markNear 4 s args RX5 meth (none)) (K2 : Nat → Int32 → Int32 → Mem → Option Mem) (hK2 : ∀ (k0 : Nat) (v1 : Int32) (v2 : Int32) (hk0 : kd k0 = 5) (σ : Mem) (H : Heap) (locs : List Loc) (ls : Array Slot), Hs E s σ H locs → lv_has ls 4 [(0, .ref (ea E k0)), (1, .int v1), (2, .int v2)] → K2 k0 v1 v2 σ = some σ' → W p l e (rmD 0) s m args below meth c H locs 0 0 (MQ below (QvM E σ') args s 0 0 (eA E)) (F0 m 2 ls []))  (n : Nat) : ∀ (k0 : Nat) (v1 : Int32) (v2 : Int32) (v3 : Int32) (hk0 : kd k0 = 5) (σ : Mem) (H : Heap) (locs : List Loc) (ls : Array Slot), Hs E s σ H locs → lv_has ls 4 [(0, .ref (ea E k0)), (1, .int v1), (2, .int v2), (3, .int v3)] → X5_markNear_l19 K2 n k0 v1 v2 v3 σ = some σ' → W p l e (rmD 0) s m args below meth c H locs 0 0 (MQ below (QvM E σ') args s 0 0 (eA E)) (F0 m 19 ls []) := by
  induction n with
  | zero =>
    intro k0 v1 v2 v3 hk0 σ H locs ls hH hl h
    cases h
  | succ n ih =>
    intro k0 v1 v2 v3 hk0 σ H locs ls hH hl h
    exact w_X5_markNear_b19 C0 K2 (X5_markNear_l19 K2 n) hK2 ih k0 v1 v2 v3 hk0 hH hl h
set_option maxRecDepth 100000 in
set_option maxHeartbeats 4000000 in
theorem w_X5_markNear_b2 {σ' : Mem} (C0 : Cx E p m c cX5_markNear 4 s args RX5 meth (none)) (K2 : Nat → Int32 → Int32 → Mem → Option Mem) (hK2 : ∀ (k0 : Nat) (v1 : Int32) (v2 : Int32) (hk0 : kd k0 = 5) (σ : Mem) (H : Heap) (locs : List Loc) (ls : Array Slot), Hs E s σ H locs → lv_has ls 4 [(0, .ref (ea E k0)), (1, .int v1), (2, .int v2)] → K2 k0 v1 v2 σ = some σ' → W p l e (rmD 0) s m args below meth c H locs 0 0 (MQ below (QvM E σ') args s 0 0 (eA E)) (F0 m 2 ls []))  (k0 : Nat) (v1 : Int32) (v2 : Int32) (hk0 : kd k0 = 5) {σ : Mem} {H : Heap} {locs : List Loc} {ls : Array Slot} (hH : Hs E s σ H locs) (hl : lv_has ls 4 [(0, .ref (ea E k0)), (1, .int v1), (2, .int v2)]) (h : X5_markNear_b2 K2 k0 v1 v2 σ = some σ') : W p l e (rmD 0) s m args below meth c H locs 0 0 (MQ below (QvM E σ') args s 0 0 (eA E)) (F0 m 2 ls []) := by
  obtain ⟨⟨hx, hb, hml, hown, hts⟩, hr, hlocks, hF, hAd⟩ := id C0
  unfold X5_markNear_b2 at h
  refine lv_iload_n hx hb dX5_markNear_2 rfl (lv_at hl 2 rfl) ?_
  refine lv_aload_n hx hb dX5_markNear_3 rfl (lv_at hl 0 rfl) ?_
  refine gf_X5_9 C0 hH hk0 dX5_markNear_4 ?_
  refine lv_icmp_ge (tgt := 63) hx hb dX5_markNear_7 (by decide) (fun c1 => ?_) (fun c1 => ?_)
  · replace h := if_t h c1
    exact r_vret C0 hH (Option.some.inj h) dX5_markNear_63
  · replace h := if_f h c1
    refine lv_aload_n hx hb dX5_markNear_10 rfl (lv_at hl 0 rfl) ?_
    refine gf_X5_20 C0 hH hk0 dX5_markNear_11 ?_
    refine lv_iload_n hx hb dX5_markNear_14 rfl (lv_at hl 2 rfl) ?_
    refine lv_iconst (v := 0) hx hb dX5_markNear_15 (by decide) ?_
    obtain ⟨b2, h⟩ := gdx_s h
    refine r_iast C0 hH (n := 10) (kf_5_2 hk0) b2 dX5_markNear_16 (fun H locs hH => ?_)
    refine lv_iconst (v := 0) hx hb dX5_markNear_17 (by decide) ?_
    refine lv_istore_n (lv' := [(3, .int 0), (0, .ref (ea E k0)), (1, .int v1), (2, .int v2)]) hx hb dX5_markNear_18 rfl hl (by decide) rfl (fun ls hl => ?_)
    exact w_X5_markNear_l19 C0 K2 hK2 FU k0 v1 v2 0 hk0 _ _ _ _ hH (lv_sub hl [1, 2, 3, 0] rfl) h
set_option maxRecDepth 100000 in
set_option maxHeartbeats 4000000 in
theorem w_X5_markNear_l2 {σ' : Mem} (C0 : Cx E p m c cX5_markNear 4 s args RX5 meth (none))  (n : Nat) : ∀ (k0 : Nat) (v1 : Int32) (v2 : Int32) (hk0 : kd k0 = 5) (σ : Mem) (H : Heap) (locs : List Loc) (ls : Array Slot), Hs E s σ H locs → lv_has ls 4 [(0, .ref (ea E k0)), (1, .int v1), (2, .int v2)] → X5_markNear_l2 n k0 v1 v2 σ = some σ' → W p l e (rmD 0) s m args below meth c H locs 0 0 (MQ below (QvM E σ') args s 0 0 (eA E)) (F0 m 2 ls []) := by
  induction n with
  | zero =>
    intro k0 v1 v2 hk0 σ H locs ls hH hl h
    cases h
  | succ n ih =>
    intro k0 v1 v2 hk0 σ H locs ls hH hl h
    exact w_X5_markNear_b2 C0 (X5_markNear_l2 n)  ih k0 v1 v2 hk0 hH hl h
set_option maxRecDepth 100000 in
set_option maxHeartbeats 4000000 in
theorem w_X5_markNear_b0 {σ' : Mem} (C0 : Cx E p m c cX5_markNear 4 s args RX5 meth (none))  (k0 : Nat) (v1 : Int32) (hk0 : kd k0 = 5) {σ : Mem} {H : Heap} {locs : List Loc} {ls : Array Slot} (hH : Hs E s σ H locs) (hl : lv_has ls 4 [(0, .ref (ea E k0)), (1, .int v1)]) (h : X5_markNear_b0 k0 v1 σ = some σ') : W p l e (rmD 0) s m args below meth c H locs 0 0 (MQ below (QvM E σ') args s 0 0 (eA E)) (F0 m 0 ls []) := by
  obtain ⟨⟨hx, hb, hml, hown, hts⟩, hr, hlocks, hF, hAd⟩ := id C0
  unfold X5_markNear_b0 at h
  refine lv_iconst (v := 0) hx hb dX5_markNear_0 (by decide) ?_
  refine lv_istore_n (lv' := [(2, .int 0), (0, .ref (ea E k0)), (1, .int v1)]) hx hb dX5_markNear_1 rfl hl (by decide) rfl (fun ls hl => ?_)
  exact w_X5_markNear_l2 C0  FU k0 v1 0 hk0 _ _ _ _ hH (lv_sub hl [1, 2, 0] rfl) h
theorem c_X5_markNear {l : Launch} {E : EnvT} (hAd : Ad E) (k0 : Nat) (v1 : Int32) (hk0 : kd k0 = 5) (σ : Mem) {σ' : Mem} (h : X5_markNear k0 v1 σ = some σ') : Met l yX5_markNear (wsM yX5_markNear cX5_markNear 4 (none)) (rmD 0) (PcM E [.ref (ea E k0), .int v1] σ) (QvM E σ') 0 0 (eA E) :=
  Met.ofM (by decide) (Nat.le_of_ble_eq_true rfl) (fun p e s m below meth c ls C0 hH hl => w_X5_markNear_b0 C0 k0 v1 hk0 hH hl h) hAd
set_option maxRecDepth 100000 in
set_option maxHeartbeats 4000000 in
theorem w_X6_fits_b0 {r : Int32} (C0 : Cx E p m c cX6_fits 3 s args RX6 meth (some .boolean))  (k0 : Nat) (v1 : Int32) (v2 : Int32) (hk0 : kd k0 = 6) {σ : Mem} {H : Heap} {locs : List Loc} {ls : Array Slot} (hH : Hs E s σ H locs) (hl : lv_has ls 3 [(0, .ref (ea E k0)), (1, .int v1), (2, .int v2)]) (h : X6_fits_b0 k0 v1 v2 σ = some r) : W p l e (rmD 0) s m args below meth c H locs 0 0 (MQ below (QiM E r σ) args s 0 0 (eA E)) (F0 m 0 ls []) := by
  obtain ⟨⟨hx, hb, hml, hown, hts⟩, hr, hlocks, hF, hAd⟩ := id C0
  unfold X6_fits_b0 at h
  refine lv_aload_n hx hb dX6_fits_0 rfl (lv_at hl 0 rfl) ?_
  refine gf_X6_22 C0 hH hk0 dX6_fits_1 ?_
  refine lv_iload_n hx hb dX6_fits_4 rfl (lv_at hl 2 rfl) ?_
  obtain ⟨b1, h⟩ := gdx_s h
  refine r_iald C0 hH (n := 10) (kf_6_2 hk0) b1 dX6_fits_5 ?_
  refine lv_aload_n hx hb dX6_fits_6 rfl (lv_at hl 0 rfl) ?_
  refine gf_X6_12 C0 hH hk0 dX6_fits_7 ?_
  refine gf_X6_44 C0 hH (kf_6_0 hk0) dX6_fits_10 ?_
  refine lv_iload_n hx hb dX6_fits_13 rfl (lv_at hl 1 rfl) ?_
  obtain ⟨b2, h⟩ := gdx_s h
  refine r_iald C0 hH (n := 10) (kf_5_2 (kf_6_0 hk0)) b2 dX6_fits_14 ?_
  refine lv_iconst (v := (-1)) hx hb dX6_fits_15 (by decide) ?_
  refine lv_ixor hx hb dX6_fits_16 ?_
  refine lv_iand hx hb dX6_fits_17 ?_
  refine lv_if_ne (tgt := 25) hx hb dX6_fits_18 (by decide) (fun c3 => ?_) (fun c3 => ?_)
  · replace h := if_f h c3
    refine lv_iconst (v := 0) hx hb dX6_fits_25 (by decide) ?_
    exact r_zret C0 rfl hH (Option.some.inj h) rfl dX6_fits_26
  · replace h := if_t h c3
    refine lv_iconst (v := 1) hx hb dX6_fits_21 (by decide) ?_
    refine lv_goto (tgt := 26) hx hb dX6_fits_22 (by decide) ?_
    exact r_zret C0 rfl hH (Option.some.inj h) rfl dX6_fits_26
theorem c_X6_fits {l : Launch} {E : EnvT} (hAd : Ad E) (k0 : Nat) (v1 : Int32) (v2 : Int32) (hk0 : kd k0 = 6) (σ : Mem) {r : Int32} (h : X6_fits k0 v1 v2 σ = some r) : Met l yX6_fits (wsM yX6_fits cX6_fits 3 (some .boolean)) (rmD 0) (PcM E [.ref (ea E k0), .int v1, .int v2] σ) (QiM E r σ) 0 0 (eA E) :=
  Met.ofM (by decide) (Nat.le_of_ble_eq_true rfl) (fun p e s m below meth c ls C0 hH hl => w_X6_fits_b0 C0 k0 v1 v2 hk0 hH hl h) hAd
set_option maxRecDepth 100000 in
set_option maxHeartbeats 4000000 in
theorem w_X6_settles_b17 {hh : Nat} {r : Int32} {σ' : Mem} (C0 : Cx E p m c cX6_settles 5 s args RX6 meth (some .boolean)) (REC : Nat → Int32 → Int32 → Int32 → Mem → Option (Int32 × Mem)) (hREC : ∀ (k0 : Nat) (v1 : Int32) (v2 : Int32) (v3 : Int32) (hk0 : kd k0 = 6) (σ : Mem) (r : Int32) (σ' : Mem), REC k0 v1 v2 v3 σ = some (r, σ') → Met l yX6_settles (wsM yX6_settles cX6_settles 5 (some .boolean)) (rmD hh) (PcM E [.ref (ea E k0), .int v1, .int v2, .int v3] σ) (QiM E r σ') 0 0 (eA E))  (k0 : Nat) (v2 : Int32) (hk0 : kd k0 = 6) {σ : Mem} {H : Heap} {locs : List Loc} {ls : Array Slot} (hH : Hs E s σ H locs) (hl : lv_has ls 5 [(0, .ref (ea E k0)), (2, .int v2)]) (h : X6_settles_b17 REC k0 v2 σ = some (r, σ')) : W p l e (rmD (hh + 1)) s m args below meth c H locs 0 0 (MQ below (QiM E r σ') args s 0 0 (eA E)) (F0 m 17 ls []) := by
  obtain ⟨⟨hx, hb, hml, hown, hts⟩, hr, hlocks, hF, hAd⟩ := id C0
  unfold X6_settles_b17 at h
  refine lv_aload_n hx hb dX6_settles_17 rfl (lv_at hl 0 rfl) ?_
  refine lv_iload_n hx hb dX6_settles_18 rfl (lv_at hl 1 rfl) ?_
  refine pf_X6_25 C0 hH hk0 dX6_settles_19 (fun H locs hH => ?_)
  refine lv_iconst (v := 1) hx hb dX6_settles_22 (by decide) ?_
  exact r_zret C0 rfl hH (pj1 h) (pj2 h) dX6_settles_23
set_option maxRecDepth 100000 in
set_option maxHeartbeats 4000000 in
theorem w_X6_settles_b113 {hh : Nat} {r : Int32} {σ' : Mem} (C0 : Cx E p m c cX6_settles 5 s args RX6 meth (some .boolean)) (REC : Nat → Int32 → Int32 → Int32 → Mem → Option (Int32 × Mem)) (hREC : ∀ (k0 : Nat) (v1 : Int32) (v2 : Int32) (v3 : Int32) (hk0 : kd k0 = 6) (σ : Mem) (r : Int32) (σ' : Mem), REC k0 v1 v2 v3 σ = some (r, σ') → Met l yX6_settles (wsM yX6_settles cX6_settles 5 (some .boolean)) (rmD hh) (PcM E [.ref (ea E k0), .int v1, .int v2, .int v3] σ) (QiM E r σ') 0 0 (eA E)) (K27 : Nat → Int32 → Int32 → Int32 → Int32 → Mem → Option (Int32 × Mem)) (hK27 : ∀ (k0 : Nat) (v1 : Int32) (v2 : Int32) (v3 : Int32) (v4 : Int32) (hk0 : kd k0 = 6) (σ : Mem) (H : Heap) (locs : List Loc) (ls : Array Slot), Hs E s σ H locs → lv_has ls 5 [(0, .ref (ea E k0)), (1, .int v1), (2, .int v2), (3, .int v3), (4, .int v4)] → K27 k0 v1 v2 v3 v4 σ = some (r, σ') → W p l e (rmD (hh + 1)) s m args below meth c H locs 0 0 (MQ below (QiM E r σ') args s 0 0 (eA E)) (F0 m 27 ls []))  (k0 : Nat) (v1 : Int32) (v2 : Int32) (v3 : Int32) (v4 : Int32) (hk0 : kd k0 = 6) {σ : Mem} {H : Heap} {locs : List Loc} {ls : Array Slot} (hH : Hs E s σ H locs) (hl : lv_has ls 5 [(0, .ref (ea E k0)), (1, .int v1), (2, .int v2), (3, .int v3), (4, .int v4)]) (h : X6_settles_b113 REC K27 k0 v1 v2 v3 v4 σ = some (r, σ')) : W p l e (rmD (hh + 1)) s m args below meth c H locs 0 0 (MQ below (QiM E r σ') args s 0 0 (eA E)) (F0 m 113 ls []) := by
  obtain ⟨⟨hx, hb, hml, hown, hts⟩, hr, hlocks, hF, hAd⟩ := id C0
  unfold X6_settles_b113 at h
  refine lv_iinc (v := v4 + 1) (lv' := [(4, .int (v4 + 1)), (0, .ref (ea E k0)), (1, .int v1), (2, .int v2), (3, .int v3)]) hx hb dX6_settles_113 hl (k := 4) rfl rfl (by decide) rfl (fun ls hl => ?_)
  refine lv_goto (tgt := 27) hx hb dX6_settles_116 (by decide) ?_
  exact hK27 k0 v1 v2 v3 (v4 + 1) hk0 _ _ _ _ hH (lv_sub hl [1, 2, 3, 4, 0] rfl) h
set_option maxRecDepth 100000 in
set_option maxHeartbeats 4000000 in
theorem w_X6_settles_b27 {hh : Nat} {r : Int32} {σ' : Mem} (C0 : Cx E p m c cX6_settles 5 s args RX6 meth (some .boolean)) (REC : Nat → Int32 → Int32 → Int32 → Mem → Option (Int32 × Mem)) (hREC : ∀ (k0 : Nat) (v1 : Int32) (v2 : Int32) (v3 : Int32) (hk0 : kd k0 = 6) (σ : Mem) (r : Int32) (σ' : Mem), REC k0 v1 v2 v3 σ = some (r, σ') → Met l yX6_settles (wsM yX6_settles cX6_settles 5 (some .boolean)) (rmD hh) (PcM E [.ref (ea E k0), .int v1, .int v2, .int v3] σ) (QiM E r σ') 0 0 (eA E)) (K27 : Nat → Int32 → Int32 → Int32 → Int32 → Mem → Option (Int32 × Mem)) (hK27 : ∀ (k0 : Nat) (v1 : Int32) (v2 : Int32) (v3 : Int32) (v4 : Int32) (hk0 : kd k0 = 6) (σ : Mem) (H : Heap) (locs : List Loc) (ls : Array Slot), Hs E s σ H locs → lv_has ls 5 [(0, .ref (ea E k0)), (1, .int v1), (2, .int v2), (3, .int v3), (4, .int v4)] → K27 k0 v1 v2 v3 v4 σ = some (r, σ') → W p l e (rmD (hh + 1)) s m args below meth c H locs 0 0 (MQ below (QiM E r σ') args s 0 0 (eA E)) (F0 m 27 ls []))  (k0 : Nat) (v1 : Int32) (v2 : Int32) (v3 : Int32) (v4 : Int32) (hk0 : kd k0 = 6) {σ : Mem} {H : Heap} {locs : List Loc} {ls : Array Slot} (hH : Hs E s σ H locs) (hl : lv_has ls 5 [(0, .ref (ea E k0)), (1, .int v1), (2, .int v2), (3, .int v3), (4, .int v4)]) (h : X6_settles_b27 REC K27 k0 v1 v2 v3 v4 σ = some (r, σ')) : W p l e (rmD (hh + 1)) s m args below meth c H locs 0 0 (MQ below (QiM E r σ') args s 0 0 (eA E)) (F0 m 27 ls []) := by
  obtain ⟨⟨hx, hb, hml, hown, hts⟩, hr, hlocks, hF, hAd⟩ := id C0
  unfold X6_settles_b27 at h
  refine lv_iload hx hb dX6_settles_27 (lv_at hl 4 rfl) ?_
  refine lv_iload_n hx hb dX6_settles_29 rfl (lv_at hl 2 rfl) ?_
  refine lv_icmp_gt (tgt := 119) hx hb dX6_settles_30 (by decide) (fun c1 => ?_) (fun c1 => ?_)
  · replace h := if_t h c1
    refine lv_iconst (v := 0) hx hb dX6_settles_119 (by decide) ?_
    exact r_zret C0 rfl hH (pj1 h) (pj2 h) dX6_settles_120
  · replace h := if_f h c1
    refine lv_iload hx hb dX6_settles_33 (lv_at hl 4 rfl) ?_
    refine lv_iload_n hx hb dX6_settles_35 rfl (lv_at hl 3 rfl) ?_
    refine lv_icmp_ge (tgt := 119) hx hb dX6_settles_36 (by decide) (fun c2 => ?_) (fun c2 => ?_)
    · replace h := if_t h c2
      refine lv_iconst (v := 0) hx hb dX6_settles_119 (by decide) ?_
      exact r_zret C0 rfl hH (pj1 h) (pj2 h) dX6_settles_120
    · replace h := if_f h c2
      refine lv_iload hx hb dX6_settles_39 (lv_at hl 4 rfl) ?_
      refine lv_bipush (v := 10) hx hb dX6_settles_41 (by decide) ?_
      refine lv_icmp_ge (tgt := 119) hx hb dX6_settles_43 (by decide) (fun c3 => ?_) (fun c3 => ?_)
      · replace h := if_t h c3
        refine lv_iconst (v := 0) hx hb dX6_settles_119 (by decide) ?_
        exact r_zret C0 rfl hH (pj1 h) (pj2 h) dX6_settles_120
      · replace h := if_f h c3
        refine lv_aload_n hx hb dX6_settles_46 rfl (lv_at hl 0 rfl) ?_
        refine lv_iload_n hx hb dX6_settles_47 rfl (lv_at hl 1 rfl) ?_
        refine lv_iload hx hb dX6_settles_48 (lv_at hl 4 rfl) ?_
        obtain ⟨r4, qr4, h⟩ := ob_s h
        refine go_i hH (va_run_V (As := [.int v1, .int v4]) (rest := []) C0 hH lk_X6_69 (c_X6_fits hAd k0 v1 v4 hk0 σ qr4) (by omega) (ci := 6) hk0 (by decide) (cob_6 _ _ _) rfl rfl hl.1 rfl (Nat.le_of_ble_eq_true rfl) dX6_settles_50) (fun H locs hH => ?_)
        refine lv_if_eq (tgt := 113) hx hb dX6_settles_53 (by decide) (fun c5 => ?_) (fun c5 => ?_)
        · replace h := if_t h c5
          exact w_X6_settles_b113 C0 REC hREC K27 hK27 k0 v1 v2 v3 v4 hk0 hH (lv_sub hl [0, 1, 2, 3, 4] rfl) h
        · replace h := if_f h c5
          refine lv_aload_n hx hb dX6_settles_56 rfl (lv_at hl 0 rfl) ?_
          refine gf_X6_18 C0 hH hk0 dX6_settles_57 ?_
          refine lv_iload_n hx hb dX6_settles_60 rfl (lv_at hl 1 rfl) ?_
          refine lv_iload hx hb dX6_settles_61 (lv_at hl 4 rfl) ?_
          obtain ⟨b6, h⟩ := gdx_s h
          refine r_iast C0 hH (n := 10) (kf_6_1 hk0) b6 dX6_settles_63 (fun H locs hH => ?_)
          refine lv_aload_n hx hb dX6_settles_64 rfl (lv_at hl 0 rfl) ?_
          refine gf_X6_22 C0 hH hk0 dX6_settles_65 ?_
          refine lv_iload hx hb dX6_settles_68 (lv_at hl 4 rfl) ?_
          refine lv_dup2_11 hx hb dX6_settles_70 rfl rfl ?_
          obtain ⟨σ7, eσ7, h⟩ := letv_s h
          replace hH := hs_of eσ7 hH
          obtain ⟨b8, h⟩ := gdx_s h
          refine r_iald C0 hH (n := 10) (kf_6_2 hk0) b8 dX6_settles_71 ?_
          refine lv_iconst (v := 1) hx hb dX6_settles_72 (by decide) ?_
          refine lv_iload_n hx hb dX6_settles_73 rfl (lv_at hl 1 rfl) ?_
          refine lv_ishl hx hb dX6_settles_74 ?_
          refine lv_ior hx hb dX6_settles_75 ?_
          obtain ⟨b9, h⟩ := gdx_s h
          refine r_iast C0 hH (n := 10) (kf_6_2 hk0) b9 dX6_settles_76 (fun H locs hH => ?_)
          refine lv_aload_n hx hb dX6_settles_77 rfl (lv_at hl 0 rfl) ?_
          refine lv_iload_n hx hb dX6_settles_78 rfl (lv_at hl 1 rfl) ?_
          refine lv_iconst (v := 1) hx hb dX6_settles_79 (by decide) ?_
          refine lv_iadd hx hb dX6_settles_80 ?_
          refine lv_iload_n hx hb dX6_settles_81 rfl (lv_at hl 2 rfl) ?_
          refine lv_iload hx hb dX6_settles_82 (lv_at hl 4 rfl) ?_
          refine lv_iconst (v := 1) hx hb dX6_settles_84 (by decide) ?_
          refine lv_iadd hx hb dX6_settles_85 ?_
          refine r_mmax C0 (h := hh) qM_X6_53 hl.1 rfl (Nat.le_of_ble_eq_true rfl) dX6_settles_86 ?_
          refine lv_iload_n hx hb dX6_settles_89 rfl (lv_at hl 3 rfl) ?_
          obtain ⟨r10, σ11, qr10, h⟩ := ob2_s h
          refine go_i hH (va_run_V (As := [.int (v1 + 1), .int (mx v2 (v4 + 1)), .int v3]) (rest := []) C0 hH lk_X6_65 (hREC k0 (v1 + 1) (mx v2 (v4 + 1)) v3 hk0 _ _ _ qr10) (by omega) (ci := 6) hk0 (by decide) (cob_6 _ _ _) rfl rfl hl.1 rfl (Nat.le_of_ble_eq_true rfl) dX6_settles_90) (fun H locs hH => ?_)
          refine lv_if_eq (tgt := 98) hx hb dX6_settles_93 (by decide) (fun c12 => ?_) (fun c12 => ?_)
          · replace h := if_t h c12
            refine lv_aload_n hx hb dX6_settles_98 rfl (lv_at hl 0 rfl) ?_
            refine gf_X6_22 C0 hH hk0 dX6_settles_99 ?_
            refine lv_iload hx hb dX6_settles_102 (lv_at hl 4 rfl) ?_
            refine lv_dup2_11 hx hb dX6_settles_104 rfl rfl ?_
            obtain ⟨b13, h⟩ := gdx_s h
            refine r_iald C0 hH (n := 10) (kf_6_2 hk0) b13 dX6_settles_105 ?_
            refine lv_iconst (v := 1) hx hb dX6_settles_106 (by decide) ?_
            refine lv_iload_n hx hb dX6_settles_107 rfl (lv_at hl 1 rfl) ?_
            refine lv_ishl hx hb dX6_settles_108 ?_
            refine lv_iconst (v := (-1)) hx hb dX6_settles_109 (by decide) ?_
            refine lv_ixor hx hb dX6_settles_110 ?_
            refine lv_iand hx hb dX6_settles_111 ?_
            obtain ⟨b14, h⟩ := gdx_s h
            refine r_iast C0 hH (n := 10) (kf_6_2 hk0) b14 dX6_settles_112 (fun H locs hH => ?_)
            exact w_X6_settles_b113 C0 REC hREC K27 hK27 k0 v1 v2 v3 v4 hk0 hH (lv_sub hl [0, 1, 2, 3, 4] rfl) h
          · replace h := if_f h c12
            refine lv_iconst (v := 1) hx hb dX6_settles_96 (by decide) ?_
            exact r_zret C0 rfl hH (pj1 h) (pj2 h) dX6_settles_97
set_option maxRecDepth 100000 in
set_option maxHeartbeats 4000000 in
theorem w_X6_settles_l27 {hh : Nat} {r : Int32} {σ' : Mem} (C0 : Cx E p m c cX6_settles 5 s args RX6 meth (some .boolean)) (REC : Nat → Int32 → Int32 → Int32 → Mem → Option (Int32 × Mem)) (hREC : ∀ (k0 : Nat) (v1 : Int32) (v2 : Int32) (v3 : Int32) (hk0 : kd k0 = 6) (σ : Mem) (r : Int32) (σ' : Mem), REC k0 v1 v2 v3 σ = some (r, σ') → Met l yX6_settles (wsM yX6_settles cX6_settles 5 (some .boolean)) (rmD hh) (PcM E [.ref (ea E k0), .int v1, .int v2, .int v3] σ) (QiM E r σ') 0 0 (eA E))  (n : Nat) : ∀ (k0 : Nat) (v1 : Int32) (v2 : Int32) (v3 : Int32) (v4 : Int32) (hk0 : kd k0 = 6) (σ : Mem) (H : Heap) (locs : List Loc) (ls : Array Slot), Hs E s σ H locs → lv_has ls 5 [(0, .ref (ea E k0)), (1, .int v1), (2, .int v2), (3, .int v3), (4, .int v4)] → X6_settles_l27 REC n k0 v1 v2 v3 v4 σ = some (r, σ') → W p l e (rmD (hh + 1)) s m args below meth c H locs 0 0 (MQ below (QiM E r σ') args s 0 0 (eA E)) (F0 m 27 ls []) := by
  induction n with
  | zero =>
    intro k0 v1 v2 v3 v4 hk0 σ H locs ls hH hl h
    cases h
  | succ n ih =>
    intro k0 v1 v2 v3 v4 hk0 σ H locs ls hH hl h
    exact w_X6_settles_b27 C0 REC hREC (X6_settles_l27 REC n)  ih k0 v1 v2 v3 v4 hk0 hH hl h
set_option maxRecDepth 100000 in
set_option maxHeartbeats 4000000 in
theorem w_X6_settles_b0 {hh : Nat} {r : Int32} {σ' : Mem} (C0 : Cx E p m c cX6_settles 5 s args RX6 meth (some .boolean)) (REC : Nat → Int32 → Int32 → Int32 → Mem → Option (Int32 × Mem)) (hREC : ∀ (k0 : Nat) (v1 : Int32) (v2 : Int32) (v3 : Int32) (hk0 : kd k0 = 6) (σ : Mem) (r : Int32) (σ' : Mem), REC k0 v1 v2 v3 σ = some (r, σ') → Met l yX6_settles (wsM yX6_settles cX6_settles 5 (some .boolean)) (rmD hh) (PcM E [.ref (ea E k0), .int v1, .int v2, .int v3] σ) (QiM E r σ') 0 0 (eA E))  (k0 : Nat) (v1 : Int32) (v2 : Int32) (v3 : Int32) (hk0 : kd k0 = 6) {σ : Mem} {H : Heap} {locs : List Loc} {ls : Array Slot} (hH : Hs E s σ H locs) (hl : lv_has ls 5 [(0, .ref (ea E k0)), (1, .int v1), (2, .int v2), (3, .int v3)]) (h : X6_settles_b0 REC k0 v1 v2 v3 σ = some (r, σ')) : W p l e (rmD (hh + 1)) s m args below meth c H locs 0 0 (MQ below (QiM E r σ') args s 0 0 (eA E)) (F0 m 0 ls []) := by
  obtain ⟨⟨hx, hb, hml, hown, hts⟩, hr, hlocks, hF, hAd⟩ := id C0
  unfold X6_settles_b0 at h
  refine lv_iload_n hx hb dX6_settles_0 rfl (lv_at hl 1 rfl) ?_
  refine lv_aload_n hx hb dX6_settles_1 rfl (lv_at hl 0 rfl) ?_
  refine gf_X6_12 C0 hH hk0 dX6_settles_2 ?_
  refine gf_X6_37 C0 hH (kf_6_0 hk0) dX6_settles_5 ?_
  refine lv_icmp_ge (tgt := 17) hx hb dX6_settles_8 (by decide) (fun c1 => ?_) (fun c1 => ?_)
  · replace h := if_t h c1
    exact w_X6_settles_b17 C0 REC hREC  k0 v2 hk0 hH (lv_sub hl [0, 2] rfl) h
  · replace h := if_f h c1
    refine lv_iload_n hx hb dX6_settles_11 rfl (lv_at hl 1 rfl) ?_
    refine lv_bipush (v := 10) hx hb dX6_settles_12 (by decide) ?_
    refine lv_icmp_lt (tgt := 24) hx hb dX6_settles_14 (by decide) (fun c2 => ?_) (fun c2 => ?_)
    · replace h := if_t h c2
      refine lv_iconst (v := 0) hx hb dX6_settles_24 (by decide) ?_
      refine lv_istore (lv' := [(4, .int 0), (0, .ref (ea E k0)), (1, .int v1), (2, .int v2), (3, .int v3)]) hx hb dX6_settles_25 hl (by decide) rfl (fun ls hl => ?_)
      exact w_X6_settles_l27 C0 REC hREC  FU k0 v1 v2 v3 0 hk0 _ _ _ _ hH (lv_sub hl [1, 2, 3, 4, 0] rfl) h
    · replace h := if_f h c2
      exact w_X6_settles_b17 C0 REC hREC  k0 v2 hk0 hH (lv_sub hl [0, 2] rfl) h
theorem c_X6_settles {l : Launch} {E : EnvT} (n : Nat) (hAd : Ad E) : ∀ (k0 : Nat) (v1 : Int32) (v2 : Int32) (v3 : Int32) (hk0 : kd k0 = 6) (σ : Mem) {r : Int32} {σ' : Mem} (h : X6_settles n k0 v1 v2 v3 σ = some (r, σ')), Met l yX6_settles (wsM yX6_settles cX6_settles 5 (some .boolean)) (rmD (n + 2)) (PcM E [.ref (ea E k0), .int v1, .int v2, .int v3] σ) (QiM E r σ') 0 0 (eA E) := by
  induction n with
  | zero =>
    intro k0 v1 v2 v3 hk0 σ r σ' h
    cases h
  | succ n ih =>
    intro k0 v1 v2 v3 hk0 σ r σ' h
    exact Met.ofM (by decide) (Nat.le_of_ble_eq_true rfl) (fun p e s m below meth c ls C0 hH hl => w_X6_settles_b0 (hh := n + 2) C0 (X6_settles n) (fun k0 v1 v2 v3 hk0 σ r σ' h => ih k0 v1 v2 v3 hk0 σ h) k0 v1 v2 v3 hk0 hH hl h) hAd
set_option maxRecDepth 100000 in
set_option maxHeartbeats 4000000 in
theorem w_X6_areEnough_b0 {r : Int32} {σ' : Mem} (C0 : Cx E p m c cX6_areEnough 2 s args RX6 meth (some .boolean))  (k0 : Nat) (v1 : Int32) (hk0 : kd k0 = 6) {σ : Mem} {H : Heap} {locs : List Loc} {ls : Array Slot} (hH : Hs E s σ H locs) (hl : lv_has ls 2 [(0, .ref (ea E k0)), (1, .int v1)]) (h : X6_areEnough_b0 k0 v1 σ = some (r, σ')) : W p l e (rmD 15) s m args below meth c H locs 0 0 (MQ below (QiM E r σ') args s 0 0 (eA E)) (F0 m 0 ls []) := by
  obtain ⟨⟨hx, hb, hml, hown, hts⟩, hr, hlocks, hF, hAd⟩ := id C0
  unfold X6_areEnough_b0 at h
  refine lv_aload_n hx hb dX6_areEnough_0 rfl (lv_at hl 0 rfl) ?_
  refine gf_X6_22 C0 hH hk0 dX6_areEnough_1 ?_
  refine lv_iconst (v := 0) hx hb dX6_areEnough_4 (by decide) ?_
  obtain ⟨σ1, qσ1, h⟩ := ob_s h
  refine go_v hH (va_run_S (As := [.ref (ea E (k0 + 15)), .int 0]) (rest := []) C0 hH lk_X6_59 (c_J7_fill_53178 hAd 10 (k0 + 15) 0 (kf_6_2 hk0) σ qσ1) (by decide) rfl hl.1 rfl (Nat.le_of_ble_eq_true rfl) dX6_areEnough_5) (fun H locs hH => ?_)
  refine lv_aload_n hx hb dX6_areEnough_8 rfl (lv_at hl 0 rfl) ?_
  refine lv_iconst (v := 0) hx hb dX6_areEnough_9 (by decide) ?_
  refine lv_iconst (v := 0) hx hb dX6_areEnough_10 (by decide) ?_
  refine lv_iload_n hx hb dX6_areEnough_11 rfl (lv_at hl 1 rfl) ?_
  obtain ⟨r2, σ3, qr2, h⟩ := ob2_s h
  refine go_i hH (va_run_V (As := [.int 0, .int 0, .int v1]) (rest := []) C0 hH lk_X6_65 (c_X6_settles 12 hAd k0 0 0 v1 hk0 σ1 qr2) (by decide) (ci := 6) hk0 (by decide) (cob_6 _ _ _) rfl rfl hl.1 rfl (Nat.le_of_ble_eq_true rfl) dX6_areEnough_12) (fun H locs hH => ?_)
  obtain ⟨z4, h⟩ := gdb_s h
  exact r_zret C0 (bit_nar z4) hH (pj1 h) (pj2 h) dX6_areEnough_15
theorem c_X6_areEnough {l : Launch} {E : EnvT} (hAd : Ad E) (k0 : Nat) (v1 : Int32) (hk0 : kd k0 = 6) (σ : Mem) {r : Int32} {σ' : Mem} (h : X6_areEnough k0 v1 σ = some (r, σ')) : Met l yX6_areEnough (wsM yX6_areEnough cX6_areEnough 2 (some .boolean)) (rmD 15) (PcM E [.ref (ea E k0), .int v1] σ) (QiM E r σ') 0 0 (eA E) :=
  Met.ofM (by decide) (Nat.le_of_ble_eq_true rfl) (fun p e s m below meth c ls C0 hH hl => w_X6_areEnough_b0 C0 k0 v1 hk0 hH hl h) hAd
set_option maxRecDepth 100000 in
set_option maxHeartbeats 4000000 in
theorem w_X6_wantedAtLeast_b56 {r : Int32} (C0 : Cx E p m c cX6_wantedAtLeast 5 s args RX6 meth (some .int)) (K4 : Nat → Int32 → Int32 → Mem → Option Int32) (K22 : Nat → Int32 → Int32 → Int32 → Int32 → Mem → Option Int32) (hK4 : ∀ (k0 : Nat) (v1 : Int32) (v2 : Int32) (hk0 : kd k0 = 6) (σ : Mem) (H : Heap) (locs : List Loc) (ls : Array Slot), Hs E s σ H locs → lv_has ls 5 [(0, .ref (ea E k0)), (1, .int v1), (2, .int v2)] → K4 k0 v1 v2 σ = some r → W p l e (rmD 1) s m args below meth c H locs 0 0 (MQ below (QiM E r σ) args s 0 0 (eA E)) (F0 m 4 ls [])) (hK22 : ∀ (k0 : Nat) (v1 : Int32) (v2 : Int32) (v3 : Int32) (v4 : Int32) (hk0 : kd k0 = 6) (σ : Mem) (H : Heap) (locs : List Loc) (ls : Array Slot), Hs E s σ H locs → lv_has ls 5 [(0, .ref (ea E k0)), (1, .int v1), (2, .int v2), (3, .int v3), (4, .int v4)] → K22 k0 v1 v2 v3 v4 σ = some r → W p l e (rmD 1) s m args below meth c H locs 0 0 (MQ below (QiM E r σ) args s 0 0 (eA E)) (F0 m 22 ls []))  (k0 : Nat) (v1 : Int32) (v2 : Int32) (v3 : Int32) (v4 : Int32) (hk0 : kd k0 = 6) {σ : Mem} {H : Heap} {locs : List Loc} {ls : Array Slot} (hH : Hs E s σ H locs) (hl : lv_has ls 5 [(0, .ref (ea E k0)), (1, .int v1), (2, .int v2), (3, .int v3), (4, .int v4)]) (h : X6_wantedAtLeast_b56 K4 K22 k0 v1 v2 v3 v4 σ = some r) : W p l e (rmD 1) s m args below meth c H locs 0 0 (MQ below (QiM E r σ) args s 0 0 (eA E)) (F0 m 56 ls []) := by
  obtain ⟨⟨hx, hb, hml, hown, hts⟩, hr, hlocks, hF, hAd⟩ := id C0
  unfold X6_wantedAtLeast_b56 at h
  refine lv_iinc (v := v4 + 1) (lv' := [(4, .int (v4 + 1)), (0, .ref (ea E k0)), (1, .int v1), (2, .int v2), (3, .int v3)]) hx hb dX6_wantedAtLeast_56 hl (k := 4) rfl rfl (by decide) rfl (fun ls hl => ?_)
  refine lv_goto (tgt := 22) hx hb dX6_wantedAtLeast_59 (by decide) ?_
  exact hK22 k0 v1 v2 v3 (v4 + 1) hk0 _ _ _ _ hH (lv_sub hl [1, 2, 3, 4, 0] rfl) h
set_option maxRecDepth 100000 in
set_option maxHeartbeats 4000000 in
theorem w_X6_wantedAtLeast_b22 {r : Int32} (C0 : Cx E p m c cX6_wantedAtLeast 5 s args RX6 meth (some .int)) (K4 : Nat → Int32 → Int32 → Mem → Option Int32) (K22 : Nat → Int32 → Int32 → Int32 → Int32 → Mem → Option Int32) (hK4 : ∀ (k0 : Nat) (v1 : Int32) (v2 : Int32) (hk0 : kd k0 = 6) (σ : Mem) (H : Heap) (locs : List Loc) (ls : Array Slot), Hs E s σ H locs → lv_has ls 5 [(0, .ref (ea E k0)), (1, .int v1), (2, .int v2)] → K4 k0 v1 v2 σ = some r → W p l e (rmD 1) s m args below meth c H locs 0 0 (MQ below (QiM E r σ) args s 0 0 (eA E)) (F0 m 4 ls [])) (hK22 : ∀ (k0 : Nat) (v1 : Int32) (v2 : Int32) (v3 : Int32) (v4 : Int32) (hk0 : kd k0 = 6) (σ : Mem) (H : Heap) (locs : List Loc) (ls : Array Slot), Hs E s σ H locs → lv_has ls 5 [(0, .ref (ea E k0)), (1, .int v1), (2, .int v2), (3, .int v3), (4, .int v4)] → K22 k0 v1 v2 v3 v4 σ = some r → W p l e (rmD 1) s m args below meth c H locs 0 0 (MQ below (QiM E r σ) args s 0 0 (eA E)) (F0 m 22 ls []))  (k0 : Nat) (v1 : Int32) (v2 : Int32) (v3 : Int32) (v4 : Int32) (hk0 : kd k0 = 6) {σ : Mem} {H : Heap} {locs : List Loc} {ls : Array Slot} (hH : Hs E s σ H locs) (hl : lv_has ls 5 [(0, .ref (ea E k0)), (1, .int v1), (2, .int v2), (3, .int v3), (4, .int v4)]) (h : X6_wantedAtLeast_b22 K4 K22 k0 v1 v2 v3 v4 σ = some r) : W p l e (rmD 1) s m args below meth c H locs 0 0 (MQ below (QiM E r σ) args s 0 0 (eA E)) (F0 m 22 ls []) := by
  obtain ⟨⟨hx, hb, hml, hown, hts⟩, hr, hlocks, hF, hAd⟩ := id C0
  unfold X6_wantedAtLeast_b22 at h
  refine lv_iload hx hb dX6_wantedAtLeast_22 (lv_at hl 4 rfl) ?_
  refine lv_aload_n hx hb dX6_wantedAtLeast_24 rfl (lv_at hl 0 rfl) ?_
  refine gf_X6_12 C0 hH hk0 dX6_wantedAtLeast_25 ?_
  refine gf_X6_37 C0 hH (kf_6_0 hk0) dX6_wantedAtLeast_28 ?_
  refine lv_icmp_ge (tgt := 62) hx hb dX6_wantedAtLeast_31 (by decide) (fun c1 => ?_) (fun c1 => ?_)
  · replace h := if_t h c1
    refine lv_iload_n hx hb dX6_wantedAtLeast_62 rfl (lv_at hl 1 rfl) ?_
    refine lv_iload_n hx hb dX6_wantedAtLeast_63 rfl (lv_at hl 3 rfl) ?_
    refine go_i hH (va_run_S (As := [.int v3]) (rest := [.int v1]) C0 hH lk_X6_47 (c_J6_bitCount_0f7a4 hAd v3  σ rfl) (by decide) rfl hl.1 rfl (Nat.le_of_ble_eq_true rfl) dX6_wantedAtLeast_64) (fun H locs hH => ?_)
    refine r_mmax C0 (h := 0) qM_X6_53 hl.1 rfl (Nat.le_of_ble_eq_true rfl) dX6_wantedAtLeast_67 ?_
    obtain ⟨x2, ex2, h⟩ := letv_s h
    refine topi_of ex2 ?_
    refine lv_istore_n (lv' := [(1, .int x2), (0, .ref (ea E k0)), (2, .int v2), (3, .int v3), (4, .int v4)]) hx hb dX6_wantedAtLeast_70 rfl hl (by decide) rfl (fun ls hl => ?_)
    refine lv_iinc (v := v2 + 1) (lv' := [(2, .int (v2 + 1)), (1, .int x2), (0, .ref (ea E k0)), (3, .int v3), (4, .int v4)]) hx hb dX6_wantedAtLeast_71 hl (k := 2) rfl rfl (by decide) rfl (fun ls hl => ?_)
    refine lv_goto (tgt := 4) hx hb dX6_wantedAtLeast_74 (by decide) ?_
    exact hK4 k0 x2 (v2 + 1) hk0 _ _ _ _ hH (lv_sub hl [2, 1, 0] rfl) h
  · replace h := if_f h c1
    refine lv_aload_n hx hb dX6_wantedAtLeast_34 rfl (lv_at hl 0 rfl) ?_
    refine gf_X6_12 C0 hH hk0 dX6_wantedAtLeast_35 ?_
    refine gf_X6_44 C0 hH (kf_6_0 hk0) dX6_wantedAtLeast_38 ?_
    refine lv_iload hx hb dX6_wantedAtLeast_41 (lv_at hl 4 rfl) ?_
    obtain ⟨b3, h⟩ := gdx_s h
    refine r_iald C0 hH (n := 10) (kf_5_2 (kf_6_0 hk0)) b3 dX6_wantedAtLeast_43 ?_
    refine lv_iload_n hx hb dX6_wantedAtLeast_44 rfl (lv_at hl 3 rfl) ?_
    refine lv_iand hx hb dX6_wantedAtLeast_45 ?_
    refine lv_if_ne (tgt := 56) hx hb dX6_wantedAtLeast_46 (by decide) (fun c4 => ?_) (fun c4 => ?_)
    · replace h := if_f h c4
      exact w_X6_wantedAtLeast_b56 C0 K4 K22 hK4 hK22 k0 v1 v2 v3 v4 hk0 hH (lv_sub hl [0, 1, 2, 3, 4] rfl) h
    · replace h := if_t h c4
      refine lv_iload_n hx hb dX6_wantedAtLeast_49 rfl (lv_at hl 3 rfl) ?_
      refine lv_iconst (v := 1) hx hb dX6_wantedAtLeast_50 (by decide) ?_
      refine lv_iload hx hb dX6_wantedAtLeast_51 (lv_at hl 4 rfl) ?_
      refine lv_ishl hx hb dX6_wantedAtLeast_53 ?_
      refine lv_ior hx hb dX6_wantedAtLeast_54 ?_
      obtain ⟨x5, ex5, h⟩ := letv_s h
      refine topi_of ex5 ?_
      refine lv_istore_n (lv' := [(3, .int x5), (0, .ref (ea E k0)), (1, .int v1), (2, .int v2), (4, .int v4)]) hx hb dX6_wantedAtLeast_55 rfl hl (by decide) rfl (fun ls hl => ?_)
      exact w_X6_wantedAtLeast_b56 C0 K4 K22 hK4 hK22 k0 v1 v2 x5 v4 hk0 hH (lv_sub hl [1, 2, 3, 0, 4] rfl) h
set_option maxRecDepth 100000 in
set_option maxHeartbeats 4000000 in
theorem w_X6_wantedAtLeast_l22 {r : Int32} (C0 : Cx E p m c cX6_wantedAtLeast 5 s args RX6 meth (some .int)) (K4 : Nat → Int32 → Int32 → Mem → Option Int32) (hK4 : ∀ (k0 : Nat) (v1 : Int32) (v2 : Int32) (hk0 : kd k0 = 6) (σ : Mem) (H : Heap) (locs : List Loc) (ls : Array Slot), Hs E s σ H locs → lv_has ls 5 [(0, .ref (ea E k0)), (1, .int v1), (2, .int v2)] → K4 k0 v1 v2 σ = some r → W p l e (rmD 1) s m args below meth c H locs 0 0 (MQ below (QiM E r σ) args s 0 0 (eA E)) (F0 m 4 ls []))  (n : Nat) : ∀ (k0 : Nat) (v1 : Int32) (v2 : Int32) (v3 : Int32) (v4 : Int32) (hk0 : kd k0 = 6) (σ : Mem) (H : Heap) (locs : List Loc) (ls : Array Slot), Hs E s σ H locs → lv_has ls 5 [(0, .ref (ea E k0)), (1, .int v1), (2, .int v2), (3, .int v3), (4, .int v4)] → X6_wantedAtLeast_l22 K4 n k0 v1 v2 v3 v4 σ = some r → W p l e (rmD 1) s m args below meth c H locs 0 0 (MQ below (QiM E r σ) args s 0 0 (eA E)) (F0 m 22 ls []) := by
  induction n with
  | zero =>
    intro k0 v1 v2 v3 v4 hk0 σ H locs ls hH hl h
    cases h
  | succ n ih =>
    intro k0 v1 v2 v3 v4 hk0 σ H locs ls hH hl h
    exact w_X6_wantedAtLeast_b22 C0 K4 (X6_wantedAtLeast_l22 K4 n) hK4 ih k0 v1 v2 v3 v4 hk0 hH hl h
set_option maxRecDepth 100000 in
set_option maxHeartbeats 4000000 in
theorem w_X6_wantedAtLeast_b4 {r : Int32} (C0 : Cx E p m c cX6_wantedAtLeast 5 s args RX6 meth (some .int)) (K4 : Nat → Int32 → Int32 → Mem → Option Int32) (hK4 : ∀ (k0 : Nat) (v1 : Int32) (v2 : Int32) (hk0 : kd k0 = 6) (σ : Mem) (H : Heap) (locs : List Loc) (ls : Array Slot), Hs E s σ H locs → lv_has ls 5 [(0, .ref (ea E k0)), (1, .int v1), (2, .int v2)] → K4 k0 v1 v2 σ = some r → W p l e (rmD 1) s m args below meth c H locs 0 0 (MQ below (QiM E r σ) args s 0 0 (eA E)) (F0 m 4 ls []))  (k0 : Nat) (v1 : Int32) (v2 : Int32) (hk0 : kd k0 = 6) {σ : Mem} {H : Heap} {locs : List Loc} {ls : Array Slot} (hH : Hs E s σ H locs) (hl : lv_has ls 5 [(0, .ref (ea E k0)), (1, .int v1), (2, .int v2)]) (h : X6_wantedAtLeast_b4 K4 k0 v1 v2 σ = some r) : W p l e (rmD 1) s m args below meth c H locs 0 0 (MQ below (QiM E r σ) args s 0 0 (eA E)) (F0 m 4 ls []) := by
  obtain ⟨⟨hx, hb, hml, hown, hts⟩, hr, hlocks, hF, hAd⟩ := id C0
  unfold X6_wantedAtLeast_b4 at h
  refine lv_iload_n hx hb dX6_wantedAtLeast_4 rfl (lv_at hl 2 rfl) ?_
  refine lv_aload_n hx hb dX6_wantedAtLeast_5 rfl (lv_at hl 0 rfl) ?_
  refine gf_X6_12 C0 hH hk0 dX6_wantedAtLeast_6 ?_
  refine gf_X6_37 C0 hH (kf_6_0 hk0) dX6_wantedAtLeast_9 ?_
  refine lv_icmp_ge (tgt := 77) hx hb dX6_wantedAtLeast_12 (by decide) (fun c1 => ?_) (fun c1 => ?_)
  · replace h := if_t h c1
    refine lv_iload_n hx hb dX6_wantedAtLeast_77 rfl (lv_at hl 1 rfl) ?_
    exact r_iret C0 hH (Option.some.inj h) rfl dX6_wantedAtLeast_78
  · replace h := if_f h c1
    refine lv_iconst (v := 1) hx hb dX6_wantedAtLeast_15 (by decide) ?_
    refine lv_iload_n hx hb dX6_wantedAtLeast_16 rfl (lv_at hl 2 rfl) ?_
    refine lv_ishl hx hb dX6_wantedAtLeast_17 ?_
    obtain ⟨x2, ex2, h⟩ := letv_s h
    refine topi_of ex2 ?_
    refine lv_istore_n (lv' := [(3, .int x2), (0, .ref (ea E k0)), (1, .int v1), (2, .int v2)]) hx hb dX6_wantedAtLeast_18 rfl hl (by decide) rfl (fun ls hl => ?_)
    refine lv_iconst (v := 0) hx hb dX6_wantedAtLeast_19 (by decide) ?_
    refine lv_istore (lv' := [(4, .int 0), (3, .int x2), (0, .ref (ea E k0)), (1, .int v1), (2, .int v2)]) hx hb dX6_wantedAtLeast_20 hl (by decide) rfl (fun ls hl => ?_)
    exact w_X6_wantedAtLeast_l22 C0 K4 hK4 FU k0 v1 v2 x2 0 hk0 _ _ _ _ hH (lv_sub hl [2, 3, 4, 1, 0] rfl) h
set_option maxRecDepth 100000 in
set_option maxHeartbeats 4000000 in
theorem w_X6_wantedAtLeast_l4 {r : Int32} (C0 : Cx E p m c cX6_wantedAtLeast 5 s args RX6 meth (some .int))  (n : Nat) : ∀ (k0 : Nat) (v1 : Int32) (v2 : Int32) (hk0 : kd k0 = 6) (σ : Mem) (H : Heap) (locs : List Loc) (ls : Array Slot), Hs E s σ H locs → lv_has ls 5 [(0, .ref (ea E k0)), (1, .int v1), (2, .int v2)] → X6_wantedAtLeast_l4 n k0 v1 v2 σ = some r → W p l e (rmD 1) s m args below meth c H locs 0 0 (MQ below (QiM E r σ) args s 0 0 (eA E)) (F0 m 4 ls []) := by
  induction n with
  | zero =>
    intro k0 v1 v2 hk0 σ H locs ls hH hl h
    cases h
  | succ n ih =>
    intro k0 v1 v2 hk0 σ H locs ls hH hl h
    exact w_X6_wantedAtLeast_b4 C0 (X6_wantedAtLeast_l4 n)  ih k0 v1 v2 hk0 hH hl h
set_option maxRecDepth 100000 in
set_option maxHeartbeats 4000000 in
theorem w_X6_wantedAtLeast_b0 {r : Int32} (C0 : Cx E p m c cX6_wantedAtLeast 5 s args RX6 meth (some .int))  (k0 : Nat) (hk0 : kd k0 = 6) {σ : Mem} {H : Heap} {locs : List Loc} {ls : Array Slot} (hH : Hs E s σ H locs) (hl : lv_has ls 5 [(0, .ref (ea E k0))]) (h : X6_wantedAtLeast_b0 k0 σ = some r) : W p l e (rmD 1) s m args below meth c H locs 0 0 (MQ below (QiM E r σ) args s 0 0 (eA E)) (F0 m 0 ls []) := by
  obtain ⟨⟨hx, hb, hml, hown, hts⟩, hr, hlocks, hF, hAd⟩ := id C0
  unfold X6_wantedAtLeast_b0 at h
  refine lv_iconst (v := 1) hx hb dX6_wantedAtLeast_0 (by decide) ?_
  refine lv_istore_n (lv' := [(1, .int 1), (0, .ref (ea E k0))]) hx hb dX6_wantedAtLeast_1 rfl hl (by decide) rfl (fun ls hl => ?_)
  refine lv_iconst (v := 0) hx hb dX6_wantedAtLeast_2 (by decide) ?_
  refine lv_istore_n (lv' := [(2, .int 0), (1, .int 1), (0, .ref (ea E k0))]) hx hb dX6_wantedAtLeast_3 rfl hl (by decide) rfl (fun ls hl => ?_)
  exact w_X6_wantedAtLeast_l4 C0  FU k0 1 0 hk0 _ _ _ _ hH (lv_sub hl [2, 1, 0] rfl) h
theorem c_X6_wantedAtLeast {l : Launch} {E : EnvT} (hAd : Ad E) (k0 : Nat) (hk0 : kd k0 = 6) (σ : Mem) {r : Int32} (h : X6_wantedAtLeast k0 σ = some r) : Met l yX6_wantedAtLeast (wsM yX6_wantedAtLeast cX6_wantedAtLeast 5 (some .int)) (rmD 1) (PcM E [.ref (ea E k0)] σ) (QiM E r σ) 0 0 (eA E) :=
  Met.ofM (by decide) (Nat.le_of_ble_eq_true rfl) (fun p e s m below meth c ls C0 hH hl => w_X6_wantedAtLeast_b0 C0 k0 hk0 hH hl h) hAd
set_option maxRecDepth 100000 in
set_option maxHeartbeats 4000000 in
theorem w_X6_findFor_b18 {σ' : Mem} (C0 : Cx E p m c cX6_findFor 3 s args RX6 meth (none)) (K18 : Nat → Int32 → Mem → Option Mem) (hK18 : ∀ (k0 : Nat) (v2 : Int32) (hk0 : kd k0 = 6) (σ : Mem) (H : Heap) (locs : List Loc) (ls : Array Slot), Hs E s σ H locs → lv_has ls 3 [(0, .ref (ea E k0)), (2, .int v2)] → K18 k0 v2 σ = some σ' → W p l e (rmD 16) s m args below meth c H locs 0 0 (MQ below (QvM E σ') args s 0 0 (eA E)) (F0 m 18 ls []))  (k0 : Nat) (v2 : Int32) (hk0 : kd k0 = 6) {σ : Mem} {H : Heap} {locs : List Loc} {ls : Array Slot} (hH : Hs E s σ H locs) (hl : lv_has ls 3 [(0, .ref (ea E k0)), (2, .int v2)]) (h : X6_findFor_b18 K18 k0 v2 σ = some σ') : W p l e (rmD 16) s m args below meth c H locs 0 0 (MQ below (QvM E σ') args s 0 0 (eA E)) (F0 m 18 ls []) := by
  obtain ⟨⟨hx, hb, hml, hown, hts⟩, hr, hlocks, hF, hAd⟩ := id C0
  unfold X6_findFor_b18 at h
  refine lv_iload_n hx hb dX6_findFor_18 rfl (lv_at hl 1 rfl) ?_
  refine lv_aload_n hx hb dX6_findFor_19 rfl (lv_at hl 0 rfl) ?_
  refine gf_X6_12 C0 hH hk0 dX6_findFor_20 ?_
  refine gf_X6_37 C0 hH (kf_6_0 hk0) dX6_findFor_23 ?_
  refine lv_icmp_gt (tgt := 44) hx hb dX6_findFor_26 (by decide) (fun c1 => ?_) (fun c1 => ?_)
  · replace h := if_t h c1
    exact r_vret C0 hH (Option.some.inj h) dX6_findFor_44
  · replace h := if_f h c1
    refine lv_aload_n hx hb dX6_findFor_29 rfl (lv_at hl 0 rfl) ?_
    refine lv_iload_n hx hb dX6_findFor_30 rfl (lv_at hl 1 rfl) ?_
    obtain ⟨r2, σ3, qr2, h⟩ := ob2_s h
    refine go_i hH (va_run_V (As := [.int v2]) (rest := []) C0 hH lk_X6_40 (c_X6_areEnough hAd k0 v2 hk0 σ qr2) (by decide) (ci := 6) hk0 (by decide) (cob_6 _ _ _) rfl rfl hl.1 rfl (Nat.le_of_ble_eq_true rfl) dX6_findFor_31) (fun H locs hH => ?_)
    refine lv_if_eq (tgt := 38) hx hb dX6_findFor_34 (by decide) (fun c4 => ?_) (fun c4 => ?_)
    · replace h := if_t h c4
      refine lv_iinc (v := v2 + 1) (lv' := [(2, .int (v2 + 1)), (0, .ref (ea E k0))]) hx hb dX6_findFor_38 hl (k := 1) rfl rfl (by decide) rfl (fun ls hl => ?_)
      refine lv_goto (tgt := 18) hx hb dX6_findFor_41 (by decide) ?_
      exact hK18 k0 (v2 + 1) hk0 _ _ _ _ hH (lv_sub hl [1, 0] rfl) h
    · replace h := if_f h c4
      exact r_vret C0 hH (Option.some.inj h) dX6_findFor_37
set_option maxRecDepth 100000 in
set_option maxHeartbeats 4000000 in
theorem w_X6_findFor_l18 {σ' : Mem} (C0 : Cx E p m c cX6_findFor 3 s args RX6 meth (none))  (n : Nat) : ∀ (k0 : Nat) (v2 : Int32) (hk0 : kd k0 = 6) (σ : Mem) (H : Heap) (locs : List Loc) (ls : Array Slot), Hs E s σ H locs → lv_has ls 3 [(0, .ref (ea E k0)), (2, .int v2)] → X6_findFor_l18 n k0 v2 σ = some σ' → W p l e (rmD 16) s m args below meth c H locs 0 0 (MQ below (QvM E σ') args s 0 0 (eA E)) (F0 m 18 ls []) := by
  induction n with
  | zero =>
    intro k0 v2 hk0 σ H locs ls hH hl h
    cases h
  | succ n ih =>
    intro k0 v2 hk0 σ H locs ls hH hl h
    exact w_X6_findFor_b18 C0 (X6_findFor_l18 n)  ih k0 v2 hk0 hH hl h
set_option maxRecDepth 100000 in
set_option maxHeartbeats 4000000 in
theorem w_X6_findFor_b0 {σ' : Mem} (C0 : Cx E p m c cX6_findFor 3 s args RX6 meth (none))  (k0 : Nat) (v1 : Int32) (hk0 : kd k0 = 6) {σ : Mem} {H : Heap} {locs : List Loc} {ls : Array Slot} (hH : Hs E s σ H locs) (hl : lv_has ls 3 [(0, .ref (ea E k0)), (1, .int v1)]) (h : X6_findFor_b0 k0 v1 σ = some σ') : W p l e (rmD 16) s m args below meth c H locs 0 0 (MQ below (QvM E σ') args s 0 0 (eA E)) (F0 m 0 ls []) := by
  obtain ⟨⟨hx, hb, hml, hown, hts⟩, hr, hlocks, hF, hAd⟩ := id C0
  unfold X6_findFor_b0 at h
  refine lv_aload_n hx hb dX6_findFor_0 rfl (lv_at hl 0 rfl) ?_
  refine gf_X6_12 C0 hH hk0 dX6_findFor_1 ?_
  refine lv_iload_n hx hb dX6_findFor_4 rfl (lv_at hl 1 rfl) ?_
  obtain ⟨σ1, qσ1, h⟩ := ob_s h
  refine go_v hH (va_run_V (As := [.int v1]) (rest := []) C0 hH lk_X6_29 (c_X5_markNear hAd (k0 + 1) v1 (kf_6_0 hk0) σ qσ1) (by decide) (ci := 5) (kf_6_0 hk0) (by decide) (cob_5 _ _ _) rfl rfl hl.1 rfl (Nat.le_of_ble_eq_true rfl) dX6_findFor_5) (fun H locs hH => ?_)
  refine lv_aload_n hx hb dX6_findFor_8 rfl (lv_at hl 0 rfl) ?_
  refine lv_iconst (v := 0) hx hb dX6_findFor_9 (by decide) ?_
  refine pf_X6_25 C0 hH hk0 dX6_findFor_10 (fun H locs hH => ?_)
  refine lv_aload_n hx hb dX6_findFor_13 rfl (lv_at hl 0 rfl) ?_
  obtain ⟨r2, qr2, h⟩ := ob_s h
  refine go_i hH (va_run_V (As := []) (rest := []) C0 hH lk_X6_33 (c_X6_wantedAtLeast hAd k0 hk0 (wr σ1 k0 3 0) qr2) (by decide) (ci := 6) hk0 (by decide) (cob_6 _ _ _) rfl rfl hl.1 rfl (Nat.le_of_ble_eq_true rfl) dX6_findFor_14) (fun H locs hH => ?_)
  refine lv_istore_n (lv' := [(2, .int r2), (0, .ref (ea E k0)), (1, .int v1)]) hx hb dX6_findFor_17 rfl hl (by decide) rfl (fun ls hl => ?_)
  exact w_X6_findFor_l18 C0  FU k0 r2 hk0 _ _ _ _ hH (lv_sub hl [1, 0] rfl) h
theorem c_X6_findFor {l : Launch} {E : EnvT} (hAd : Ad E) (k0 : Nat) (v1 : Int32) (hk0 : kd k0 = 6) (σ : Mem) {σ' : Mem} (h : X6_findFor k0 v1 σ = some σ') : Met l yX6_findFor (wsM yX6_findFor cX6_findFor 3 (none)) (rmD 16) (PcM E [.ref (ea E k0), .int v1] σ) (QvM E σ') 0 0 (eA E) :=
  Met.ofM (by decide) (Nat.le_of_ble_eq_true rfl) (fun p e s m below meth c ls C0 hH hl => w_X6_findFor_b0 C0 k0 v1 hk0 hH hl h) hAd
set_option maxRecDepth 100000 in
set_option maxHeartbeats 4000000 in
theorem w_X5_furthest_b47 {r : Int32} (C0 : Cx E p m c cX5_furthest 5 s args RX5 meth (some .int)) (K5 : Nat → Int32 → Int32 → Int32 → Int32 → Mem → Option Int32) (hK5 : ∀ (k0 : Nat) (v1 : Int32) (v2 : Int32) (v3 : Int32) (v4 : Int32) (hk0 : kd k0 = 5) (σ : Mem) (H : Heap) (locs : List Loc) (ls : Array Slot), Hs E s σ H locs → lv_has ls 5 [(0, .ref (ea E k0)), (1, .int v1), (2, .int v2), (3, .int v3), (4, .int v4)] → K5 k0 v1 v2 v3 v4 σ = some r → W p l e (rmD 0) s m args below meth c H locs 0 0 (MQ below (QiM E r σ) args s 0 0 (eA E)) (F0 m 5 ls []))  (k0 : Nat) (v1 : Int32) (v2 : Int32) (v3 : Int32) (v4 : Int32) (hk0 : kd k0 = 5) {σ : Mem} {H : Heap} {locs : List Loc} {ls : Array Slot} (hH : Hs E s σ H locs) (hl : lv_has ls 5 [(0, .ref (ea E k0)), (1, .int v1), (2, .int v2), (3, .int v3), (4, .int v4)]) (h : X5_furthest_b47 K5 k0 v1 v2 v3 v4 σ = some r) : W p l e (rmD 0) s m args below meth c H locs 0 0 (MQ below (QiM E r σ) args s 0 0 (eA E)) (F0 m 47 ls []) := by
  obtain ⟨⟨hx, hb, hml, hown, hts⟩, hr, hlocks, hF, hAd⟩ := id C0
  unfold X5_furthest_b47 at h
  refine lv_iinc (v := v4 + 1) (lv' := [(4, .int (v4 + 1)), (0, .ref (ea E k0)), (1, .int v1), (2, .int v2), (3, .int v3)]) hx hb dX5_furthest_47 hl (k := 4) rfl rfl (by decide) rfl (fun ls hl => ?_)
  refine lv_goto (tgt := 5) hx hb dX5_furthest_50 (by decide) ?_
  exact hK5 k0 v1 v2 v3 (v4 + 1) hk0 _ _ _ _ hH (lv_sub hl [1, 2, 3, 4, 0] rfl) h
set_option maxRecDepth 100000 in
set_option maxHeartbeats 4000000 in
theorem w_X5_furthest_b5 {r : Int32} (C0 : Cx E p m c cX5_furthest 5 s args RX5 meth (some .int)) (K5 : Nat → Int32 → Int32 → Int32 → Int32 → Mem → Option Int32) (hK5 : ∀ (k0 : Nat) (v1 : Int32) (v2 : Int32) (v3 : Int32) (v4 : Int32) (hk0 : kd k0 = 5) (σ : Mem) (H : Heap) (locs : List Loc) (ls : Array Slot), Hs E s σ H locs → lv_has ls 5 [(0, .ref (ea E k0)), (1, .int v1), (2, .int v2), (3, .int v3), (4, .int v4)] → K5 k0 v1 v2 v3 v4 σ = some r → W p l e (rmD 0) s m args below meth c H locs 0 0 (MQ below (QiM E r σ) args s 0 0 (eA E)) (F0 m 5 ls []))  (k0 : Nat) (v1 : Int32) (v2 : Int32) (v3 : Int32) (v4 : Int32) (hk0 : kd k0 = 5) {σ : Mem} {H : Heap} {locs : List Loc} {ls : Array Slot} (hH : Hs E s σ H locs) (hl : lv_has ls 5 [(0, .ref (ea E k0)), (1, .int v1), (2, .int v2), (3, .int v3), (4, .int v4)]) (h : X5_furthest_b5 K5 k0 v1 v2 v3 v4 σ = some r) : W p l e (rmD 0) s m args below meth c H locs 0 0 (MQ below (QiM E r σ) args s 0 0 (eA E)) (F0 m 5 ls []) := by
  obtain ⟨⟨hx, hb, hml, hown, hts⟩, hr, hlocks, hF, hAd⟩ := id C0
  unfold X5_furthest_b5 at h
  refine lv_iload hx hb dX5_furthest_5 (lv_at hl 4 rfl) ?_
  refine lv_aload_n hx hb dX5_furthest_7 rfl (lv_at hl 0 rfl) ?_
  refine gf_X5_9 C0 hH hk0 dX5_furthest_8 ?_
  refine lv_icmp_ge (tgt := 53) hx hb dX5_furthest_11 (by decide) (fun c1 => ?_) (fun c1 => ?_)
  · replace h := if_t h c1
    refine lv_iload_n hx hb dX5_furthest_53 rfl (lv_at hl 3 rfl) ?_
    exact r_iret C0 hH (Option.some.inj h) rfl dX5_furthest_54
  · replace h := if_f h c1
    refine lv_iload_n hx hb dX5_furthest_14 rfl (lv_at hl 2 rfl) ?_
    refine lv_iload hx hb dX5_furthest_15 (lv_at hl 4 rfl) ?_
    refine lv_ishr hx hb dX5_furthest_17 ?_
    refine lv_iconst (v := 1) hx hb dX5_furthest_18 (by decide) ?_
    refine lv_iand hx hb dX5_furthest_19 ?_
    refine lv_iconst (v := 1) hx hb dX5_furthest_20 (by decide) ?_
    refine lv_icmp_ne (tgt := 47) hx hb dX5_furthest_21 (by decide) (fun c2 => ?_) (fun c2 => ?_)
    · replace h := if_f h c2
      exact w_X5_furthest_b47 C0 K5 hK5 k0 v1 v2 v3 v4 hk0 hH (lv_sub hl [0, 1, 2, 3, 4] rfl) h
    · replace h := if_t h c2
      refine lv_aload_n hx hb dX5_furthest_24 rfl (lv_at hl 0 rfl) ?_
      refine gf_X5_17 C0 hH hk0 dX5_furthest_25 ?_
      refine lv_iload_n hx hb dX5_furthest_28 rfl (lv_at hl 1 rfl) ?_
      obtain ⟨b3, h⟩ := gdx_s h
      refine ra_15 C0 hH (kf_5_1 hk0) b3 dX5_furthest_29 ?_
      refine lv_iload hx hb dX5_furthest_30 (lv_at hl 4 rfl) ?_
      obtain ⟨b4, h⟩ := gdx_s h
      refine r_iald C0 hH (n := 10) (ka_15 (kf_5_1 hk0) b3) b4 dX5_furthest_32 ?_
      refine lv_iload_n hx hb dX5_furthest_33 rfl (lv_at hl 3 rfl) ?_
      refine lv_icmp_le (tgt := 47) hx hb dX5_furthest_34 (by decide) (fun c5 => ?_) (fun c5 => ?_)
      · replace h := if_t h c5
        exact w_X5_furthest_b47 C0 K5 hK5 k0 v1 v2 v3 v4 hk0 hH (lv_sub hl [0, 1, 2, 3, 4] rfl) h
      · replace h := if_f h c5
        refine lv_aload_n hx hb dX5_furthest_37 rfl (lv_at hl 0 rfl) ?_
        refine gf_X5_17 C0 hH hk0 dX5_furthest_38 ?_
        refine lv_iload_n hx hb dX5_furthest_41 rfl (lv_at hl 1 rfl) ?_
        obtain ⟨b6, h⟩ := gdx_s h
        refine ra_15 C0 hH (kf_5_1 hk0) b6 dX5_furthest_42 ?_
        refine lv_iload hx hb dX5_furthest_43 (lv_at hl 4 rfl) ?_
        obtain ⟨b7, h⟩ := gdx_s h
        refine r_iald C0 hH (n := 10) (ka_15 (kf_5_1 hk0) b6) b7 dX5_furthest_45 ?_
        obtain ⟨x8, ex8, h⟩ := letv_s h
        refine topi_of ex8 ?_
        refine lv_istore_n (lv' := [(3, .int x8), (0, .ref (ea E k0)), (1, .int v1), (2, .int v2), (4, .int v4)]) hx hb dX5_furthest_46 rfl hl (by decide) rfl (fun ls hl => ?_)
        exact w_X5_furthest_b47 C0 K5 hK5 k0 v1 v2 x8 v4 hk0 hH (lv_sub hl [1, 2, 3, 0, 4] rfl) h
set_option maxRecDepth 100000 in
set_option maxHeartbeats 4000000 in
theorem w_X5_furthest_l5 {r : Int32} (C0 : Cx E p m c cX5_furthest 5 s args RX5 meth (some .int))  (n : Nat) : ∀ (k0 : Nat) (v1 : Int32) (v2 : Int32) (v3 : Int32) (v4 : Int32) (hk0 : kd k0 = 5) (σ : Mem) (H : Heap) (locs : List Loc) (ls : Array Slot), Hs E s σ H locs → lv_has ls 5 [(0, .ref (ea E k0)), (1, .int v1), (2, .int v2), (3, .int v3), (4, .int v4)] → X5_furthest_l5 n k0 v1 v2 v3 v4 σ = some r → W p l e (rmD 0) s m args below meth c H locs 0 0 (MQ below (QiM E r σ) args s 0 0 (eA E)) (F0 m 5 ls []) := by
  induction n with
  | zero =>
    intro k0 v1 v2 v3 v4 hk0 σ H locs ls hH hl h
    cases h
  | succ n ih =>
    intro k0 v1 v2 v3 v4 hk0 σ H locs ls hH hl h
    exact w_X5_furthest_b5 C0 (X5_furthest_l5 n)  ih k0 v1 v2 v3 v4 hk0 hH hl h
set_option maxRecDepth 100000 in
set_option maxHeartbeats 4000000 in
theorem w_X5_furthest_b0 {r : Int32} (C0 : Cx E p m c cX5_furthest 5 s args RX5 meth (some .int))  (k0 : Nat) (v1 : Int32) (v2 : Int32) (hk0 : kd k0 = 5) {σ : Mem} {H : Heap} {locs : List Loc} {ls : Array Slot} (hH : Hs E s σ H locs) (hl : lv_has ls 5 [(0, .ref (ea E k0)), (1, .int v1), (2, .int v2)]) (h : X5_furthest_b0 k0 v1 v2 σ = some r) : W p l e (rmD 0) s m args below meth c H locs 0 0 (MQ below (QiM E r σ) args s 0 0 (eA E)) (F0 m 0 ls []) := by
  obtain ⟨⟨hx, hb, hml, hown, hts⟩, hr, hlocks, hF, hAd⟩ := id C0
  unfold X5_furthest_b0 at h
  refine lv_iconst (v := 0) hx hb dX5_furthest_0 (by decide) ?_
  refine lv_istore_n (lv' := [(3, .int 0), (0, .ref (ea E k0)), (1, .int v1), (2, .int v2)]) hx hb dX5_furthest_1 rfl hl (by decide) rfl (fun ls hl => ?_)
  refine lv_iconst (v := 0) hx hb dX5_furthest_2 (by decide) ?_
  refine lv_istore (lv' := [(4, .int 0), (3, .int 0), (0, .ref (ea E k0)), (1, .int v1), (2, .int v2)]) hx hb dX5_furthest_3 hl (by decide) rfl (fun ls hl => ?_)
  exact w_X5_furthest_l5 C0  FU k0 v1 v2 0 0 hk0 _ _ _ _ hH (lv_sub hl [2, 3, 4, 1, 0] rfl) h
theorem c_X5_furthest {l : Launch} {E : EnvT} (hAd : Ad E) (k0 : Nat) (v1 : Int32) (v2 : Int32) (hk0 : kd k0 = 5) (σ : Mem) {r : Int32} (h : X5_furthest k0 v1 v2 σ = some r) : Met l yX5_furthest (wsM yX5_furthest cX5_furthest 5 (some .int)) (rmD 0) (PcM E [.ref (ea E k0), .int v1, .int v2] σ) (QiM E r σ) 0 0 (eA E) :=
  Met.ofM (by decide) (Nat.le_of_ble_eq_true rfl) (fun p e s m below meth c ls C0 hH hl => w_X5_furthest_b0 C0 k0 v1 v2 hk0 hH hl h) hAd
set_option maxRecDepth 100000 in
set_option maxHeartbeats 4000000 in
theorem w_X5_widest_b32 {r : Int32} (C0 : Cx E p m c cX5_widest 4 s args RX5 meth (some .int)) (K4 : Nat → Int32 → Int32 → Int32 → Mem → Option Int32) (hK4 : ∀ (k0 : Nat) (v1 : Int32) (v2 : Int32) (v3 : Int32) (hk0 : kd k0 = 5) (σ : Mem) (H : Heap) (locs : List Loc) (ls : Array Slot), Hs E s σ H locs → lv_has ls 4 [(0, .ref (ea E k0)), (1, .int v1), (2, .int v2), (3, .int v3)] → K4 k0 v1 v2 v3 σ = some r → W p l e (rmD 1) s m args below meth c H locs 0 0 (MQ below (QiM E r σ) args s 0 0 (eA E)) (F0 m 4 ls []))  (k0 : Nat) (v1 : Int32) (v2 : Int32) (v3 : Int32) (hk0 : kd k0 = 5) {σ : Mem} {H : Heap} {locs : List Loc} {ls : Array Slot} (hH : Hs E s σ H locs) (hl : lv_has ls 4 [(0, .ref (ea E k0)), (1, .int v1), (2, .int v2), (3, .int v3)]) (h : X5_widest_b32 K4 k0 v1 v2 v3 σ = some r) : W p l e (rmD 1) s m args below meth c H locs 0 0 (MQ below (QiM E r σ) args s 0 0 (eA E)) (F0 m 32 ls []) := by
  obtain ⟨⟨hx, hb, hml, hown, hts⟩, hr, hlocks, hF, hAd⟩ := id C0
  unfold X5_widest_b32 at h
  refine lv_iinc (v := v3 + 1) (lv' := [(3, .int (v3 + 1)), (0, .ref (ea E k0)), (1, .int v1), (2, .int v2)]) hx hb dX5_widest_32 hl (k := 3) rfl rfl (by decide) rfl (fun ls hl => ?_)
  refine lv_goto (tgt := 4) hx hb dX5_widest_35 (by decide) ?_
  exact hK4 k0 v1 v2 (v3 + 1) hk0 _ _ _ _ hH (lv_sub hl [1, 2, 3, 0] rfl) h
set_option maxRecDepth 100000 in
set_option maxHeartbeats 4000000 in
theorem w_X5_widest_b4 {r : Int32} (C0 : Cx E p m c cX5_widest 4 s args RX5 meth (some .int)) (K4 : Nat → Int32 → Int32 → Int32 → Mem → Option Int32) (hK4 : ∀ (k0 : Nat) (v1 : Int32) (v2 : Int32) (v3 : Int32) (hk0 : kd k0 = 5) (σ : Mem) (H : Heap) (locs : List Loc) (ls : Array Slot), Hs E s σ H locs → lv_has ls 4 [(0, .ref (ea E k0)), (1, .int v1), (2, .int v2), (3, .int v3)] → K4 k0 v1 v2 v3 σ = some r → W p l e (rmD 1) s m args below meth c H locs 0 0 (MQ below (QiM E r σ) args s 0 0 (eA E)) (F0 m 4 ls []))  (k0 : Nat) (v1 : Int32) (v2 : Int32) (v3 : Int32) (hk0 : kd k0 = 5) {σ : Mem} {H : Heap} {locs : List Loc} {ls : Array Slot} (hH : Hs E s σ H locs) (hl : lv_has ls 4 [(0, .ref (ea E k0)), (1, .int v1), (2, .int v2), (3, .int v3)]) (h : X5_widest_b4 K4 k0 v1 v2 v3 σ = some r) : W p l e (rmD 1) s m args below meth c H locs 0 0 (MQ below (QiM E r σ) args s 0 0 (eA E)) (F0 m 4 ls []) := by
  obtain ⟨⟨hx, hb, hml, hown, hts⟩, hr, hlocks, hF, hAd⟩ := id C0
  unfold X5_widest_b4 at h
  refine lv_iload_n hx hb dX5_widest_4 rfl (lv_at hl 3 rfl) ?_
  refine lv_aload_n hx hb dX5_widest_5 rfl (lv_at hl 0 rfl) ?_
  refine gf_X5_9 C0 hH hk0 dX5_widest_6 ?_
  refine lv_icmp_ge (tgt := 38) hx hb dX5_widest_9 (by decide) (fun c1 => ?_) (fun c1 => ?_)
  · replace h := if_t h c1
    refine lv_iload_n hx hb dX5_widest_38 rfl (lv_at hl 2 rfl) ?_
    exact r_iret C0 hH (Option.some.inj h) rfl dX5_widest_39
  · replace h := if_f h c1
    refine lv_iload_n hx hb dX5_widest_12 rfl (lv_at hl 1 rfl) ?_
    refine lv_iload_n hx hb dX5_widest_13 rfl (lv_at hl 3 rfl) ?_
    refine lv_ishr hx hb dX5_widest_14 ?_
    refine lv_iconst (v := 1) hx hb dX5_widest_15 (by decide) ?_
    refine lv_iand hx hb dX5_widest_16 ?_
    refine lv_iconst (v := 1) hx hb dX5_widest_17 (by decide) ?_
    refine lv_icmp_ne (tgt := 32) hx hb dX5_widest_18 (by decide) (fun c2 => ?_) (fun c2 => ?_)
    · replace h := if_f h c2
      exact w_X5_widest_b32 C0 K4 hK4 k0 v1 v2 v3 hk0 hH (lv_sub hl [0, 1, 2, 3] rfl) h
    · replace h := if_t h c2
      refine lv_iload_n hx hb dX5_widest_21 rfl (lv_at hl 2 rfl) ?_
      refine lv_aload_n hx hb dX5_widest_22 rfl (lv_at hl 0 rfl) ?_
      refine lv_iload_n hx hb dX5_widest_23 rfl (lv_at hl 3 rfl) ?_
      refine lv_iload_n hx hb dX5_widest_24 rfl (lv_at hl 1 rfl) ?_
      obtain ⟨r3, qr3, h⟩ := ob_s h
      refine go_i hH (va_run_V (As := [.int v3, .int v1]) (rest := [.int v2]) C0 hH lk_X5_35 (c_X5_furthest hAd k0 v3 v1 hk0 σ qr3) (by decide) (ci := 5) hk0 (by decide) (cob_5 _ _ _) rfl rfl hl.1 rfl (Nat.le_of_ble_eq_true rfl) dX5_widest_25) (fun H locs hH => ?_)
      refine r_mmax C0 (h := 0) qM_X5_39 hl.1 rfl (Nat.le_of_ble_eq_true rfl) dX5_widest_28 ?_
      obtain ⟨x4, ex4, h⟩ := letv_s h
      refine topi_of ex4 ?_
      refine lv_istore_n (lv' := [(2, .int x4), (0, .ref (ea E k0)), (1, .int v1), (3, .int v3)]) hx hb dX5_widest_31 rfl hl (by decide) rfl (fun ls hl => ?_)
      exact w_X5_widest_b32 C0 K4 hK4 k0 v1 x4 v3 hk0 hH (lv_sub hl [1, 2, 0, 3] rfl) h
set_option maxRecDepth 100000 in
set_option maxHeartbeats 4000000 in
theorem w_X5_widest_l4 {r : Int32} (C0 : Cx E p m c cX5_widest 4 s args RX5 meth (some .int))  (n : Nat) : ∀ (k0 : Nat) (v1 : Int32) (v2 : Int32) (v3 : Int32) (hk0 : kd k0 = 5) (σ : Mem) (H : Heap) (locs : List Loc) (ls : Array Slot), Hs E s σ H locs → lv_has ls 4 [(0, .ref (ea E k0)), (1, .int v1), (2, .int v2), (3, .int v3)] → X5_widest_l4 n k0 v1 v2 v3 σ = some r → W p l e (rmD 1) s m args below meth c H locs 0 0 (MQ below (QiM E r σ) args s 0 0 (eA E)) (F0 m 4 ls []) := by
  induction n with
  | zero =>
    intro k0 v1 v2 v3 hk0 σ H locs ls hH hl h
    cases h
  | succ n ih =>
    intro k0 v1 v2 v3 hk0 σ H locs ls hH hl h
    exact w_X5_widest_b4 C0 (X5_widest_l4 n)  ih k0 v1 v2 v3 hk0 hH hl h
set_option maxRecDepth 100000 in
set_option maxHeartbeats 4000000 in
theorem w_X5_widest_b0 {r : Int32} (C0 : Cx E p m c cX5_widest 4 s args RX5 meth (some .int))  (k0 : Nat) (v1 : Int32) (hk0 : kd k0 = 5) {σ : Mem} {H : Heap} {locs : List Loc} {ls : Array Slot} (hH : Hs E s σ H locs) (hl : lv_has ls 4 [(0, .ref (ea E k0)), (1, .int v1)]) (h : X5_widest_b0 k0 v1 σ = some r) : W p l e (rmD 1) s m args below meth c H locs 0 0 (MQ below (QiM E r σ) args s 0 0 (eA E)) (F0 m 0 ls []) := by
  obtain ⟨⟨hx, hb, hml, hown, hts⟩, hr, hlocks, hF, hAd⟩ := id C0
  unfold X5_widest_b0 at h
  refine lv_iconst (v := 0) hx hb dX5_widest_0 (by decide) ?_
  refine lv_istore_n (lv' := [(2, .int 0), (0, .ref (ea E k0)), (1, .int v1)]) hx hb dX5_widest_1 rfl hl (by decide) rfl (fun ls hl => ?_)
  refine lv_iconst (v := 0) hx hb dX5_widest_2 (by decide) ?_
  refine lv_istore_n (lv' := [(3, .int 0), (2, .int 0), (0, .ref (ea E k0)), (1, .int v1)]) hx hb dX5_widest_3 rfl hl (by decide) rfl (fun ls hl => ?_)
  exact w_X5_widest_l4 C0  FU k0 v1 0 0 hk0 _ _ _ _ hH (lv_sub hl [2, 3, 1, 0] rfl) h
theorem c_X5_widest {l : Launch} {E : EnvT} (hAd : Ad E) (k0 : Nat) (v1 : Int32) (hk0 : kd k0 = 5) (σ : Mem) {r : Int32} (h : X5_widest k0 v1 σ = some r) : Met l yX5_widest (wsM yX5_widest cX5_widest 4 (some .int)) (rmD 1) (PcM E [.ref (ea E k0), .int v1] σ) (QiM E r σ) 0 0 (eA E) :=
  Met.ofM (by decide) (Nat.le_of_ble_eq_true rfl) (fun p e s m below meth c ls C0 hH hl => w_X5_widest_b0 C0 k0 v1 hk0 hH hl h) hAd
set_option maxRecDepth 100000 in
set_option maxHeartbeats 4000000 in
theorem w_X5_middle_b54 {r : Int32} (C0 : Cx E p m c cX5_middle 6 s args RX5 meth (some .int)) (K8 : Nat → Int32 → Int32 → Int32 → Int32 → Mem → Option Int32) (hK8 : ∀ (k0 : Nat) (v1 : Int32) (v2 : Int32) (v3 : Int32) (v4 : Int32) (hk0 : kd k0 = 5) (σ : Mem) (H : Heap) (locs : List Loc) (ls : Array Slot), Hs E s σ H locs → lv_has ls 6 [(0, .ref (ea E k0)), (1, .int v1), (2, .int v2), (3, .int v3), (4, .int v4)] → K8 k0 v1 v2 v3 v4 σ = some r → W p l e (rmD 1) s m args below meth c H locs 0 0 (MQ below (QiM E r σ) args s 0 0 (eA E)) (F0 m 8 ls []))  (k0 : Nat) (v1 : Int32) (v2 : Int32) (v3 : Int32) (v4 : Int32) (hk0 : kd k0 = 5) {σ : Mem} {H : Heap} {locs : List Loc} {ls : Array Slot} (hH : Hs E s σ H locs) (hl : lv_has ls 6 [(0, .ref (ea E k0)), (1, .int v1), (2, .int v2), (3, .int v3), (4, .int v4)]) (h : X5_middle_b54 K8 k0 v1 v2 v3 v4 σ = some r) : W p l e (rmD 1) s m args below meth c H locs 0 0 (MQ below (QiM E r σ) args s 0 0 (eA E)) (F0 m 54 ls []) := by
  obtain ⟨⟨hx, hb, hml, hown, hts⟩, hr, hlocks, hF, hAd⟩ := id C0
  unfold X5_middle_b54 at h
  refine lv_iinc (v := v4 + 1) (lv' := [(4, .int (v4 + 1)), (0, .ref (ea E k0)), (1, .int v1), (2, .int v2), (3, .int v3)]) hx hb dX5_middle_54 hl (k := 4) rfl rfl (by decide) rfl (fun ls hl => ?_)
  refine lv_goto (tgt := 8) hx hb dX5_middle_57 (by decide) ?_
  exact hK8 k0 v1 v2 v3 (v4 + 1) hk0 _ _ _ _ hH (lv_sub hl [1, 2, 3, 4, 0] rfl) h
set_option maxRecDepth 100000 in
set_option maxHeartbeats 4000000 in
theorem w_X5_middle_b48 {r : Int32} (C0 : Cx E p m c cX5_middle 6 s args RX5 meth (some .int)) (K8 : Nat → Int32 → Int32 → Int32 → Int32 → Mem → Option Int32) (hK8 : ∀ (k0 : Nat) (v1 : Int32) (v2 : Int32) (v3 : Int32) (v4 : Int32) (hk0 : kd k0 = 5) (σ : Mem) (H : Heap) (locs : List Loc) (ls : Array Slot), Hs E s σ H locs → lv_has ls 6 [(0, .ref (ea E k0)), (1, .int v1), (2, .int v2), (3, .int v3), (4, .int v4)] → K8 k0 v1 v2 v3 v4 σ = some r → W p l e (rmD 1) s m args below meth c H locs 0 0 (MQ below (QiM E r σ) args s 0 0 (eA E)) (F0 m 8 ls []))  (k0 : Nat) (v1 : Int32) (v4 : Int32) (v5 : Int32) (hk0 : kd k0 = 5) {σ : Mem} {H : Heap} {locs : List Loc} {ls : Array Slot} (hH : Hs E s σ H locs) (hl : lv_has ls 6 [(0, .ref (ea E k0)), (1, .int v1), (4, .int v4), (5, .int v5)]) (h : X5_middle_b48 K8 k0 v1 v4 v5 σ = some r) : W p l e (rmD 1) s m args below meth c H locs 0 0 (MQ below (QiM E r σ) args s 0 0 (eA E)) (F0 m 48 ls []) := by
  obtain ⟨⟨hx, hb, hml, hown, hts⟩, hr, hlocks, hF, hAd⟩ := id C0
  unfold X5_middle_b48 at h
  refine lv_iload hx hb dX5_middle_48 (lv_at hl 2 rfl) ?_
  refine lv_istore_n (lv' := [(2, .int v4), (0, .ref (ea E k0)), (1, .int v1), (4, .int v4), (5, .int v5)]) hx hb dX5_middle_50 rfl hl (by decide) rfl (fun ls hl => ?_)
  refine lv_iload hx hb dX5_middle_51 (lv_at hl 4 rfl) ?_
  refine lv_istore_n (lv' := [(3, .int v5), (2, .int v4), (0, .ref (ea E k0)), (1, .int v1), (4, .int v4), (5, .int v5)]) hx hb dX5_middle_53 rfl hl (by decide) rfl (fun ls hl => ?_)
  exact w_X5_middle_b54 C0 K8 hK8 k0 v1 v4 v5 v4 hk0 hH (lv_sub hl [2, 3, 1, 0, 4] rfl) h
set_option maxRecDepth 100000 in
set_option maxHeartbeats 4000000 in
theorem w_X5_middle_b8 {r : Int32} (C0 : Cx E p m c cX5_middle 6 s args RX5 meth (some .int)) (K8 : Nat → Int32 → Int32 → Int32 → Int32 → Mem → Option Int32) (hK8 : ∀ (k0 : Nat) (v1 : Int32) (v2 : Int32) (v3 : Int32) (v4 : Int32) (hk0 : kd k0 = 5) (σ : Mem) (H : Heap) (locs : List Loc) (ls : Array Slot), Hs E s σ H locs → lv_has ls 6 [(0, .ref (ea E k0)), (1, .int v1), (2, .int v2), (3, .int v3), (4, .int v4)] → K8 k0 v1 v2 v3 v4 σ = some r → W p l e (rmD 1) s m args below meth c H locs 0 0 (MQ below (QiM E r σ) args s 0 0 (eA E)) (F0 m 8 ls []))  (k0 : Nat) (v1 : Int32) (v2 : Int32) (v3 : Int32) (v4 : Int32) (hk0 : kd k0 = 5) {σ : Mem} {H : Heap} {locs : List Loc} {ls : Array Slot} (hH : Hs E s σ H locs) (hl : lv_has ls 6 [(0, .ref (ea E k0)), (1, .int v1), (2, .int v2), (3, .int v3), (4, .int v4)]) (h : X5_middle_b8 K8 k0 v1 v2 v3 v4 σ = some r) : W p l e (rmD 1) s m args below meth c H locs 0 0 (MQ below (QiM E r σ) args s 0 0 (eA E)) (F0 m 8 ls []) := by
  obtain ⟨⟨hx, hb, hml, hown, hts⟩, hr, hlocks, hF, hAd⟩ := id C0
  unfold X5_middle_b8 at h
  refine lv_iload hx hb dX5_middle_8 (lv_at hl 4 rfl) ?_
  refine lv_aload_n hx hb dX5_middle_10 rfl (lv_at hl 0 rfl) ?_
  refine gf_X5_9 C0 hH hk0 dX5_middle_11 ?_
  refine lv_icmp_ge (tgt := 60) hx hb dX5_middle_14 (by decide) (fun c1 => ?_) (fun c1 => ?_)
  · replace h := if_t h c1
    refine lv_iload_n hx hb dX5_middle_60 rfl (lv_at hl 2 rfl) ?_
    exact r_iret C0 hH (Option.some.inj h) rfl dX5_middle_61
  · replace h := if_f h c1
    refine lv_iload_n hx hb dX5_middle_17 rfl (lv_at hl 1 rfl) ?_
    refine lv_iload hx hb dX5_middle_18 (lv_at hl 4 rfl) ?_
    refine lv_ishr hx hb dX5_middle_20 ?_
    refine lv_iconst (v := 1) hx hb dX5_middle_21 (by decide) ?_
    refine lv_iand hx hb dX5_middle_22 ?_
    refine lv_iconst (v := 1) hx hb dX5_middle_23 (by decide) ?_
    refine lv_icmp_ne (tgt := 54) hx hb dX5_middle_24 (by decide) (fun c2 => ?_) (fun c2 => ?_)
    · replace h := if_f h c2
      exact w_X5_middle_b54 C0 K8 hK8 k0 v1 v2 v3 v4 hk0 hH (lv_sub hl [0, 1, 2, 3, 4] rfl) h
    · replace h := if_t h c2
      refine lv_aload_n hx hb dX5_middle_27 rfl (lv_at hl 0 rfl) ?_
      refine lv_iload hx hb dX5_middle_28 (lv_at hl 4 rfl) ?_
      refine lv_iload_n hx hb dX5_middle_30 rfl (lv_at hl 1 rfl) ?_
      obtain ⟨r3, qr3, h⟩ := ob_s h
      refine go_i hH (va_run_V (As := [.int v4, .int v1]) (rest := []) C0 hH lk_X5_35 (c_X5_furthest hAd k0 v4 v1 hk0 σ qr3) (by decide) (ci := 5) hk0 (by decide) (cob_5 _ _ _) rfl rfl hl.1 rfl (Nat.le_of_ble_eq_true rfl) dX5_middle_31) (fun H locs hH => ?_)
      refine lv_istore (lv' := [(5, .int r3), (0, .ref (ea E k0)), (1, .int v1), (2, .int v2), (3, .int v3), (4, .int v4)]) hx hb dX5_middle_34 hl (by decide) rfl (fun ls hl => ?_)
      refine lv_iload_n hx hb dX5_middle_36 rfl (lv_at hl 3 rfl) ?_
      refine lv_ldc hx hb hown (hts _ qK_X5_44) dX5_middle_37 ?_
      refine lv_icmp_eq (tgt := 48) hx hb dX5_middle_39 (by decide) (fun c4 => ?_) (fun c4 => ?_)
      · replace h := if_t h c4
        exact w_X5_middle_b48 C0 K8 hK8 k0 v1 v4 r3 hk0 hH (lv_sub hl [1, 2, 5, 0] rfl) h
      · replace h := if_f h c4
        refine lv_iload hx hb dX5_middle_42 (lv_at hl 0 rfl) ?_
        refine lv_iload_n hx hb dX5_middle_44 rfl (lv_at hl 4 rfl) ?_
        refine lv_icmp_ge (tgt := 54) hx hb dX5_middle_45 (by decide) (fun c5 => ?_) (fun c5 => ?_)
        · replace h := if_t h c5
          exact w_X5_middle_b54 C0 K8 hK8 k0 v1 v2 v3 v4 hk0 hH (lv_sub hl [1, 2, 3, 4, 5] rfl) h
        · replace h := if_f h c5
          exact w_X5_middle_b48 C0 K8 hK8 k0 v1 v4 r3 hk0 hH (lv_sub hl [1, 2, 5, 0] rfl) h
set_option maxRecDepth 100000 in
set_option maxHeartbeats 4000000 in
theorem w_X5_middle_l8 {r : Int32} (C0 : Cx E p m c cX5_middle 6 s args RX5 meth (some .int))  (n : Nat) : ∀ (k0 : Nat) (v1 : Int32) (v2 : Int32) (v3 : Int32) (v4 : Int32) (hk0 : kd k0 = 5) (σ : Mem) (H : Heap) (locs : List Loc) (ls : Array Slot), Hs E s σ H locs → lv_has ls 6 [(0, .ref (ea E k0)), (1, .int v1), (2, .int v2), (3, .int v3), (4, .int v4)] → X5_middle_l8 n k0 v1 v2 v3 v4 σ = some r → W p l e (rmD 1) s m args below meth c H locs 0 0 (MQ below (QiM E r σ) args s 0 0 (eA E)) (F0 m 8 ls []) := by
  induction n with
  | zero =>
    intro k0 v1 v2 v3 v4 hk0 σ H locs ls hH hl h
    cases h
  | succ n ih =>
    intro k0 v1 v2 v3 v4 hk0 σ H locs ls hH hl h
    exact w_X5_middle_b8 C0 (X5_middle_l8 n)  ih k0 v1 v2 v3 v4 hk0 hH hl h
set_option maxRecDepth 100000 in
set_option maxHeartbeats 4000000 in
theorem w_X5_middle_b0 {r : Int32} (C0 : Cx E p m c cX5_middle 6 s args RX5 meth (some .int))  (k0 : Nat) (v1 : Int32) (hk0 : kd k0 = 5) {σ : Mem} {H : Heap} {locs : List Loc} {ls : Array Slot} (hH : Hs E s σ H locs) (hl : lv_has ls 6 [(0, .ref (ea E k0)), (1, .int v1)]) (h : X5_middle_b0 k0 v1 σ = some r) : W p l e (rmD 1) s m args below meth c H locs 0 0 (MQ below (QiM E r σ) args s 0 0 (eA E)) (F0 m 0 ls []) := by
  obtain ⟨⟨hx, hb, hml, hown, hts⟩, hr, hlocks, hF, hAd⟩ := id C0
  unfold X5_middle_b0 at h
  refine lv_ldc hx hb hown (hts _ qK_X5_44) dX5_middle_0 ?_
  refine lv_istore_n (lv' := [(2, .int ((-1000000))), (0, .ref (ea E k0)), (1, .int v1)]) hx hb dX5_middle_2 rfl hl (by decide) rfl (fun ls hl => ?_)
  refine lv_iconst (v := 0) hx hb dX5_middle_3 (by decide) ?_
  refine lv_istore_n (lv' := [(3, .int 0), (2, .int ((-1000000))), (0, .ref (ea E k0)), (1, .int v1)]) hx hb dX5_middle_4 rfl hl (by decide) rfl (fun ls hl => ?_)
  refine lv_iconst (v := 0) hx hb dX5_middle_5 (by decide) ?_
  refine lv_istore (lv' := [(4, .int 0), (3, .int 0), (2, .int ((-1000000))), (0, .ref (ea E k0)), (1, .int v1)]) hx hb dX5_middle_6 hl (by decide) rfl (fun ls hl => ?_)
  exact w_X5_middle_l8 C0  FU k0 v1 (-1000000) 0 0 hk0 _ _ _ _ hH (lv_sub hl [3, 4, 2, 1, 0] rfl) h
theorem c_X5_middle {l : Launch} {E : EnvT} (hAd : Ad E) (k0 : Nat) (v1 : Int32) (hk0 : kd k0 = 5) (σ : Mem) {r : Int32} (h : X5_middle k0 v1 σ = some r) : Met l yX5_middle (wsM yX5_middle cX5_middle 6 (some .int)) (rmD 1) (PcM E [.ref (ea E k0), .int v1] σ) (QiM E r σ) 0 0 (eA E) :=
  Met.ofM (by decide) (Nat.le_of_ble_eq_true rfl) (fun p e s m below meth c ls C0 hH hl => w_X5_middle_b0 C0 k0 v1 hk0 hH hl h) hAd
end
