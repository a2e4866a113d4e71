section
variable {p : Program} {l : Launch} {e : Env} {s : State} {m : MethodId} {args : Array Value} {below : List Frame} {meth : Method} {c : Code} {E : EnvT}
set_option maxRecDepth 100000 in
set_option maxHeartbeats 4000000 in
theorem w_X12_drawn_b61 {r : Int32} {σ' : Mem} (C0 : Cx E p m c cX12_drawn 10 s args RX12 meth (some .int)) (K61 : Nat → Int32 → Int32 → Int64 → Int32 → Int32 → Mem → Option (Int32 × Mem)) (hK61 : ∀ (k0 : Nat) (v1 : Int32) (v3 : Int32) (v4 : Int64) (v6 : Int32) (v7 : Int32) (hk0 : kd k0 = 12) (σ : Mem) (H : Heap) (locs : List Loc) (ls : Array Slot), Hs E s σ H locs → lv_has ls 10 [(0, .ref (ea E k0)), (1, .int v1), (3, .int v3), (4, .long v4), (6, .int v6), (7, .int v7)] → K61 k0 v1 v3 v4 v6 v7 σ = some (r, σ') → W p l e (rmD 6) s m args below meth c H locs 0 0 (MQ below (QiM E r σ') args s 0 0 (eA E)) (F0 m 61 ls []))  (k0 : Nat) (v1 : Int32) (v3 : Int32) (v4 : Int64) (v6 : Int32) (v7 : Int32) (hk0 : kd k0 = 12) {σ : Mem} {H : Heap} {locs : List Loc} {ls : Array Slot} (hH : Hs E s σ H locs) (hl : lv_has ls 10 [(0, .ref (ea E k0)), (1, .int v1), (3, .int v3), (4, .long v4), (6, .int v6), (7, .int v7)]) (h : X12_drawn_b61 K61 k0 v1 v3 v4 v6 v7 σ = some (r, σ')) : W p l e (rmD 6) s m args below meth c H locs 0 0 (MQ below (QiM E r σ') args s 0 0 (eA E)) (F0 m 61 ls []) := by
  obtain ⟨⟨hx, hb, hml, hown, hts⟩, hr, hlocks, hF, hAd⟩ := id C0
  unfold X12_drawn_b61 at h
  refine lv_iload hx hb dX12_drawn_61 (lv_at hl 5 rfl) ?_
  refine lv_iload_n hx hb dX12_drawn_63 rfl (lv_at hl 1 rfl) ?_
  refine lv_icmp_ge (tgt := 151) hx hb dX12_drawn_64 (by decide) (fun c1 => ?_) (fun c1 => ?_)
  · replace h := if_t h c1
    refine lv_iload_n hx hb dX12_drawn_151 rfl (lv_at hl 2 rfl) ?_
    refine lv_if_ne (tgt := 160) hx hb dX12_drawn_152 (by decide) (fun c2 => ?_) (fun c2 => ?_)
    · replace h := if_f h c2
      refine lv_aload_n hx hb dX12_drawn_160 rfl (lv_at hl 0 rfl) ?_
      refine gf_X12_25 C0 hH hk0 dX12_drawn_161 ?_
      refine lv_aload_n hx hb dX12_drawn_164 rfl (lv_at hl 0 rfl) ?_
      refine gf_X12_25 C0 hH hk0 dX12_drawn_165 ?_
      obtain ⟨r3, qr3, h⟩ := ob_s h
      refine go_i hH (va_run_S (As := [.ref (ea E (k0 + 6))]) (rest := [.ref (ea E (k0 + 6))]) C0 hH lk_X12_204 (c_X12_allOf hAd (k0 + 6) (kf_12_6 hk0) σ qr3) (by decide) rfl hl.1 rfl (Nat.le_of_ble_eq_true rfl) dX12_drawn_168) (fun H locs hH => ?_)
      obtain ⟨r4, qr4, h⟩ := ob_s h
      refine go_i hH (va_run_S (As := [.ref (ea E (k0 + 6)), .int r3]) (rest := []) C0 hH lk_X12_208 (c_X12_spreadOf hAd (k0 + 6) r3 (kf_12_6 hk0) σ qr4) (by decide) rfl hl.1 rfl (Nat.le_of_ble_eq_true rfl) dX12_drawn_171) (fun H locs hH => ?_)
      exact r_iret C0 hH (pj1 h) (pj2 h) dX12_drawn_174
    · replace h := if_t h c2
      refine lv_iload hx hb dX12_drawn_155 (lv_at hl 4 rfl) ?_
      refine lv_goto (tgt := 174) hx hb dX12_drawn_157 (by decide) ?_
      exact r_iret C0 hH (pj1 h) (pj2 h) dX12_drawn_174
  · replace h := if_f h c1
    refine lv_lload hx hb dX12_drawn_67 (lv_at hl 3 rfl) ?_
    refine lv_ldc2 hx hb hown (hts _ qL_X12_330) dX12_drawn_69 ?_
    refine lv_lmul hx hb dX12_drawn_72 ?_
    refine lv_ldc2 hx hb hown (hts _ qL_X12_332) dX12_drawn_73 ?_
    refine lv_lrem hx hb dX12_drawn_76 (by decide) ?_
    obtain ⟨x5, ex5, h⟩ := letv_s h
    refine topl_of ex5 ?_
    refine lv_lstore (lv' := [(4, .long x5), (0, .ref (ea E k0)), (1, .int v1), (3, .int v3), (6, .int v6), (7, .int v7)]) hx hb dX12_drawn_77 hl (by decide) rfl (fun ls hl => ?_)
    refine lv_lload hx hb dX12_drawn_79 (lv_at hl 0 rfl) ?_
    refine lv_aload_n hx hb dX12_drawn_81 rfl (lv_at hl 1 rfl) ?_
    refine gf_X12_25 C0 hH hk0 dX12_drawn_82 ?_
    refine lv_iconst (v := 0) hx hb dX12_drawn_85 (by decide) ?_
    refine r_iald C0 hH (n := 43) (kf_12_6 hk0) (vin (by decide)) dX12_drawn_86 ?_
    refine lv_i2l (v := Int32.toInt64 (σ (k0 + 6) (nc 0))) hx hb dX12_drawn_87 rfl ?_
    obtain ⟨z6, h⟩ := gdl_s h
    refine lv_lrem hx hb dX12_drawn_88 z6 ?_
    refine lv_l2i (v := Int64.toInt32 (lrm x5 (Int32.toInt64 (σ (k0 + 6) (nc 0))))) hx hb dX12_drawn_89 rfl ?_
    obtain ⟨x7, ex7, h⟩ := letv_s h
    refine topi_of ex7 ?_
    refine lv_istore (lv' := [(8, .int x7), (4, .long x5), (0, .ref (ea E k0)), (1, .int v1), (3, .int v3), (6, .int v6), (7, .int v7)]) hx hb dX12_drawn_90 hl (by decide) rfl (fun ls hl => ?_)
    refine lv_lload hx hb dX12_drawn_92 (lv_at hl 1 rfl) ?_
    refine lv_ldc2 hx hb hown (hts _ qL_X12_334) dX12_drawn_94 ?_
    refine lv_ldiv hx hb dX12_drawn_97 (by decide) ?_
    refine lv_ldc2 hx hb hown (hts _ qL_X12_336) dX12_drawn_98 ?_
    refine lv_lrem hx hb dX12_drawn_101 (by decide) ?_
    refine lv_l2i (v := Int64.toInt32 (lrm (x5 / 16) 3)) hx hb dX12_drawn_102 rfl ?_
    obtain ⟨x8, ex8, h⟩ := letv_s h
    refine topi_of ex8 ?_
    refine lv_istore (lv' := [(9, .int x8), (8, .int x7), (4, .long x5), (0, .ref (ea E k0)), (1, .int v1), (3, .int v3), (6, .int v6), (7, .int v7)]) hx hb dX12_drawn_103 hl (by decide) rfl (fun ls hl => ?_)
    refine lv_aload_n hx hb dX12_drawn_105 rfl (lv_at hl 3 rfl) ?_
    refine gf_X12_25 C0 hH hk0 dX12_drawn_106 ?_
    refine lv_iconst (v := 3) hx hb dX12_drawn_109 (by decide) ?_
    refine lv_iconst (v := 4) hx hb dX12_drawn_110 (by decide) ?_
    refine lv_iload hx hb dX12_drawn_111 (lv_at hl 1 rfl) ?_
    refine lv_imul hx hb dX12_drawn_113 ?_
    refine lv_iadd hx hb dX12_drawn_114 ?_
    refine lv_iconst (v := 1) hx hb dX12_drawn_115 (by decide) ?_
    refine lv_iadd hx hb dX12_drawn_116 ?_
    refine lv_iload hx hb dX12_drawn_117 (lv_at hl 0 rfl) ?_
    refine lv_iadd hx hb dX12_drawn_119 ?_
    refine lv_lload hx hb dX12_drawn_120 (lv_at hl 2 rfl) ?_
    refine lv_ldc2 hx hb hown (hts _ qL_X12_338) dX12_drawn_122 ?_
    refine lv_ldiv hx hb dX12_drawn_125 (by decide) ?_
    refine lv_ldc2 hx hb hown (hts _ qL_X12_340) dX12_drawn_126 ?_
    refine lv_lrem hx hb dX12_drawn_129 (by decide) ?_
    refine lv_l2i (v := Int64.toInt32 (lrm (x5 / 64) 31)) hx hb dX12_drawn_130 rfl ?_
    obtain ⟨b9, h⟩ := gdx_s h
    refine r_iast C0 hH (n := 43) (kf_12_6 hk0) b9 dX12_drawn_131 (fun H locs hH => ?_)
    refine lv_iload hx hb dX12_drawn_132 (lv_at hl 6 rfl) ?_
    refine lv_aload_n hx hb dX12_drawn_134 rfl (lv_at hl 3 rfl) ?_
    refine lv_aload_n hx hb dX12_drawn_135 rfl (lv_at hl 3 rfl) ?_
    refine gf_X12_25 C0 hH hk0 dX12_drawn_136 ?_
    obtain ⟨r10, σ11, qr10, h⟩ := ob2_s h
    refine go_i hH (va_run_V (As := [.ref (ea E (k0 + 6))]) (rest := [.int v6]) C0 hH lk_X12_249 (c_X12_layHands hAd k0 (k0 + 6) hk0 (kf_12_6 hk0) (wr σ (k0 + 6) (nc (((3 + (4 * x7)) + 1) + x8)) (Int64.toInt32 (lrm (x5 / 64) 31))) qr10) (by decide) (ci := 12) hk0 (by decide) (cob_12 _ _ _) rfl rfl hl.1 rfl (Nat.le_of_ble_eq_true rfl) dX12_drawn_139) (fun H locs hH => ?_)
    refine lv_iadd hx hb dX12_drawn_142 ?_
    obtain ⟨x12, ex12, h⟩ := letv_s h
    refine topi_of ex12 ?_
    refine lv_istore (lv' := [(6, .int x12), (9, .int x8), (8, .int x7), (4, .long x5), (0, .ref (ea E k0)), (1, .int v1), (3, .int v3), (7, .int v7)]) hx hb dX12_drawn_143 hl (by decide) rfl (fun ls hl => ?_)
    refine lv_iinc (v := v7 + 1) (lv' := [(7, .int (v7 + 1)), (6, .int x12), (9, .int x8), (8, .int x7), (4, .long x5), (0, .ref (ea E k0)), (1, .int v1), (3, .int v3)]) hx hb dX12_drawn_145 hl (k := 7) rfl rfl (by decide) rfl (fun ls hl => ?_)
    refine lv_goto (tgt := 61) hx hb dX12_drawn_148 (by decide) ?_
    exact hK61 k0 v1 v3 x5 x12 (v7 + 1) hk0 _ _ _ _ hH (lv_sub hl [5, 6, 7, 4, 1, 0] rfl) h
set_option maxRecDepth 100000 in
set_option maxHeartbeats 4000000 in
theorem w_X12_drawn_l61 {r : Int32} {σ' : Mem} (C0 : Cx E p m c cX12_drawn 10 s args RX12 meth (some .int))  (n : Nat) : ∀ (k0 : Nat) (v1 : Int32) (v3 : Int32) (v4 : Int64) (v6 : Int32) (v7 : Int32) (hk0 : kd k0 = 12) (σ : Mem) (H : Heap) (locs : List Loc) (ls : Array Slot), Hs E s σ H locs → lv_has ls 10 [(0, .ref (ea E k0)), (1, .int v1), (3, .int v3), (4, .long v4), (6, .int v6), (7, .int v7)] → X12_drawn_l61 n k0 v1 v3 v4 v6 v7 σ = some (r, σ') → W p l e (rmD 6) s m args below meth c H locs 0 0 (MQ below (QiM E r σ') args s 0 0 (eA E)) (F0 m 61 ls []) := by
  induction n with
  | zero =>
    intro k0 v1 v3 v4 v6 v7 hk0 σ H locs ls hH hl h
    cases h
  | succ n ih =>
    intro k0 v1 v3 v4 v6 v7 hk0 σ H locs ls hH hl h
    exact w_X12_drawn_b61 C0 (X12_drawn_l61 n)  ih k0 v1 v3 v4 v6 v7 hk0 hH hl h
set_option maxRecDepth 100000 in
set_option maxHeartbeats 4000000 in
theorem w_X12_drawn_b0 {r : Int32} {σ' : Mem} (C0 : Cx E p m c cX12_drawn 10 s args RX12 meth (some .int))  (k0 : Nat) (v1 : Int32) (v2 : Int32) (v3 : Int32) (hk0 : kd k0 = 12) {σ : Mem} {H : Heap} {locs : List Loc} {ls : Array Slot} (hH : Hs E s σ H locs) (hl : lv_has ls 10 [(0, .ref (ea E k0)), (1, .int v1), (2, .int v2), (3, .int v3)]) (h : X12_drawn_b0 k0 v1 v2 v3 σ = some (r, σ')) : W p l e (rmD 6) s m args below meth c H locs 0 0 (MQ below (QiM E r σ') args s 0 0 (eA E)) (F0 m 0 ls []) := by
  obtain ⟨⟨hx, hb, hml, hown, hts⟩, hr, hlocks, hF, hAd⟩ := id C0
  unfold X12_drawn_b0 at h
  refine lv_aload_n hx hb dX12_drawn_0 rfl (lv_at hl 0 rfl) ?_
  obtain ⟨r1, qr1, h⟩ := ob_s h
  refine go_i hH (va_run_V (As := []) (rest := []) C0 hH lk_X12_159 (c_X12_isThere hAd k0 hk0 σ qr1) (by decide) (ci := 12) hk0 (by decide) (cob_12 _ _ _) rfl rfl hl.1 rfl (Nat.le_of_ble_eq_true rfl) dX12_drawn_1) (fun H locs hH => ?_)
  refine lv_if_ne (tgt := 10) hx hb dX12_drawn_4 (by decide) (fun c2 => ?_) (fun c2 => ?_)
  · replace h := if_f h c2
    refine lv_iload_n hx hb dX12_drawn_10 rfl (lv_at hl 1 rfl) ?_
    refine lv_i2l (v := Int32.toInt64 v1) hx hb dX12_drawn_11 rfl ?_
    refine lv_lconst (v := 0) hx hb dX12_drawn_12 (by decide) ?_
    refine lv_ldc2 hx hb hown (hts _ qL_X12_190) dX12_drawn_13 ?_
    refine go_i hH (va_run_S (As := [.long (Int32.toInt64 v1), .long 0, .long 20]) (rest := []) C0 hH lk_X12_75 (c_X12_in hAd (Int32.toInt64 v1) 0 20  σ rfl) (by decide) rfl hl.1 rfl (Nat.le_of_ble_eq_true rfl) dX12_drawn_16) (fun H locs hH => ?_)
    refine lv_if_eq (tgt := 44) hx hb dX12_drawn_19 (by decide) (fun c3 => ?_) (fun c3 => ?_)
    · replace h := if_t h c3
      refine lv_ldc hx hb hown (hts _ qK_X12_85) dX12_drawn_44 ?_
      exact r_iret C0 hH (pj1 h) (pj2 h) dX12_drawn_46
    · replace h := if_f h c3
      refine lv_iload_n hx hb dX12_drawn_22 rfl (lv_at hl 2 rfl) ?_
      refine lv_i2l (v := Int32.toInt64 v2) hx hb dX12_drawn_23 rfl ?_
      refine lv_lconst (v := 1) hx hb dX12_drawn_24 (by decide) ?_
      refine lv_ldc2 hx hb hown (hts _ qL_X12_328) dX12_drawn_25 ?_
      refine go_i hH (va_run_S (As := [.long (Int32.toInt64 v2), .long 1, .long 999999]) (rest := []) C0 hH lk_X12_75 (c_X12_in hAd (Int32.toInt64 v2) 1 999999  σ rfl) (by decide) rfl hl.1 rfl (Nat.le_of_ble_eq_true rfl) dX12_drawn_28) (fun H locs hH => ?_)
      refine lv_if_eq (tgt := 44) hx hb dX12_drawn_31 (by decide) (fun c4 => ?_) (fun c4 => ?_)
      · replace h := if_t h c4
        refine lv_ldc hx hb hown (hts _ qK_X12_85) dX12_drawn_44 ?_
        exact r_iret C0 hH (pj1 h) (pj2 h) dX12_drawn_46
      · replace h := if_f h c4
        refine lv_iload_n hx hb dX12_drawn_34 rfl (lv_at hl 3 rfl) ?_
        refine lv_i2l (v := Int32.toInt64 v3) hx hb dX12_drawn_35 rfl ?_
        refine lv_lconst (v := 0) hx hb dX12_drawn_36 (by decide) ?_
        refine lv_lconst (v := 1) hx hb dX12_drawn_37 (by decide) ?_
        refine go_i hH (va_run_S (As := [.long (Int32.toInt64 v3), .long 0, .long 1]) (rest := []) C0 hH lk_X12_75 (c_X12_in hAd (Int32.toInt64 v3) 0 1  σ rfl) (by decide) rfl hl.1 rfl (Nat.le_of_ble_eq_true rfl) dX12_drawn_38) (fun H locs hH => ?_)
        refine lv_if_ne (tgt := 47) hx hb dX12_drawn_41 (by decide) (fun c5 => ?_) (fun c5 => ?_)
        · replace h := if_f h c5
          refine lv_aload_n hx hb dX12_drawn_47 rfl (lv_at hl 0 rfl) ?_
          obtain ⟨σ6, qσ6, h⟩ := ob_s h
          refine go_v hH (va_run_V (As := []) (rest := []) C0 hH lk_X12_308 (c_X12_layThen hAd k0 hk0 σ qσ6) (by decide) (ci := 12) hk0 (by decide) (cob_12 _ _ _) rfl rfl hl.1 rfl (Nat.le_of_ble_eq_true rfl) dX12_drawn_48) (fun H locs hH => ?_)
          refine lv_iload_n hx hb dX12_drawn_51 rfl (lv_at hl 2 rfl) ?_
          refine lv_i2l (v := Int32.toInt64 v2) hx hb dX12_drawn_52 rfl ?_
          obtain ⟨x7, ex7, h⟩ := letv_s h
          refine topl_of ex7 ?_
          refine lv_lstore (lv' := [(4, .long x7), (0, .ref (ea E k0)), (1, .int v1), (2, .int v2), (3, .int v3)]) hx hb dX12_drawn_53 hl (by decide) rfl (fun ls hl => ?_)
          refine lv_iconst (v := 0) hx hb dX12_drawn_55 (by decide) ?_
          refine lv_istore (lv' := [(6, .int 0), (4, .long x7), (0, .ref (ea E k0)), (1, .int v1), (2, .int v2), (3, .int v3)]) hx hb dX12_drawn_56 hl (by decide) rfl (fun ls hl => ?_)
          refine lv_iconst (v := 0) hx hb dX12_drawn_58 (by decide) ?_
          refine lv_istore (lv' := [(7, .int 0), (6, .int 0), (4, .long x7), (0, .ref (ea E k0)), (1, .int v1), (2, .int v2), (3, .int v3)]) hx hb dX12_drawn_59 hl (by decide) rfl (fun ls hl => ?_)
          exact w_X12_drawn_l61 C0  FU k0 v1 v3 x7 0 0 hk0 _ _ _ _ hH (lv_sub hl [3, 4, 6, 2, 1, 0] rfl) h
        · replace h := if_t h c5
          refine lv_ldc hx hb hown (hts _ qK_X12_85) dX12_drawn_44 ?_
          exact r_iret C0 hH (pj1 h) (pj2 h) dX12_drawn_46
  · replace h := if_t h c2
    refine lv_ldc hx hb hown (hts _ qK_X12_158) dX12_drawn_7 ?_
    exact r_iret C0 hH (pj1 h) (pj2 h) dX12_drawn_9
theorem c_X12_drawn {l : Launch} {E : EnvT} (hAd : Ad E) (k0 : Nat) (v1 : Int32) (v2 : Int32) (v3 : Int32) (hk0 : kd k0 = 12) (σ : Mem) {r : Int32} {σ' : Mem} (h : X12_drawn k0 v1 v2 v3 σ = some (r, σ')) : Met l yX12_drawn (wsM yX12_drawn cX12_drawn 10 (some .int)) (rmD 6) (PcM E [.ref (ea E k0), .int v1, .int v2, .int v3] σ) (QiM E r σ') 0 0 (eA E) :=
  Met.ofM (by decide) (Nat.le_of_ble_eq_true rfl) (fun p e s m below meth c ls C0 hH hl => w_X12_drawn_b0 C0 k0 v1 v2 v3 hk0 hH hl h) hAd
set_option maxRecDepth 100000 in
set_option maxHeartbeats 4000000 in
theorem w_X12_image_b25 {r : Int32} {σ' : Mem} (C0 : Cx E p m c cX12_image 3 s args RX12 meth (some .int)) (K25 : Nat → Int32 → Int32 → Mem → Option (Int32 × Mem)) (hK25 : ∀ (k0 : Nat) (v1 : Int32) (v2 : Int32) (hk0 : kd k0 = 12) (σ : Mem) (H : Heap) (locs : List Loc) (ls : Array Slot), Hs E s σ H locs → lv_has ls 3 [(0, .ref (ea E k0)), (1, .int v1), (2, .int v2)] → K25 k0 v1 v2 σ = some (r, σ') → W p l e (rmD 1) s m args below meth c H locs 0 0 (MQ below (QiM E r σ') args s 0 0 (eA E)) (F0 m 25 ls []))  (k0 : Nat) (v1 : Int32) (v2 : Int32) (hk0 : kd k0 = 12) {σ : Mem} {H : Heap} {locs : List Loc} {ls : Array Slot} (hH : Hs E s σ H locs) (hl : lv_has ls 3 [(0, .ref (ea E k0)), (1, .int v1), (2, .int v2)]) (h : X12_image_b25 K25 k0 v1 v2 σ = some (r, σ')) : W p l e (rmD 1) s m args below meth c H locs 0 0 (MQ below (QiM E r σ') args s 0 0 (eA E)) (F0 m 25 ls []) := by
  obtain ⟨⟨hx, hb, hml, hown, hts⟩, hr, hlocks, hF, hAd⟩ := id C0
  unfold X12_image_b25 at h
  refine lv_iload_n hx hb dX12_image_25 rfl (lv_at hl 2 rfl) ?_
  refine lv_bipush (v := 43) hx hb dX12_image_26 (by decide) ?_
  refine lv_icmp_ge (tgt := 54) hx hb dX12_image_28 (by decide) (fun c1 => ?_) (fun c1 => ?_)
  · replace h := if_t h c1
    refine lv_aload_n hx hb dX12_image_54 rfl (lv_at hl 0 rfl) ?_
    refine gf_X12_58 C0 hH hk0 dX12_image_55 ?_
    refine lv_iload_n hx hb dX12_image_58 rfl (lv_at hl 1 rfl) ?_
    refine lv_iconst (v := 1) hx hb dX12_image_59 (by decide) ?_
    obtain ⟨b2, h⟩ := gdx_s h
    refine r_zast C0 hH (kf_12_28 hk0) b2 rfl dX12_image_60 (fun H locs hH => ?_)
    refine lv_iconst (v := 1) hx hb dX12_image_61 (by decide) ?_
    exact r_iret C0 hH (pj1 h) (pj2 h) dX12_image_62
  · replace h := if_f h c1
    refine lv_aload_n hx hb dX12_image_31 rfl (lv_at hl 0 rfl) ?_
    refine gf_X12_62 C0 hH hk0 dX12_image_32 ?_
    refine lv_bipush (v := 43) hx hb dX12_image_35 (by decide) ?_
    refine lv_iload_n hx hb dX12_image_37 rfl (lv_at hl 1 rfl) ?_
    refine lv_imul hx hb dX12_image_38 ?_
    refine lv_iload_n hx hb dX12_image_39 rfl (lv_at hl 2 rfl) ?_
    refine lv_iadd hx hb dX12_image_40 ?_
    refine lv_aload_n hx hb dX12_image_41 rfl (lv_at hl 0 rfl) ?_
    refine gf_X12_19 C0 hH hk0 dX12_image_42 ?_
    refine lv_iload_n hx hb dX12_image_45 rfl (lv_at hl 2 rfl) ?_
    obtain ⟨b3, h⟩ := gdx_s h
    refine r_iald C0 hH (n := 43) (kf_12_4 hk0) b3 dX12_image_46 ?_
    obtain ⟨b4, h⟩ := gdx_s h
    refine r_iast C0 hH (n := 86) (kf_12_29 hk0) b4 dX12_image_47 (fun H locs hH => ?_)
    refine lv_iinc (v := v2 + 1) (lv' := [(2, .int (v2 + 1)), (0, .ref (ea E k0)), (1, .int v1)]) hx hb dX12_image_48 hl (k := 2) rfl rfl (by decide) rfl (fun ls hl => ?_)
    refine lv_goto (tgt := 25) hx hb dX12_image_51 (by decide) ?_
    exact hK25 k0 v1 (v2 + 1) hk0 _ _ _ _ hH (lv_sub hl [1, 2, 0] rfl) h
set_option maxRecDepth 100000 in
set_option maxHeartbeats 4000000 in
theorem w_X12_image_l25 {r : Int32} {σ' : Mem} (C0 : Cx E p m c cX12_image 3 s args RX12 meth (some .int))  (n : Nat) : ∀ (k0 : Nat) (v1 : Int32) (v2 : Int32) (hk0 : kd k0 = 12) (σ : Mem) (H : Heap) (locs : List Loc) (ls : Array Slot), Hs E s σ H locs → lv_has ls 3 [(0, .ref (ea E k0)), (1, .int v1), (2, .int v2)] → X12_image_l25 n k0 v1 v2 σ = some (r, σ') → W p l e (rmD 1) s m args below meth c H locs 0 0 (MQ below (QiM E r σ') args s 0 0 (eA E)) (F0 m 25 ls []) := by
  induction n with
  | zero =>
    intro k0 v1 v2 hk0 σ H locs ls hH hl h
    cases h
  | succ n ih =>
    intro k0 v1 v2 hk0 σ H locs ls hH hl h
    exact w_X12_image_b25 C0 (X12_image_l25 n)  ih k0 v1 v2 hk0 hH hl h
set_option maxRecDepth 100000 in
set_option maxHeartbeats 4000000 in
theorem w_X12_image_b0 {r : Int32} {σ' : Mem} (C0 : Cx E p m c cX12_image 3 s args RX12 meth (some .int))  (k0 : Nat) (v1 : Int32) (hk0 : kd k0 = 12) {σ : Mem} {H : Heap} {locs : List Loc} {ls : Array Slot} (hH : Hs E s σ H locs) (hl : lv_has ls 3 [(0, .ref (ea E k0)), (1, .int v1)]) (h : X12_image_b0 k0 v1 σ = some (r, σ')) : W p l e (rmD 1) s m args below meth c H locs 0 0 (MQ below (QiM E r σ') args s 0 0 (eA E)) (F0 m 0 ls []) := by
  obtain ⟨⟨hx, hb, hml, hown, hts⟩, hr, hlocks, hF, hAd⟩ := id C0
  unfold X12_image_b0 at h
  refine lv_iload_n hx hb dX12_image_0 rfl (lv_at hl 1 rfl) ?_
  refine lv_i2l (v := Int32.toInt64 v1) hx hb dX12_image_1 rfl ?_
  refine lv_lconst (v := 0) hx hb dX12_image_2 (by decide) ?_
  refine lv_lconst (v := 1) hx hb dX12_image_3 (by decide) ?_
  refine go_i hH (va_run_S (As := [.long (Int32.toInt64 v1), .long 0, .long 1]) (rest := []) C0 hH lk_X12_75 (c_X12_in hAd (Int32.toInt64 v1) 0 1  σ rfl) (by decide) rfl hl.1 rfl (Nat.le_of_ble_eq_true rfl) dX12_image_4) (fun H locs hH => ?_)
  refine lv_if_ne (tgt := 13) hx hb dX12_image_7 (by decide) (fun c1 => ?_) (fun c1 => ?_)
  · replace h := if_f h c1
    refine lv_aload_n hx hb dX12_image_13 rfl (lv_at hl 0 rfl) ?_
    obtain ⟨r2, qr2, h⟩ := ob_s h
    refine go_i hH (va_run_V (As := []) (rest := []) C0 hH lk_X12_159 (c_X12_isThere hAd k0 hk0 σ qr2) (by decide) (ci := 12) hk0 (by decide) (cob_12 _ _ _) rfl rfl hl.1 rfl (Nat.le_of_ble_eq_true rfl) dX12_image_14) (fun H locs hH => ?_)
    refine lv_if_ne (tgt := 23) hx hb dX12_image_17 (by decide) (fun c3 => ?_) (fun c3 => ?_)
    · replace h := if_f h c3
      refine lv_iconst (v := 0) hx hb dX12_image_23 (by decide) ?_
      refine lv_istore_n (lv' := [(2, .int 0), (0, .ref (ea E k0)), (1, .int v1)]) hx hb dX12_image_24 rfl hl (by decide) rfl (fun ls hl => ?_)
      exact w_X12_image_l25 C0  FU k0 v1 0 hk0 _ _ _ _ hH (lv_sub hl [1, 2, 0] rfl) h
    · replace h := if_t h c3
      refine lv_ldc hx hb hown (hts _ qK_X12_158) dX12_image_20 ?_
      exact r_iret C0 hH (pj1 h) (pj2 h) dX12_image_22
  · replace h := if_t h c1
    refine lv_ldc hx hb hown (hts _ qK_X12_85) dX12_image_10 ?_
    exact r_iret C0 hH (pj1 h) (pj2 h) dX12_image_12
theorem c_X12_image {l : Launch} {E : EnvT} (hAd : Ad E) (k0 : Nat) (v1 : Int32) (hk0 : kd k0 = 12) (σ : Mem) {r : Int32} {σ' : Mem} (h : X12_image k0 v1 σ = some (r, σ')) : Met l yX12_image (wsM yX12_image cX12_image 3 (some .int)) (rmD 1) (PcM E [.ref (ea E k0), .int v1] σ) (QiM E r σ') 0 0 (eA E) :=
  Met.ofM (by decide) (Nat.le_of_ble_eq_true rfl) (fun p e s m below meth c ls C0 hH hl => w_X12_image_b0 C0 k0 v1 hk0 hH hl h) hAd
set_option maxRecDepth 100000 in
set_option maxHeartbeats 4000000 in
theorem w_X12_restore_b27 {r : Int32} {σ' : Mem} (C0 : Cx E p m c cX12_restore 3 s args RX12 meth (some .int)) (K27 : Nat → Int32 → Int32 → Mem → Option (Int32 × Mem)) (hK27 : ∀ (k0 : Nat) (v1 : Int32) (v2 : Int32) (hk0 : kd k0 = 12) (σ : Mem) (H : Heap) (locs : List Loc) (ls : Array Slot), Hs E s σ H locs → lv_has ls 3 [(0, .ref (ea E k0)), (1, .int v1), (2, .int v2)] → K27 k0 v1 v2 σ = some (r, σ') → W p l e (rmD 1) s m args below meth c H locs 0 0 (MQ below (QiM E r σ') args s 0 0 (eA E)) (F0 m 27 ls []))  (k0 : Nat) (v1 : Int32) (v2 : Int32) (hk0 : kd k0 = 12) {σ : Mem} {H : Heap} {locs : List Loc} {ls : Array Slot} (hH : Hs E s σ H locs) (hl : lv_has ls 3 [(0, .ref (ea E k0)), (1, .int v1), (2, .int v2)]) (h : X12_restore_b27 K27 k0 v1 v2 σ = some (r, σ')) : W p l e (rmD 1) s m args below meth c H locs 0 0 (MQ below (QiM E r σ') args s 0 0 (eA E)) (F0 m 27 ls []) := by
  obtain ⟨⟨hx, hb, hml, hown, hts⟩, hr, hlocks, hF, hAd⟩ := id C0
  unfold X12_restore_b27 at h
  refine lv_iload_n hx hb dX12_restore_27 rfl (lv_at hl 2 rfl) ?_
  refine lv_bipush (v := 43) hx hb dX12_restore_28 (by decide) ?_
  refine lv_icmp_ge (tgt := 56) hx hb dX12_restore_30 (by decide) (fun c1 => ?_) (fun c1 => ?_)
  · replace h := if_t h c1
    refine lv_aload_n hx hb dX12_restore_56 rfl (lv_at hl 0 rfl) ?_
    refine lv_iconst (v := 0) hx hb dX12_restore_57 (by decide) ?_
    refine pf_X12_155 C0 hH hk0 dX12_restore_58 (fun H locs hH => ?_)
    refine lv_iconst (v := 1) hx hb dX12_restore_61 (by decide) ?_
    exact r_iret C0 hH (pj1 h) (pj2 h) dX12_restore_62
  · replace h := if_f h c1
    refine lv_aload_n hx hb dX12_restore_33 rfl (lv_at hl 0 rfl) ?_
    refine gf_X12_19 C0 hH hk0 dX12_restore_34 ?_
    refine lv_iload_n hx hb dX12_restore_37 rfl (lv_at hl 2 rfl) ?_
    refine lv_aload_n hx hb dX12_restore_38 rfl (lv_at hl 0 rfl) ?_
    refine gf_X12_62 C0 hH hk0 dX12_restore_39 ?_
    refine lv_bipush (v := 43) hx hb dX12_restore_42 (by decide) ?_
    refine lv_iload_n hx hb dX12_restore_44 rfl (lv_at hl 1 rfl) ?_
    refine lv_imul hx hb dX12_restore_45 ?_
    refine lv_iload_n hx hb dX12_restore_46 rfl (lv_at hl 2 rfl) ?_
    refine lv_iadd hx hb dX12_restore_47 ?_
    obtain ⟨b2, h⟩ := gdx_s h
    refine r_iald C0 hH (n := 86) (kf_12_29 hk0) b2 dX12_restore_48 ?_
    obtain ⟨b3, h⟩ := gdx_s h
    refine r_iast C0 hH (n := 43) (kf_12_4 hk0) b3 dX12_restore_49 (fun H locs hH => ?_)
    refine lv_iinc (v := v2 + 1) (lv' := [(2, .int (v2 + 1)), (0, .ref (ea E k0)), (1, .int v1)]) hx hb dX12_restore_50 hl (k := 2) rfl rfl (by decide) rfl (fun ls hl => ?_)
    refine lv_goto (tgt := 27) hx hb dX12_restore_53 (by decide) ?_
    exact hK27 k0 v1 (v2 + 1) hk0 _ _ _ _ hH (lv_sub hl [1, 2, 0] rfl) h
set_option maxRecDepth 100000 in
set_option maxHeartbeats 4000000 in
theorem w_X12_restore_l27 {r : Int32} {σ' : Mem} (C0 : Cx E p m c cX12_restore 3 s args RX12 meth (some .int))  (n : Nat) : ∀ (k0 : Nat) (v1 : Int32) (v2 : Int32) (hk0 : kd k0 = 12) (σ : Mem) (H : Heap) (locs : List Loc) (ls : Array Slot), Hs E s σ H locs → lv_has ls 3 [(0, .ref (ea E k0)), (1, .int v1), (2, .int v2)] → X12_restore_l27 n k0 v1 v2 σ = some (r, σ') → W p l e (rmD 1) s m args below meth c H locs 0 0 (MQ below (QiM E r σ') args s 0 0 (eA E)) (F0 m 27 ls []) := by
  induction n with
  | zero =>
    intro k0 v1 v2 hk0 σ H locs ls hH hl h
    cases h
  | succ n ih =>
    intro k0 v1 v2 hk0 σ H locs ls hH hl h
    exact w_X12_restore_b27 C0 (X12_restore_l27 n)  ih k0 v1 v2 hk0 hH hl h
set_option maxRecDepth 100000 in
set_option maxHeartbeats 4000000 in
theorem w_X12_restore_b0 {r : Int32} {σ' : Mem} (C0 : Cx E p m c cX12_restore 3 s args RX12 meth (some .int))  (k0 : Nat) (v1 : Int32) (hk0 : kd k0 = 12) {σ : Mem} {H : Heap} {locs : List Loc} {ls : Array Slot} (hH : Hs E s σ H locs) (hl : lv_has ls 3 [(0, .ref (ea E k0)), (1, .int v1)]) (h : X12_restore_b0 k0 v1 σ = some (r, σ')) : W p l e (rmD 1) s m args below meth c H locs 0 0 (MQ below (QiM E r σ') args s 0 0 (eA E)) (F0 m 0 ls []) := by
  obtain ⟨⟨hx, hb, hml, hown, hts⟩, hr, hlocks, hF, hAd⟩ := id C0
  unfold X12_restore_b0 at h
  refine lv_iload_n hx hb dX12_restore_0 rfl (lv_at hl 1 rfl) ?_
  refine lv_i2l (v := Int32.toInt64 v1) hx hb dX12_restore_1 rfl ?_
  refine lv_lconst (v := 0) hx hb dX12_restore_2 (by decide) ?_
  refine lv_lconst (v := 1) hx hb dX12_restore_3 (by decide) ?_
  refine go_i hH (va_run_S (As := [.long (Int32.toInt64 v1), .long 0, .long 1]) (rest := []) C0 hH lk_X12_75 (c_X12_in hAd (Int32.toInt64 v1) 0 1  σ rfl) (by decide) rfl hl.1 rfl (Nat.le_of_ble_eq_true rfl) dX12_restore_4) (fun H locs hH => ?_)
  refine lv_if_ne (tgt := 13) hx hb dX12_restore_7 (by decide) (fun c1 => ?_) (fun c1 => ?_)
  · replace h := if_f h c1
    refine lv_aload_n hx hb dX12_restore_13 rfl (lv_at hl 0 rfl) ?_
    refine gf_X12_58 C0 hH hk0 dX12_restore_14 ?_
    refine lv_iload_n hx hb dX12_restore_17 rfl (lv_at hl 1 rfl) ?_
    obtain ⟨b2, h⟩ := gdx_s h
    refine r_zald C0 hH (kf_12_28 hk0) b2 dX12_restore_18 ?_
    refine lv_if_ne (tgt := 25) hx hb dX12_restore_19 (by decide) (fun c3 => ?_) (fun c3 => ?_)
    · replace h := if_f h c3
      refine lv_iconst (v := 0) hx hb dX12_restore_25 (by decide) ?_
      refine lv_istore_n (lv' := [(2, .int 0), (0, .ref (ea E k0)), (1, .int v1)]) hx hb dX12_restore_26 rfl hl (by decide) rfl (fun ls hl => ?_)
      exact w_X12_restore_l27 C0  FU k0 v1 0 hk0 _ _ _ _ hH (lv_sub hl [1, 2, 0] rfl) h
    · replace h := if_t h c3
      refine lv_ldc hx hb hown (hts _ qK_X12_158) dX12_restore_22 ?_
      exact r_iret C0 hH (pj1 h) (pj2 h) dX12_restore_24
  · replace h := if_t h c1
    refine lv_ldc hx hb hown (hts _ qK_X12_85) dX12_restore_10 ?_
    exact r_iret C0 hH (pj1 h) (pj2 h) dX12_restore_12
theorem c_X12_restore {l : Launch} {E : EnvT} (hAd : Ad E) (k0 : Nat) (v1 : Int32) (hk0 : kd k0 = 12) (σ : Mem) {r : Int32} {σ' : Mem} (h : X12_restore k0 v1 σ = some (r, σ')) : Met l yX12_restore (wsM yX12_restore cX12_restore 3 (some .int)) (rmD 1) (PcM E [.ref (ea E k0), .int v1] σ) (QiM E r σ') 0 0 (eA E) :=
  Met.ofM (by decide) (Nat.le_of_ble_eq_true rfl) (fun p e s m below meth c ls C0 hH hl => w_X12_restore_b0 C0 k0 v1 hk0 hH hl h) hAd
set_option maxRecDepth 100000 in
set_option maxHeartbeats 4000000 in
theorem w_X12_isOf_b29 {r : Int32} (C0 : Cx E p m c cX12_isOf 2 s args RX12 meth (some .boolean))    {σ : Mem} {H : Heap} {locs : List Loc} {ls : Array Slot} (hH : Hs E s σ H locs) (hl : lv_has ls 2 []) (h : X12_isOf_b29  = r) : W p l e (rmD 0) s m args below meth c H locs 0 0 (MQ below (QiM E r σ) args s 0 0 (eA E)) (F0 m 29 ls []) := by
  obtain ⟨⟨hx, hb, hml, hown, hts⟩, hr, hlocks, hF, hAd⟩ := id C0
  unfold X12_isOf_b29 at h
  refine lv_iconst (v := 1) hx hb dX12_isOf_29 (by decide) ?_
  refine lv_goto (tgt := 34) hx hb dX12_isOf_30 (by decide) ?_
  exact r_zret C0 rfl hH h rfl dX12_isOf_34
set_option maxRecDepth 100000 in
set_option maxHeartbeats 4000000 in
theorem w_X12_isOf_b19 {r : Int32} (C0 : Cx E p m c cX12_isOf 2 s args RX12 meth (some .boolean))  (v0 : Int32) (v1 : Int32)  {σ : Mem} {H : Heap} {locs : List Loc} {ls : Array Slot} (hH : Hs E s σ H locs) (hl : lv_has ls 2 [(0, .int v0), (1, .int v1)]) (h : X12_isOf_b19 v0 v1 = r) : W p l e (rmD 0) s m args below meth c H locs 0 0 (MQ below (QiM E r σ) args s 0 0 (eA E)) (F0 m 19 ls []) := by
  obtain ⟨⟨hx, hb, hml, hown, hts⟩, hr, hlocks, hF, hAd⟩ := id C0
  unfold X12_isOf_b19 at h
  refine lv_iload_n hx hb dX12_isOf_19 rfl (lv_at hl 1 rfl) ?_
  refine lv_iconst (v := 4) hx hb dX12_isOf_20 (by decide) ?_
  refine lv_icmp_ne (tgt := 33) hx hb dX12_isOf_21 (by decide) (fun c1 => ?_) (fun c1 => ?_)
  · replace h := if_f h c1
    refine lv_iconst (v := 0) hx hb dX12_isOf_33 (by decide) ?_
    exact r_zret C0 rfl hH h rfl dX12_isOf_34
  · replace h := if_t h c1
    refine lv_iload_n hx hb dX12_isOf_24 rfl (lv_at hl 0 rfl) ?_
    refine lv_iconst (v := 5) hx hb dX12_isOf_25 (by decide) ?_
    refine lv_icmp_ne (tgt := 33) hx hb dX12_isOf_26 (by decide) (fun c2 => ?_) (fun c2 => ?_)
    · replace h := if_f h c2
      refine lv_iconst (v := 0) hx hb dX12_isOf_33 (by decide) ?_
      exact r_zret C0 rfl hH h rfl dX12_isOf_34
    · replace h := if_t h c2
      exact w_X12_isOf_b29 C0    hH (lv_sub hl [] rfl) h
set_option maxRecDepth 100000 in
set_option maxHeartbeats 4000000 in
theorem w_X12_isOf_b0 {r : Int32} (C0 : Cx E p m c cX12_isOf 2 s args RX12 meth (some .boolean))  (v0 : Int32) (v1 : Int32)  {σ : Mem} {H : Heap} {locs : List Loc} {ls : Array Slot} (hH : Hs E s σ H locs) (hl : lv_has ls 2 [(0, .int v0), (1, .int v1)]) (h : X12_isOf_b0 v0 v1 = r) : W p l e (rmD 0) s m args below meth c H locs 0 0 (MQ below (QiM E r σ) args s 0 0 (eA E)) (F0 m 0 ls []) := by
  obtain ⟨⟨hx, hb, hml, hown, hts⟩, hr, hlocks, hF, hAd⟩ := id C0
  unfold X12_isOf_b0 at h
  refine lv_iload_n hx hb dX12_isOf_0 rfl (lv_at hl 1 rfl) ?_
  refine lv_if_eq (tgt := 29) hx hb dX12_isOf_1 (by decide) (fun c1 => ?_) (fun c1 => ?_)
  · replace h := if_t h c1
    exact w_X12_isOf_b29 C0    hH (lv_sub hl [] rfl) h
  · replace h := if_f h c1
    refine lv_iload_n hx hb dX12_isOf_4 rfl (lv_at hl 0 rfl) ?_
    refine lv_iload_n hx hb dX12_isOf_5 rfl (lv_at hl 1 rfl) ?_
    refine lv_icmp_eq (tgt := 29) hx hb dX12_isOf_6 (by decide) (fun c2 => ?_) (fun c2 => ?_)
    · replace h := if_t h c2
      exact w_X12_isOf_b29 C0    hH (lv_sub hl [] rfl) h
    · replace h := if_f h c2
      refine lv_iload_n hx hb dX12_isOf_9 rfl (lv_at hl 1 rfl) ?_
      refine lv_iconst (v := 1) hx hb dX12_isOf_10 (by decide) ?_
      refine lv_icmp_ne (tgt := 19) hx hb dX12_isOf_11 (by decide) (fun c3 => ?_) (fun c3 => ?_)
      · replace h := if_f h c3
        exact w_X12_isOf_b19 C0  v0 v1  hH (lv_sub hl [0, 1] rfl) h
      · replace h := if_t h c3
        refine lv_iload_n hx hb dX12_isOf_14 rfl (lv_at hl 0 rfl) ?_
        refine lv_iconst (v := 4) hx hb dX12_isOf_15 (by decide) ?_
        refine lv_icmp_lt (tgt := 29) hx hb dX12_isOf_16 (by decide) (fun c4 => ?_) (fun c4 => ?_)
        · replace h := if_t h c4
          exact w_X12_isOf_b29 C0    hH (lv_sub hl [] rfl) h
        · replace h := if_f h c4
          exact w_X12_isOf_b19 C0  v0 v1  hH (lv_sub hl [0, 1] rfl) h
theorem c_X12_isOf {l : Launch} {E : EnvT} (hAd : Ad E) (v0 : Int32) (v1 : Int32)  (σ : Mem) {r : Int32} (h : X12_isOf v0 v1 = r) : Met l yX12_isOf (wsM yX12_isOf cX12_isOf 2 (some .boolean)) (rmD 0) (PcM E [.int v0, .int v1] σ) (QiM E r σ) 0 0 (eA E) :=
  Met.ofM (by decide) (Nat.le_of_ble_eq_true rfl) (fun p e s m below meth c ls C0 hH hl => w_X12_isOf_b0 C0 v0 v1  hH hl h) hAd
set_option maxRecDepth 100000 in
set_option maxHeartbeats 4000000 in
theorem w_X12_kind_b0 {r : Int32} (C0 : Cx E p m c cX12_kind 2 s args RX12 meth (some .int))  (k0 : Nat) (v1 : Int32) (hk0 : kd k0 = 12) {σ : Mem} {H : Heap} {locs : List Loc} {ls : Array Slot} (hH : Hs E s σ H locs) (hl : lv_has ls 2 [(0, .ref (ea E k0)), (1, .int v1)]) (h : X12_kind_b0 k0 v1 σ = some r) : W p l e (rmD 2) s m args below meth c H locs 0 0 (MQ below (QiM E r σ) args s 0 0 (eA E)) (F0 m 0 ls []) := by
  obtain ⟨⟨hx, hb, hml, hown, hts⟩, hr, hlocks, hF, hAd⟩ := id C0
  unfold X12_kind_b0 at h
  refine lv_aload_n hx hb dX12_kind_0 rfl (lv_at hl 0 rfl) ?_
  refine lv_iload_n hx hb dX12_kind_1 rfl (lv_at hl 1 rfl) ?_
  obtain ⟨r1, qr1, h⟩ := ob_s h
  refine go_i hH (va_run_V (As := [.int v1]) (rest := []) C0 hH lk_X12_178 (c_X12_isPage hAd k0 v1 hk0 σ qr1) (by decide) (ci := 12) hk0 (by decide) (cob_12 _ _ _) rfl rfl hl.1 rfl (Nat.le_of_ble_eq_true rfl) dX12_kind_2) (fun H locs hH => ?_)
  refine lv_if_eq (tgt := 19) hx hb dX12_kind_5 (by decide) (fun c2 => ?_) (fun c2 => ?_)
  · replace h := if_t h c2
    refine lv_ldc hx hb hown (hts _ qK_X12_85) dX12_kind_19 ?_
    exact r_iret C0 hH (Option.some.inj h) rfl dX12_kind_21
  · replace h := if_f h c2
    refine lv_aload_n hx hb dX12_kind_8 rfl (lv_at hl 0 rfl) ?_
    refine gf_X12_19 C0 hH hk0 dX12_kind_9 ?_
    refine lv_iload_n hx hb dX12_kind_12 rfl (lv_at hl 1 rfl) ?_
    obtain ⟨r3, qr3, h⟩ := ob_s h
    refine go_i hH (va_run_S (As := [.ref (ea E (k0 + 4)), .int v1]) (rest := []) C0 hH lk_X12_184 (c_X12_kindOf hAd (k0 + 4) v1 (kf_12_4 hk0) σ qr3) (by decide) rfl hl.1 rfl (Nat.le_of_ble_eq_true rfl) dX12_kind_13) (fun H locs hH => ?_)
    refine lv_goto (tgt := 21) hx hb dX12_kind_16 (by decide) ?_
    exact r_iret C0 hH (Option.some.inj h) rfl dX12_kind_21
theorem c_X12_kind {l : Launch} {E : EnvT} (hAd : Ad E) (k0 : Nat) (v1 : Int32) (hk0 : kd k0 = 12) (σ : Mem) {r : Int32} (h : X12_kind k0 v1 σ = some r) : Met l yX12_kind (wsM yX12_kind cX12_kind 2 (some .int)) (rmD 2) (PcM E [.ref (ea E k0), .int v1] σ) (QiM E r σ) 0 0 (eA E) :=
  Met.ofM (by decide) (Nat.le_of_ble_eq_true rfl) (fun p e s m below meth c ls C0 hH hl => w_X12_kind_b0 C0 k0 v1 hk0 hH hl h) hAd
set_option maxRecDepth 100000 in
set_option maxHeartbeats 4000000 in
theorem w_X12_as_b0 {r : Int32} {σ' : Mem} (C0 : Cx E p m c cX12_as 3 s args RX12 meth (some .int))  (k0 : Nat) (v1 : Int32) (v2 : Int32) (hk0 : kd k0 = 12) {σ : Mem} {H : Heap} {locs : List Loc} {ls : Array Slot} (hH : Hs E s σ H locs) (hl : lv_has ls 3 [(0, .ref (ea E k0)), (1, .int v1), (2, .int v2)]) (h : X12_as_b0 k0 v1 v2 σ = some (r, σ')) : W p l e (rmD 2) s m args below meth c H locs 0 0 (MQ below (QiM E r σ') args s 0 0 (eA E)) (F0 m 0 ls []) := by
  obtain ⟨⟨hx, hb, hml, hown, hts⟩, hr, hlocks, hF, hAd⟩ := id C0
  unfold X12_as_b0 at h
  refine lv_aload_n hx hb dX12_as_0 rfl (lv_at hl 0 rfl) ?_
  refine lv_iload_n hx hb dX12_as_1 rfl (lv_at hl 1 rfl) ?_
  obtain ⟨r1, qr1, h⟩ := ob_s h
  refine go_i hH (va_run_V (As := [.int v1]) (rest := []) C0 hH lk_X12_178 (c_X12_isPage hAd k0 v1 hk0 σ qr1) (by decide) (ci := 12) hk0 (by decide) (cob_12 _ _ _) rfl rfl hl.1 rfl (Nat.le_of_ble_eq_true rfl) dX12_as_2) (fun H locs hH => ?_)
  refine lv_if_eq (tgt := 20) hx hb dX12_as_5 (by decide) (fun c2 => ?_) (fun c2 => ?_)
  · replace h := if_t h c2
    refine lv_ldc hx hb hown (hts _ qK_X12_85) dX12_as_20 ?_
    exact r_iret C0 hH (pj1 h) (pj2 h) dX12_as_22
  · replace h := if_f h c2
    refine lv_iload_n hx hb dX12_as_8 rfl (lv_at hl 2 rfl) ?_
    refine lv_i2l (v := Int32.toInt64 v2) hx hb dX12_as_9 rfl ?_
    refine lv_lconst (v := 0) hx hb dX12_as_10 (by decide) ?_
    refine lv_ldc2 hx hb hown (hts _ qL_X12_163) dX12_as_11 ?_
    refine go_i hH (va_run_S (As := [.long (Int32.toInt64 v2), .long 0, .long 5]) (rest := []) C0 hH lk_X12_75 (c_X12_in hAd (Int32.toInt64 v2) 0 5  σ rfl) (by decide) rfl hl.1 rfl (Nat.le_of_ble_eq_true rfl) dX12_as_14) (fun H locs hH => ?_)
    refine lv_if_ne (tgt := 23) hx hb dX12_as_17 (by decide) (fun c3 => ?_) (fun c3 => ?_)
    · replace h := if_f h c3
      refine lv_aload_n hx hb dX12_as_23 rfl (lv_at hl 0 rfl) ?_
      refine lv_iconst (v := 0) hx hb dX12_as_24 (by decide) ?_
      refine pf_X12_68 C0 hH hk0 dX12_as_25 (fun H locs hH => ?_)
      refine lv_aload_n hx hb dX12_as_28 rfl (lv_at hl 0 rfl) ?_
      refine gf_X12_19 C0 hH hk0 dX12_as_29 ?_
      refine lv_iload_n hx hb dX12_as_32 rfl (lv_at hl 1 rfl) ?_
      obtain ⟨r4, qr4, h⟩ := ob_s h
      refine go_i hH (va_run_S (As := [.ref (ea E (k0 + 4)), .int v1]) (rest := []) C0 hH lk_X12_184 (c_X12_kindOf hAd (k0 + 4) v1 (kf_12_4 hk0) (wr σ k0 0 0) qr4) (by decide) rfl hl.1 rfl (Nat.le_of_ble_eq_true rfl) dX12_as_33) (fun H locs hH => ?_)
      refine lv_iload_n hx hb dX12_as_36 rfl (lv_at hl 2 rfl) ?_
      refine go_i hH (va_run_S (As := [.int r4, .int v2]) (rest := []) C0 hH lk_X12_342 (c_X12_isOf hAd r4 v2  (wr σ k0 0 0) rfl) (by decide) rfl hl.1 rfl (Nat.le_of_ble_eq_true rfl) dX12_as_37) (fun H locs hH => ?_)
      refine lv_if_eq (tgt := 47) hx hb dX12_as_40 (by decide) (fun c5 => ?_) (fun c5 => ?_)
      · replace h := if_t h c5
        refine lv_aload_n hx hb dX12_as_47 rfl (lv_at hl 0 rfl) ?_
        refine lv_iconst (v := 3) hx hb dX12_as_48 (by decide) ?_
        obtain ⟨r6, σ7, qr6, h⟩ := ob2_s h
        refine go_i hH (va_run_V (As := [.int 3]) (rest := []) C0 hH lk_X12_86 (c_X12_finding hAd k0 3 hk0 (wr σ k0 0 0) qr6) (by decide) (ci := 12) hk0 (by decide) (cob_12 _ _ _) rfl rfl hl.1 rfl (Nat.le_of_ble_eq_true rfl) dX12_as_49) (fun H locs hH => ?_)
        exact r_iret C0 hH (pj1 h) (pj2 h) dX12_as_52
      · replace h := if_f h c5
        refine lv_iload_n hx hb dX12_as_43 rfl (lv_at hl 1 rfl) ?_
        refine lv_goto (tgt := 52) hx hb dX12_as_44 (by decide) ?_
        exact r_iret C0 hH (pj1 h) (pj2 h) dX12_as_52
    · replace h := if_t h c3
      refine lv_ldc hx hb hown (hts _ qK_X12_85) dX12_as_20 ?_
      exact r_iret C0 hH (pj1 h) (pj2 h) dX12_as_22
theorem c_X12_as {l : Launch} {E : EnvT} (hAd : Ad E) (k0 : Nat) (v1 : Int32) (v2 : Int32) (hk0 : kd k0 = 12) (σ : Mem) {r : Int32} {σ' : Mem} (h : X12_as k0 v1 v2 σ = some (r, σ')) : Met l yX12_as (wsM yX12_as cX12_as 3 (some .int)) (rmD 2) (PcM E [.ref (ea E k0), .int v1, .int v2] σ) (QiM E r σ') 0 0 (eA E) :=
  Met.ofM (by decide) (Nat.le_of_ble_eq_true rfl) (fun p e s m below meth c ls C0 hH hl => w_X12_as_b0 C0 k0 v1 v2 hk0 hH hl h) hAd
set_option maxRecDepth 100000 in
set_option maxHeartbeats 4000000 in
theorem w_X12_began_b0 {σ' : Mem} (C0 : Cx E p m c cX12_began 2 s args RX12 meth (none))  (k0 : Nat) (v1 : Int32) (hk0 : kd k0 = 12) {σ : Mem} {H : Heap} {locs : List Loc} {ls : Array Slot} (hH : Hs E s σ H locs) (hl : lv_has ls 2 [(0, .ref (ea E k0)), (1, .int v1)]) (h : X12_began_b0 k0 v1 σ = some σ') : W p l e (rmD 0) s m args below meth c H locs 0 0 (MQ below (QvM E σ') args s 0 0 (eA E)) (F0 m 0 ls []) := by
  obtain ⟨⟨hx, hb, hml, hown, hts⟩, hr, hlocks, hF, hAd⟩ := id C0
  unfold X12_began_b0 at h
  refine lv_aload_n hx hb dX12_began_0 rfl (lv_at hl 0 rfl) ?_
  refine gf_X12_345 C0 hH hk0 dX12_began_1 ?_
  refine lv_bipush (v := 16) hx hb dX12_began_4 (by decide) ?_
  refine lv_icmp_ge (tgt := 29) hx hb dX12_began_6 (by decide) (fun c1 => ?_) (fun c1 => ?_)
  · replace h := if_t h c1
    exact r_vret C0 hH (Option.some.inj h) dX12_began_29
  · replace h := if_f h c1
    refine lv_aload_n hx hb dX12_began_9 rfl (lv_at hl 0 rfl) ?_
    refine gf_X12_65 C0 hH hk0 dX12_began_10 ?_
    refine lv_aload_n hx hb dX12_began_13 rfl (lv_at hl 0 rfl) ?_
    refine gf_X12_345 C0 hH hk0 dX12_began_14 ?_
    refine lv_iload_n hx hb dX12_began_17 rfl (lv_at hl 1 rfl) ?_
    obtain ⟨b2, h⟩ := gdx_s h
    refine r_iast C0 hH (n := 16) (kf_12_30 hk0) b2 dX12_began_18 (fun H locs hH => ?_)
    refine lv_aload_n hx hb dX12_began_19 rfl (lv_at hl 0 rfl) ?_
    refine lv_dup hx hb dX12_began_20 rfl ?_
    obtain ⟨σ3, eσ3, h⟩ := letv_s h
    replace hH := hs_of eσ3 hH
    refine gf_X12_345 C0 hH hk0 dX12_began_21 ?_
    refine lv_iconst (v := 1) hx hb dX12_began_24 (by decide) ?_
    refine lv_iadd hx hb dX12_began_25 ?_
    refine pf_X12_345 C0 hH hk0 dX12_began_26 (fun H locs hH => ?_)
    exact r_vret C0 hH (Option.some.inj h) dX12_began_29
theorem c_X12_began {l : Launch} {E : EnvT} (hAd : Ad E) (k0 : Nat) (v1 : Int32) (hk0 : kd k0 = 12) (σ : Mem) {σ' : Mem} (h : X12_began k0 v1 σ = some σ') : Met l yX12_began (wsM yX12_began cX12_began 2 (none)) (rmD 0) (PcM E [.ref (ea E k0), .int v1] σ) (QvM E σ') 0 0 (eA E) :=
  Met.ofM (by decide) (Nat.le_of_ble_eq_true rfl) (fun p e s m below meth c ls C0 hH hl => w_X12_began_b0 C0 k0 v1 hk0 hH hl h) hAd
set_option maxRecDepth 100000 in
set_option maxHeartbeats 4000000 in
theorem w_X12_lentSize_b0 {r : Int32} {σ' : Mem} (C0 : Cx E p m c cX12_lentSize 2 s args RX12 meth (some .int))  (k0 : Nat) (v1 : Int32) (hk0 : kd k0 = 12) {σ : Mem} {H : Heap} {locs : List Loc} {ls : Array Slot} (hH : Hs E s σ H locs) (hl : lv_has ls 2 [(0, .ref (ea E k0)), (1, .int v1)]) (h : X12_lentSize_b0 k0 v1 σ = some (r, σ')) : W p l e (rmD 1) s m args below meth c H locs 0 0 (MQ below (QiM E r σ') args s 0 0 (eA E)) (F0 m 0 ls []) := by
  obtain ⟨⟨hx, hb, hml, hown, hts⟩, hr, hlocks, hF, hAd⟩ := id C0
  unfold X12_lentSize_b0 at h
  refine lv_aload_n hx hb dX12_lentSize_0 rfl (lv_at hl 0 rfl) ?_
  refine lv_bipush (v := 10) hx hb dX12_lentSize_1 (by decide) ?_
  obtain ⟨σ1, qσ1, h⟩ := ob_s h
  refine go_v hH (va_run_V (As := [.int 10]) (rest := []) C0 hH lk_X12_348 (c_X12_began hAd k0 10 hk0 σ qσ1) (by decide) (ci := 12) hk0 (by decide) (cob_12 _ _ _) rfl rfl hl.1 rfl (Nat.le_of_ble_eq_true rfl) dX12_lentSize_3) (fun H locs hH => ?_)
  refine lv_aload_n hx hb dX12_lentSize_6 rfl (lv_at hl 0 rfl) ?_
  refine gf_X12_19 C0 hH hk0 dX12_lentSize_7 ?_
  refine lv_iconst (v := 3) hx hb dX12_lentSize_10 (by decide) ?_
  refine lv_iconst (v := 4) hx hb dX12_lentSize_11 (by decide) ?_
  refine lv_iload_n hx hb dX12_lentSize_12 rfl (lv_at hl 1 rfl) ?_
  refine lv_imul hx hb dX12_lentSize_13 ?_
  refine lv_iadd hx hb dX12_lentSize_14 ?_
  refine lv_iconst (v := 1) hx hb dX12_lentSize_15 (by decide) ?_
  refine lv_iadd hx hb dX12_lentSize_16 ?_
  obtain ⟨b2, h⟩ := gdx_s h
  refine r_iald C0 hH (n := 43) (kf_12_4 hk0) b2 dX12_lentSize_17 ?_
  exact r_iret C0 hH (pj1 h) (pj2 h) dX12_lentSize_18
theorem c_X12_lentSize {l : Launch} {E : EnvT} (hAd : Ad E) (k0 : Nat) (v1 : Int32) (hk0 : kd k0 = 12) (σ : Mem) {r : Int32} {σ' : Mem} (h : X12_lentSize k0 v1 σ = some (r, σ')) : Met l yX12_lentSize (wsM yX12_lentSize cX12_lentSize 2 (some .int)) (rmD 1) (PcM E [.ref (ea E k0), .int v1] σ) (QiM E r σ') 0 0 (eA E) :=
  Met.ofM (by decide) (Nat.le_of_ble_eq_true rfl) (fun p e s m below meth c ls C0 hH hl => w_X12_lentSize_b0 C0 k0 v1 hk0 hH hl h) hAd
set_option maxRecDepth 100000 in
set_option maxHeartbeats 4000000 in
theorem w_X12_copySize_b28 {r : Int32} {σ' : Mem} (C0 : Cx E p m c cX12_copySize 4 s args RX12 meth (some .int))  (k0 : Nat) (v1 : Int32) (v2 : Int32) (hk0 : kd k0 = 12) {σ : Mem} {H : Heap} {locs : List Loc} {ls : Array Slot} (hH : Hs E s σ H locs) (hl : lv_has ls 4 [(0, .ref (ea E k0)), (1, .int v1), (2, .int v2)]) (h : X12_copySize_b28 k0 v1 v2 σ = some (r, σ')) : W p l e (rmD 2) s m args below meth c H locs 0 0 (MQ below (QiM E r σ') args s 0 0 (eA E)) (F0 m 28 ls []) := by
  obtain ⟨⟨hx, hb, hml, hown, hts⟩, hr, hlocks, hF, hAd⟩ := id C0
  unfold X12_copySize_b28 at h
  refine lv_aload_n hx hb dX12_copySize_28 rfl (lv_at hl 0 rfl) ?_
  refine lv_bipush (v := 13) hx hb dX12_copySize_29 (by decide) ?_
  obtain ⟨σ1, qσ1, h⟩ := ob_s h
  refine go_v hH (va_run_V (As := [.int 13]) (rest := []) C0 hH lk_X12_348 (c_X12_began hAd k0 13 hk0 σ qσ1) (by decide) (ci := 12) hk0 (by decide) (cob_12 _ _ _) rfl rfl hl.1 rfl (Nat.le_of_ble_eq_true rfl) dX12_copySize_31) (fun H locs hH => ?_)
  refine lv_aload_n hx hb dX12_copySize_34 rfl (lv_at hl 0 rfl) ?_
  refine lv_iload_n hx hb dX12_copySize_35 rfl (lv_at hl 1 rfl) ?_
  obtain ⟨r2, σ3, qr2, h⟩ := ob2_s h
  refine go_i hH (va_run_V (As := [.int v1]) (rest := []) C0 hH lk_X12_351 (c_X12_lentSize hAd k0 v1 hk0 σ1 qr2) (by decide) (ci := 12) hk0 (by decide) (cob_12 _ _ _) rfl rfl hl.1 rfl (Nat.le_of_ble_eq_true rfl) dX12_copySize_36) (fun H locs hH => ?_)
  refine lv_bipush (v := 100) hx hb dX12_copySize_39 (by decide) ?_
  refine lv_isub hx hb dX12_copySize_41 ?_
  obtain ⟨x4, ex4, h⟩ := letv_s h
  refine topi_of ex4 ?_
  refine lv_istore_n (lv' := [(3, .int x4), (0, .ref (ea E k0)), (1, .int v1), (2, .int v2)]) hx hb dX12_copySize_42 rfl hl (by decide) rfl (fun ls hl => ?_)
  refine lv_iload_n hx hb dX12_copySize_43 rfl (lv_at hl 3 rfl) ?_
  refine lv_if_eq (tgt := 53) hx hb dX12_copySize_44 (by decide) (fun c5 => ?_) (fun c5 => ?_)
  · replace h := if_t h c5
    refine lv_iload_n hx hb dX12_copySize_53 rfl (lv_at hl 0 rfl) ?_
    exact r_iret C0 hH (pj1 h) (pj2 h) dX12_copySize_54
  · replace h := if_f h c5
    refine lv_iconst (v := 2) hx hb dX12_copySize_47 (by decide) ?_
    refine lv_iload_n hx hb dX12_copySize_48 rfl (lv_at hl 0 rfl) ?_
    refine lv_imul hx hb dX12_copySize_49 ?_
    refine lv_goto (tgt := 54) hx hb dX12_copySize_50 (by decide) ?_
    exact r_iret C0 hH (pj1 h) (pj2 h) dX12_copySize_54
set_option maxRecDepth 100000 in
set_option maxHeartbeats 4000000 in
theorem w_X12_copySize_b17 {r : Int32} {σ' : Mem} (C0 : Cx E p m c cX12_copySize 4 s args RX12 meth (some .int))  (k0 : Nat) (v1 : Int32) (s0 : Int32) (hk0 : kd k0 = 12) {σ : Mem} {H : Heap} {locs : List Loc} {ls : Array Slot} (hH : Hs E s σ H locs) (hl : lv_has ls 4 [(0, .ref (ea E k0)), (1, .int v1)]) (h : X12_copySize_b17 k0 v1 s0 σ = some (r, σ')) : W p l e (rmD 2) s m args below meth c H locs 0 0 (MQ below (QiM E r σ') args s 0 0 (eA E)) (F0 m 17 ls [.int s0]) := by
  obtain ⟨⟨hx, hb, hml, hown, hts⟩, hr, hlocks, hF, hAd⟩ := id C0
  unfold X12_copySize_b17 at h
  refine lv_istore_n (lv' := [(2, .int s0), (0, .ref (ea E k0)), (1, .int v1)]) hx hb dX12_copySize_17 rfl hl (by decide) rfl (fun ls hl => ?_)
  refine lv_iload_n hx hb dX12_copySize_18 rfl (lv_at hl 0 rfl) ?_
  refine lv_if_eq (tgt := 28) hx hb dX12_copySize_19 (by decide) (fun c1 => ?_) (fun c1 => ?_)
  · replace h := if_t h c1
    exact w_X12_copySize_b28 C0  k0 v1 s0 hk0 hH (lv_sub hl [1, 2, 0] rfl) h
  · replace h := if_f h c1
    refine lv_aload_n hx hb dX12_copySize_22 rfl (lv_at hl 1 rfl) ?_
    refine lv_bipush (v := 14) hx hb dX12_copySize_23 (by decide) ?_
    obtain ⟨σ2, qσ2, h⟩ := ob_s h
    refine go_v hH (va_run_V (As := [.int 14]) (rest := []) C0 hH lk_X12_348 (c_X12_began hAd k0 14 hk0 σ qσ2) (by decide) (ci := 12) hk0 (by decide) (cob_12 _ _ _) rfl rfl hl.1 rfl (Nat.le_of_ble_eq_true rfl) dX12_copySize_25) (fun H locs hH => ?_)
    exact w_X12_copySize_b28 C0  k0 v1 s0 hk0 hH (lv_sub hl [1, 2, 0] rfl) h
set_option maxRecDepth 100000 in
set_option maxHeartbeats 4000000 in
theorem w_X12_copySize_b0 {r : Int32} {σ' : Mem} (C0 : Cx E p m c cX12_copySize 4 s args RX12 meth (some .int))  (k0 : Nat) (v1 : Int32) (hk0 : kd k0 = 12) {σ : Mem} {H : Heap} {locs : List Loc} {ls : Array Slot} (hH : Hs E s σ H locs) (hl : lv_has ls 4 [(0, .ref (ea E k0)), (1, .int v1)]) (h : X12_copySize_b0 k0 v1 σ = some (r, σ')) : W p l e (rmD 2) s m args below meth c H locs 0 0 (MQ below (QiM E r σ') args s 0 0 (eA E)) (F0 m 0 ls []) := by
  obtain ⟨⟨hx, hb, hml, hown, hts⟩, hr, hlocks, hF, hAd⟩ := id C0
  unfold X12_copySize_b0 at h
  refine lv_aload_n hx hb dX12_copySize_0 rfl (lv_at hl 0 rfl) ?_
  refine gf_X12_19 C0 hH hk0 dX12_copySize_1 ?_
  refine lv_iload_n hx hb dX12_copySize_4 rfl (lv_at hl 1 rfl) ?_
  obtain ⟨r1, qr1, h⟩ := ob_s h
  refine go_i hH (va_run_S (As := [.ref (ea E (k0 + 4)), .int v1]) (rest := []) C0 hH lk_X12_184 (c_X12_kindOf hAd (k0 + 4) v1 (kf_12_4 hk0) σ qr1) (by decide) rfl hl.1 rfl (Nat.le_of_ble_eq_true rfl) dX12_copySize_5) (fun H locs hH => ?_)
  refine lv_iconst (v := 5) hx hb dX12_copySize_8 (by decide) ?_
  refine lv_icmp_ne (tgt := 16) hx hb dX12_copySize_9 (by decide) (fun c2 => ?_) (fun c2 => ?_)
  · replace h := if_f h c2
    refine lv_iconst (v := 0) hx hb dX12_copySize_16 (by decide) ?_
    exact w_X12_copySize_b17 C0  k0 v1 0 hk0 hH (lv_sub hl [0, 1] rfl) h
  · replace h := if_t h c2
    refine lv_iconst (v := 1) hx hb dX12_copySize_12 (by decide) ?_
    refine lv_goto (tgt := 17) hx hb dX12_copySize_13 (by decide) ?_
    exact w_X12_copySize_b17 C0  k0 v1 1 hk0 hH (lv_sub hl [0, 1] rfl) h
theorem c_X12_copySize {l : Launch} {E : EnvT} (hAd : Ad E) (k0 : Nat) (v1 : Int32) (hk0 : kd k0 = 12) (σ : Mem) {r : Int32} {σ' : Mem} (h : X12_copySize k0 v1 σ = some (r, σ')) : Met l yX12_copySize (wsM yX12_copySize cX12_copySize 4 (some .int)) (rmD 2) (PcM E [.ref (ea E k0), .int v1] σ) (QiM E r σ') 0 0 (eA E) :=
  Met.ofM (by decide) (Nat.le_of_ble_eq_true rfl) (fun p e s m below meth c ls C0 hH hl => w_X12_copySize_b0 C0 k0 v1 hk0 hH hl h) hAd
set_option maxRecDepth 100000 in
set_option maxHeartbeats 4000000 in
theorem w_X12_markOf_b91 {r : Int32} {σ' : Mem} (C0 : Cx E p m c cX12_markOf 5 s args RX12 meth (some .int))  (v2 : Int32) (s0 : Int32) (s1 : Int32)  {σ : Mem} {H : Heap} {locs : List Loc} {ls : Array Slot} (hH : Hs E s σ H locs) (hl : lv_has ls 5 [(2, .int v2)]) (h : X12_markOf_b91 v2 s0 s1 σ = some (r, σ')) : W p l e (rmD 6) s m args below meth c H locs 0 0 (MQ below (QiM E r σ') args s 0 0 (eA E)) (F0 m 91 ls [.int s1, .int s0]) := by
  obtain ⟨⟨hx, hb, hml, hown, hts⟩, hr, hlocks, hF, hAd⟩ := id C0
  unfold X12_markOf_b91 at h
  refine lv_iadd hx hb dX12_markOf_91 ?_
  obtain ⟨x1, ex1, h⟩ := letv_s h
  refine topi_of ex1 ?_
  refine lv_istore (lv' := [(4, .int x1), (2, .int v2)]) hx hb dX12_markOf_92 hl (by decide) rfl (fun ls hl => ?_)
  refine lv_iload_n hx hb dX12_markOf_94 rfl (lv_at hl 1 rfl) ?_
  refine lv_iconst (v := 1) hx hb dX12_markOf_95 (by decide) ?_
  refine lv_icmp_ne (tgt := 104) hx hb dX12_markOf_96 (by decide) (fun c2 => ?_) (fun c2 => ?_)
  · replace h := if_f h c2
    refine lv_iload_n hx hb dX12_markOf_104 rfl (lv_at hl 1 rfl) ?_
    refine lv_iconst (v := 3) hx hb dX12_markOf_105 (by decide) ?_
    refine lv_icmp_ne (tgt := 118) hx hb dX12_markOf_106 (by decide) (fun c3 => ?_) (fun c3 => ?_)
    · replace h := if_f h c3
      refine lv_iconst (v := 2) hx hb dX12_markOf_118 (by decide) ?_
      refine lv_iload hx hb dX12_markOf_119 (lv_at hl 0 rfl) ?_
      refine lv_imul hx hb dX12_markOf_121 ?_
      exact r_iret C0 hH (pj1 h) (pj2 h) dX12_markOf_122
    · replace h := if_t h c3
      refine lv_iload hx hb dX12_markOf_109 (lv_at hl 0 rfl) ?_
      refine lv_sipush (v := 1000) hx hb dX12_markOf_111 (by decide) ?_
      refine lv_isub hx hb dX12_markOf_114 ?_
      refine lv_goto (tgt := 122) hx hb dX12_markOf_115 (by decide) ?_
      exact r_iret C0 hH (pj1 h) (pj2 h) dX12_markOf_122
  · replace h := if_t h c2
    refine lv_iload hx hb dX12_markOf_99 (lv_at hl 0 rfl) ?_
    refine lv_goto (tgt := 122) hx hb dX12_markOf_101 (by decide) ?_
    exact r_iret C0 hH (pj1 h) (pj2 h) dX12_markOf_122
set_option maxRecDepth 100000 in
set_option maxHeartbeats 4000000 in
theorem w_X12_markOf_b55 {r : Int32} {σ' : Mem} (C0 : Cx E p m c cX12_markOf 5 s args RX12 meth (some .int))  (k0 : Nat) (v1 : Int32) (v2 : Int32) (hk0 : kd k0 = 12) {σ : Mem} {H : Heap} {locs : List Loc} {ls : Array Slot} (hH : Hs E s σ H locs) (hl : lv_has ls 5 [(0, .ref (ea E k0)), (1, .int v1), (2, .int v2)]) (h : X12_markOf_b55 k0 v1 v2 σ = some (r, σ')) : W p l e (rmD 6) s m args below meth c H locs 0 0 (MQ below (QiM E r σ') args s 0 0 (eA E)) (F0 m 55 ls []) := by
  obtain ⟨⟨hx, hb, hml, hown, hts⟩, hr, hlocks, hF, hAd⟩ := id C0
  unfold X12_markOf_b55 at h
  refine lv_aload_n hx hb dX12_markOf_55 rfl (lv_at hl 0 rfl) ?_
  refine lv_bipush (v := 21) hx hb dX12_markOf_56 (by decide) ?_
  obtain ⟨σ1, qσ1, h⟩ := ob_s h
  refine go_v hH (va_run_V (As := [.int 21]) (rest := []) C0 hH lk_X12_348 (c_X12_began hAd k0 21 hk0 σ qσ1) (by decide) (ci := 12) hk0 (by decide) (cob_12 _ _ _) rfl rfl hl.1 rfl (Nat.le_of_ble_eq_true rfl) dX12_markOf_58) (fun H locs hH => ?_)
  refine lv_aload_n hx hb dX12_markOf_61 rfl (lv_at hl 0 rfl) ?_
  refine lv_bipush (v := 20) hx hb dX12_markOf_62 (by decide) ?_
  obtain ⟨σ2, qσ2, h⟩ := ob_s h
  refine go_v hH (va_run_V (As := [.int 20]) (rest := []) C0 hH lk_X12_348 (c_X12_began hAd k0 20 hk0 σ1 qσ2) (by decide) (ci := 12) hk0 (by decide) (cob_12 _ _ _) rfl rfl hl.1 rfl (Nat.le_of_ble_eq_true rfl) dX12_markOf_64) (fun H locs hH => ?_)
  refine lv_aload_n hx hb dX12_markOf_67 rfl (lv_at hl 0 rfl) ?_
  refine lv_aload_n hx hb dX12_markOf_68 rfl (lv_at hl 0 rfl) ?_
  refine gf_X12_19 C0 hH hk0 dX12_markOf_69 ?_
  obtain ⟨r3, σ4, qr3, h⟩ := ob2_s h
  refine go_i hH (va_run_V (As := [.ref (ea E (k0 + 4))]) (rest := []) C0 hH lk_X12_249 (c_X12_layHands hAd k0 (k0 + 4) hk0 (kf_12_4 hk0) σ2 qr3) (by decide) (ci := 12) hk0 (by decide) (cob_12 _ _ _) rfl rfl hl.1 rfl (Nat.le_of_ble_eq_true rfl) dX12_markOf_72) (fun H locs hH => ?_)
  refine lv_istore_n (lv' := [(3, .int r3), (0, .ref (ea E k0)), (1, .int v1), (2, .int v2)]) hx hb dX12_markOf_75 rfl hl (by decide) rfl (fun ls hl => ?_)
  refine lv_iload_n hx hb dX12_markOf_76 rfl (lv_at hl 2 rfl) ?_
  refine lv_iload_n hx hb dX12_markOf_77 rfl (lv_at hl 0 rfl) ?_
  refine lv_if_le (tgt := 90) hx hb dX12_markOf_78 (by decide) (fun c5 => ?_) (fun c5 => ?_)
  · replace h := if_t h c5
    refine lv_iconst (v := 0) hx hb dX12_markOf_90 (by decide) ?_
    exact w_X12_markOf_b91 C0  v2 v1 0  hH (lv_sub hl [3] rfl) h
  · replace h := if_f h c5
    refine lv_aload_n hx hb dX12_markOf_81 rfl (lv_at hl 1 rfl) ?_
    refine gf_X12_46 C0 hH hk0 dX12_markOf_82 ?_
    refine lv_iload_n hx hb dX12_markOf_85 rfl (lv_at hl 2 rfl) ?_
    obtain ⟨b6, h⟩ := gdx_s h
    refine r_iald C0 hH (n := 10) (kf_12_22 hk0) b6 dX12_markOf_86 ?_
    refine lv_goto (tgt := 91) hx hb dX12_markOf_87 (by decide) ?_
    exact w_X12_markOf_b91 C0  v2 v1 (σ4 (k0 + 13) (nc v1))  hH (lv_sub hl [3] rfl) h
set_option maxRecDepth 100000 in
set_option maxHeartbeats 4000000 in
theorem w_X12_markOf_b52 {r : Int32} {σ' : Mem} (C0 : Cx E p m c cX12_markOf 5 s args RX12 meth (some .int))  (k0 : Nat) (v1 : Int32) (v2 : Int32) (s0 : Nat) (s1 : Int32) (hk0 : kd k0 = 12) (hs0 : kd s0 = 12) {σ : Mem} {H : Heap} {locs : List Loc} {ls : Array Slot} (hH : Hs E s σ H locs) (hl : lv_has ls 5 [(0, .ref (ea E k0)), (1, .int v1), (2, .int v2)]) (h : X12_markOf_b52 k0 v1 v2 s0 s1 σ = some (r, σ')) : W p l e (rmD 6) s m args below meth c H locs 0 0 (MQ below (QiM E r σ') args s 0 0 (eA E)) (F0 m 52 ls [.int s1, .ref (ea E s0)]) := by
  obtain ⟨⟨hx, hb, hml, hown, hts⟩, hr, hlocks, hF, hAd⟩ := id C0
  unfold X12_markOf_b52 at h
  obtain ⟨σ1, qσ1, h⟩ := ob_s h
  refine go_v hH (va_run_V (As := [.int s1]) (rest := []) C0 hH lk_X12_348 (c_X12_began hAd s0 s1 hs0 σ qσ1) (by decide) (ci := 12) hs0 (by decide) (cob_12 _ _ _) rfl rfl hl.1 rfl (Nat.le_of_ble_eq_true rfl) dX12_markOf_52) (fun H locs hH => ?_)
  exact w_X12_markOf_b55 C0  k0 v1 v2 hk0 hH (lv_sub hl [0, 1, 2] rfl) h
set_option maxRecDepth 100000 in
set_option maxHeartbeats 4000000 in
theorem w_X12_markOf_b0 {r : Int32} {σ' : Mem} (C0 : Cx E p m c cX12_markOf 5 s args RX12 meth (some .int))  (k0 : Nat) (v1 : Int32) (hk0 : kd k0 = 12) {σ : Mem} {H : Heap} {locs : List Loc} {ls : Array Slot} (hH : Hs E s σ H locs) (hl : lv_has ls 5 [(0, .ref (ea E k0)), (1, .int v1)]) (h : X12_markOf_b0 k0 v1 σ = some (r, σ')) : W p l e (rmD 6) s m args below meth c H locs 0 0 (MQ below (QiM E r σ') args s 0 0 (eA E)) (F0 m 0 ls []) := by
  obtain ⟨⟨hx, hb, hml, hown, hts⟩, hr, hlocks, hF, hAd⟩ := id C0
  unfold X12_markOf_b0 at h
  refine lv_aload_n hx hb dX12_markOf_0 rfl (lv_at hl 0 rfl) ?_
  refine gf_X12_19 C0 hH hk0 dX12_markOf_1 ?_
  refine lv_iload_n hx hb dX12_markOf_4 rfl (lv_at hl 1 rfl) ?_
  obtain ⟨r1, qr1, h⟩ := ob_s h
  refine go_i hH (va_run_S (As := [.ref (ea E (k0 + 4)), .int v1]) (rest := []) C0 hH lk_X12_184 (c_X12_kindOf hAd (k0 + 4) v1 (kf_12_4 hk0) σ qr1) (by decide) rfl hl.1 rfl (Nat.le_of_ble_eq_true rfl) dX12_markOf_5) (fun H locs hH => ?_)
  refine lv_istore_n (lv' := [(2, .int r1), (0, .ref (ea E k0)), (1, .int v1)]) hx hb dX12_markOf_8 rfl hl (by decide) rfl (fun ls hl => ?_)
  refine lv_iload_n hx hb dX12_markOf_9 rfl (lv_at hl 0 rfl) ?_
  refine lv_iconst (v := 4) hx hb dX12_markOf_10 (by decide) ?_
  refine lv_icmp_lt (tgt := 34) hx hb dX12_markOf_11 (by decide) (fun c2 => ?_) (fun c2 => ?_)
  · replace h := if_t h c2
    refine lv_iload_n hx hb dX12_markOf_34 rfl (lv_at hl 0 rfl) ?_
    refine lv_iconst (v := 1) hx hb dX12_markOf_35 (by decide) ?_
    refine lv_icmp_eq (tgt := 55) hx hb dX12_markOf_36 (by decide) (fun c3 => ?_) (fun c3 => ?_)
    · replace h := if_t h c3
      exact w_X12_markOf_b55 C0  k0 v1 r1 hk0 hH (lv_sub hl [1, 2, 0] rfl) h
    · replace h := if_f h c3
      refine lv_aload_n hx hb dX12_markOf_39 rfl (lv_at hl 1 rfl) ?_
      refine lv_iload_n hx hb dX12_markOf_40 rfl (lv_at hl 0 rfl) ?_
      refine lv_iconst (v := 3) hx hb dX12_markOf_41 (by decide) ?_
      refine lv_icmp_ne (tgt := 50) hx hb dX12_markOf_42 (by decide) (fun c4 => ?_) (fun c4 => ?_)
      · replace h := if_f h c4
        refine lv_bipush (v := 24) hx hb dX12_markOf_50 (by decide) ?_
        exact w_X12_markOf_b52 C0  k0 v1 r1 k0 24 hk0 hk0 hH (lv_sub hl [1, 2, 0] rfl) h
      · replace h := if_t h c4
        refine lv_bipush (v := 22) hx hb dX12_markOf_45 (by decide) ?_
        refine lv_goto (tgt := 52) hx hb dX12_markOf_47 (by decide) ?_
        exact w_X12_markOf_b52 C0  k0 v1 r1 k0 22 hk0 hk0 hH (lv_sub hl [1, 2, 0] rfl) h
  · replace h := if_f h c2
    refine lv_aload_n hx hb dX12_markOf_14 rfl (lv_at hl 1 rfl) ?_
    refine lv_bipush (v := 23) hx hb dX12_markOf_15 (by decide) ?_
    obtain ⟨σ5, qσ5, h⟩ := ob_s h
    refine go_v hH (va_run_V (As := [.int 23]) (rest := []) C0 hH lk_X12_348 (c_X12_began hAd k0 23 hk0 σ qσ5) (by decide) (ci := 12) hk0 (by decide) (cob_12 _ _ _) rfl rfl hl.1 rfl (Nat.le_of_ble_eq_true rfl) dX12_markOf_17) (fun H locs hH => ?_)
    refine lv_aload_n hx hb dX12_markOf_20 rfl (lv_at hl 1 rfl) ?_
    refine lv_bipush (v := 20) hx hb dX12_markOf_21 (by decide) ?_
    obtain ⟨σ6, qσ6, h⟩ := ob_s h
    refine go_v hH (va_run_V (As := [.int 20]) (rest := []) C0 hH lk_X12_348 (c_X12_began hAd k0 20 hk0 σ5 qσ6) (by decide) (ci := 12) hk0 (by decide) (cob_12 _ _ _) rfl rfl hl.1 rfl (Nat.le_of_ble_eq_true rfl) dX12_markOf_23) (fun H locs hH => ?_)
    refine lv_iload_n hx hb dX12_markOf_26 rfl (lv_at hl 2 rfl) ?_
    refine lv_aload_n hx hb dX12_markOf_27 rfl (lv_at hl 1 rfl) ?_
    refine lv_iload_n hx hb dX12_markOf_28 rfl (lv_at hl 2 rfl) ?_
    obtain ⟨r7, σ8, qr7, h⟩ := ob2_s h
    refine go_i hH (va_run_V (As := [.int v1]) (rest := [.int v1]) C0 hH lk_X12_354 (c_X12_copySize hAd k0 v1 hk0 σ6 qr7) (by decide) (ci := 12) hk0 (by decide) (cob_12 _ _ _) rfl rfl hl.1 rfl (Nat.le_of_ble_eq_true rfl) dX12_markOf_29) (fun H locs hH => ?_)
    refine lv_isub hx hb dX12_markOf_32 ?_
    exact r_iret C0 hH (pj1 h) (pj2 h) dX12_markOf_33
theorem c_X12_markOf {l : Launch} {E : EnvT} (hAd : Ad E) (k0 : Nat) (v1 : Int32) (hk0 : kd k0 = 12) (σ : Mem) {r : Int32} {σ' : Mem} (h : X12_markOf k0 v1 σ = some (r, σ')) : Met l yX12_markOf (wsM yX12_markOf cX12_markOf 5 (some .int)) (rmD 6) (PcM E [.ref (ea E k0), .int v1] σ) (QiM E r σ') 0 0 (eA E) :=
  Met.ofM (by decide) (Nat.le_of_ble_eq_true rfl) (fun p e s m below meth c ls C0 hH hl => w_X12_markOf_b0 C0 k0 v1 hk0 hH hl h) hAd
set_option maxRecDepth 100000 in
set_option maxHeartbeats 4000000 in
theorem w_X12_askedSize_b31 {r : Int32} {σ' : Mem} (C0 : Cx E p m c cX12_askedSize 4 s args RX12 meth (some .int))  (k0 : Nat) (v1 : Int32) (v2 : Int32) (hk0 : kd k0 = 12) {σ : Mem} {H : Heap} {locs : List Loc} {ls : Array Slot} (hH : Hs E s σ H locs) (hl : lv_has ls 4 [(0, .ref (ea E k0)), (1, .int v1), (2, .int v2)]) (h : X12_askedSize_b31 k0 v1 v2 σ = some (r, σ')) : W p l e (rmD 7) s m args below meth c H locs 0 0 (MQ below (QiM E r σ') args s 0 0 (eA E)) (F0 m 31 ls []) := by
  obtain ⟨⟨hx, hb, hml, hown, hts⟩, hr, hlocks, hF, hAd⟩ := id C0
  unfold X12_askedSize_b31 at h
  refine lv_aload_n hx hb dX12_askedSize_31 rfl (lv_at hl 0 rfl) ?_
  refine lv_bipush (v := 11) hx hb dX12_askedSize_32 (by decide) ?_
  obtain ⟨σ1, qσ1, h⟩ := ob_s h
  refine go_v hH (va_run_V (As := [.int 11]) (rest := []) C0 hH lk_X12_348 (c_X12_began hAd k0 11 hk0 σ qσ1) (by decide) (ci := 12) hk0 (by decide) (cob_12 _ _ _) rfl rfl hl.1 rfl (Nat.le_of_ble_eq_true rfl) dX12_askedSize_34) (fun H locs hH => ?_)
  refine lv_aload_n hx hb dX12_askedSize_37 rfl (lv_at hl 0 rfl) ?_
  refine lv_iload_n hx hb dX12_askedSize_38 rfl (lv_at hl 1 rfl) ?_
  obtain ⟨r2, σ3, qr2, h⟩ := ob2_s h
  refine go_i hH (va_run_V (As := [.int v1]) (rest := []) C0 hH lk_X12_351 (c_X12_lentSize hAd k0 v1 hk0 σ1 qr2) (by decide) (ci := 12) hk0 (by decide) (cob_12 _ _ _) rfl rfl hl.1 rfl (Nat.le_of_ble_eq_true rfl) dX12_askedSize_39) (fun H locs hH => ?_)
  refine lv_istore_n (lv' := [(3, .int r2), (0, .ref (ea E k0)), (1, .int v1), (2, .int v2)]) hx hb dX12_askedSize_42 rfl hl (by decide) rfl (fun ls hl => ?_)
  refine lv_iload_n hx hb dX12_askedSize_43 rfl (lv_at hl 0 rfl) ?_
  refine lv_aload_n hx hb dX12_askedSize_44 rfl (lv_at hl 1 rfl) ?_
  refine lv_iload_n hx hb dX12_askedSize_45 rfl (lv_at hl 2 rfl) ?_
  obtain ⟨r4, σ5, qr4, h⟩ := ob2_s h
  refine go_i hH (va_run_V (As := [.int v1]) (rest := [.int r2]) C0 hH lk_X12_357 (c_X12_markOf hAd k0 v1 hk0 σ3 qr4) (by decide) (ci := 12) hk0 (by decide) (cob_12 _ _ _) rfl rfl hl.1 rfl (Nat.le_of_ble_eq_true rfl) dX12_askedSize_46) (fun H locs hH => ?_)
  refine lv_iadd hx hb dX12_askedSize_49 ?_
  obtain ⟨x6, ex6, h⟩ := letv_s h
  refine topi_of ex6 ?_
  refine lv_istore_n (lv' := [(3, .int x6), (0, .ref (ea E k0)), (1, .int v1), (2, .int v2)]) hx hb dX12_askedSize_50 rfl hl (by decide) rfl (fun ls hl => ?_)
  refine lv_iload_n hx hb dX12_askedSize_51 rfl (lv_at hl 3 rfl) ?_
  refine lv_iconst (v := 2) hx hb dX12_askedSize_52 (by decide) ?_
  refine lv_icmp_ne (tgt := 61) hx hb dX12_askedSize_53 (by decide) (fun c7 => ?_) (fun c7 => ?_)
  · replace h := if_f h c7
    refine lv_iload_n hx hb dX12_askedSize_61 rfl (lv_at hl 0 rfl) ?_
    exact r_iret C0 hH (pj1 h) (pj2 h) dX12_askedSize_62
  · replace h := if_t h c7
    refine lv_iload_n hx hb dX12_askedSize_56 rfl (lv_at hl 0 rfl) ?_
    refine lv_ineg hx hb dX12_askedSize_57 ?_
    refine lv_goto (tgt := 62) hx hb dX12_askedSize_58 (by decide) ?_
    exact r_iret C0 hH (pj1 h) (pj2 h) dX12_askedSize_62
set_option maxRecDepth 100000 in
set_option maxHeartbeats 4000000 in
theorem w_X12_askedSize_b0 {r : Int32} {σ' : Mem} (C0 : Cx E p m c cX12_askedSize 4 s args RX12 meth (some .int))  (k0 : Nat) (v1 : Int32) (hk0 : kd k0 = 12) {σ : Mem} {H : Heap} {locs : List Loc} {ls : Array Slot} (hH : Hs E s σ H locs) (hl : lv_has ls 4 [(0, .ref (ea E k0)), (1, .int v1)]) (h : X12_askedSize_b0 k0 v1 σ = some (r, σ')) : W p l e (rmD 7) s m args below meth c H locs 0 0 (MQ below (QiM E r σ') args s 0 0 (eA E)) (F0 m 0 ls []) := by
  obtain ⟨⟨hx, hb, hml, hown, hts⟩, hr, hlocks, hF, hAd⟩ := id C0
  unfold X12_askedSize_b0 at h
  refine lv_aload_n hx hb dX12_askedSize_0 rfl (lv_at hl 0 rfl) ?_
  refine gf_X12_19 C0 hH hk0 dX12_askedSize_1 ?_
  refine lv_iload_n hx hb dX12_askedSize_4 rfl (lv_at hl 1 rfl) ?_
  obtain ⟨r1, qr1, h⟩ := ob_s h
  refine go_i hH (va_run_S (As := [.ref (ea E (k0 + 4)), .int v1]) (rest := []) C0 hH lk_X12_184 (c_X12_kindOf hAd (k0 + 4) v1 (kf_12_4 hk0) σ qr1) (by decide) rfl hl.1 rfl (Nat.le_of_ble_eq_true rfl) dX12_askedSize_5) (fun H locs hH => ?_)
  refine lv_istore_n (lv' := [(2, .int r1), (0, .ref (ea E k0)), (1, .int v1)]) hx hb dX12_askedSize_8 rfl hl (by decide) rfl (fun ls hl => ?_)
  refine lv_iload_n hx hb dX12_askedSize_9 rfl (lv_at hl 0 rfl) ?_
  refine lv_iconst (v := 4) hx hb dX12_askedSize_10 (by decide) ?_
  refine lv_icmp_lt (tgt := 20) hx hb dX12_askedSize_11 (by decide) (fun c2 => ?_) (fun c2 => ?_)
  · replace h := if_t h c2
    refine lv_iload_n hx hb dX12_askedSize_20 rfl (lv_at hl 0 rfl) ?_
    refine lv_iconst (v := 2) hx hb dX12_askedSize_21 (by decide) ?_
    refine lv_icmp_ne (tgt := 31) hx hb dX12_askedSize_22 (by decide) (fun c3 => ?_) (fun c3 => ?_)
    · replace h := if_f h c3
      exact w_X12_askedSize_b31 C0  k0 v1 r1 hk0 hH (lv_sub hl [1, 2, 0] rfl) h
    · replace h := if_t h c3
      refine lv_aload_n hx hb dX12_askedSize_25 rfl (lv_at hl 1 rfl) ?_
      refine lv_bipush (v := 12) hx hb dX12_askedSize_26 (by decide) ?_
      obtain ⟨σ4, qσ4, h⟩ := ob_s h
      refine go_v hH (va_run_V (As := [.int 12]) (rest := []) C0 hH lk_X12_348 (c_X12_began hAd k0 12 hk0 σ qσ4) (by decide) (ci := 12) hk0 (by decide) (cob_12 _ _ _) rfl rfl hl.1 rfl (Nat.le_of_ble_eq_true rfl) dX12_askedSize_28) (fun H locs hH => ?_)
      exact w_X12_askedSize_b31 C0  k0 v1 r1 hk0 hH (lv_sub hl [1, 2, 0] rfl) h
  · replace h := if_f h c2
    refine lv_aload_n hx hb dX12_askedSize_14 rfl (lv_at hl 1 rfl) ?_
    refine lv_iload_n hx hb dX12_askedSize_15 rfl (lv_at hl 2 rfl) ?_
    obtain ⟨r5, σ6, qr5, h⟩ := ob2_s h
    refine go_i hH (va_run_V (As := [.int v1]) (rest := []) C0 hH lk_X12_354 (c_X12_copySize hAd k0 v1 hk0 σ qr5) (by decide) (ci := 12) hk0 (by decide) (cob_12 _ _ _) rfl rfl hl.1 rfl (Nat.le_of_ble_eq_true rfl) dX12_askedSize_16) (fun H locs hH => ?_)
    exact r_iret C0 hH (pj1 h) (pj2 h) dX12_askedSize_19
theorem c_X12_askedSize {l : Launch} {E : EnvT} (hAd : Ad E) (k0 : Nat) (v1 : Int32) (hk0 : kd k0 = 12) (σ : Mem) {r : Int32} {σ' : Mem} (h : X12_askedSize k0 v1 σ = some (r, σ')) : Met l yX12_askedSize (wsM yX12_askedSize cX12_askedSize 4 (some .int)) (rmD 7) (PcM E [.ref (ea E k0), .int v1] σ) (QiM E r σ') 0 0 (eA E) :=
  Met.ofM (by decide) (Nat.le_of_ble_eq_true rfl) (fun p e s m below meth c ls C0 hH hl => w_X12_askedSize_b0 C0 k0 v1 hk0 hH hl h) hAd
set_option maxRecDepth 100000 in
set_option maxHeartbeats 4000000 in
theorem w_X12_ask_b0 {r : Int32} {σ' : Mem} (C0 : Cx E p m c cX12_ask 3 s args RX12 meth (some .int))  (k0 : Nat) (v1 : Int32) (v2 : Int32) (hk0 : kd k0 = 12) {σ : Mem} {H : Heap} {locs : List Loc} {ls : Array Slot} (hH : Hs E s σ H locs) (hl : lv_has ls 3 [(0, .ref (ea E k0)), (1, .int v1), (2, .int v2)]) (h : X12_ask_b0 k0 v1 v2 σ = some (r, σ')) : W p l e (rmD 8) s m args below meth c H locs 0 0 (MQ below (QiM E r σ') args s 0 0 (eA E)) (F0 m 0 ls []) := by
  obtain ⟨⟨hx, hb, hml, hown, hts⟩, hr, hlocks, hF, hAd⟩ := id C0
  unfold X12_ask_b0 at h
  refine lv_aload_n hx hb dX12_ask_0 rfl (lv_at hl 0 rfl) ?_
  refine lv_iload_n hx hb dX12_ask_1 rfl (lv_at hl 1 rfl) ?_
  obtain ⟨r1, qr1, h⟩ := ob_s h
  refine go_i hH (va_run_V (As := [.int v1]) (rest := []) C0 hH lk_X12_178 (c_X12_isPage hAd k0 v1 hk0 σ qr1) (by decide) (ci := 12) hk0 (by decide) (cob_12 _ _ _) rfl rfl hl.1 rfl (Nat.le_of_ble_eq_true rfl) dX12_ask_2) (fun H locs hH => ?_)
  refine lv_if_eq (tgt := 18) hx hb dX12_ask_5 (by decide) (fun c2 => ?_) (fun c2 => ?_)
  · replace h := if_t h c2
    refine lv_ldc hx hb hown (hts _ qK_X12_85) dX12_ask_18 ?_
    exact r_iret C0 hH (pj1 h) (pj2 h) dX12_ask_20
  · replace h := if_f h c2
    refine lv_iload_n hx hb dX12_ask_8 rfl (lv_at hl 2 rfl) ?_
    refine lv_i2l (v := Int32.toInt64 v2) hx hb dX12_ask_9 rfl ?_
    refine lv_lconst (v := 0) hx hb dX12_ask_10 (by decide) ?_
    refine lv_lconst (v := 1) hx hb dX12_ask_11 (by decide) ?_
    refine go_i hH (va_run_S (As := [.long (Int32.toInt64 v2), .long 0, .long 1]) (rest := []) C0 hH lk_X12_75 (c_X12_in hAd (Int32.toInt64 v2) 0 1  σ rfl) (by decide) rfl hl.1 rfl (Nat.le_of_ble_eq_true rfl) dX12_ask_12) (fun H locs hH => ?_)
    refine lv_if_ne (tgt := 21) hx hb dX12_ask_15 (by decide) (fun c3 => ?_) (fun c3 => ?_)
    · replace h := if_f h c3
      refine lv_aload_n hx hb dX12_ask_21 rfl (lv_at hl 0 rfl) ?_
      refine lv_iconst (v := 0) hx hb dX12_ask_22 (by decide) ?_
      refine pf_X12_345 C0 hH hk0 dX12_ask_23 (fun H locs hH => ?_)
      refine lv_iload_n hx hb dX12_ask_26 rfl (lv_at hl 2 rfl) ?_
      refine lv_if_ne (tgt := 38) hx hb dX12_ask_27 (by decide) (fun c4 => ?_) (fun c4 => ?_)
      · replace h := if_f h c4
        refine lv_aload_n hx hb dX12_ask_38 rfl (lv_at hl 0 rfl) ?_
        refine lv_iload_n hx hb dX12_ask_39 rfl (lv_at hl 1 rfl) ?_
        obtain ⟨r5, σ6, qr5, h⟩ := ob2_s h
        refine go_i hH (va_run_V (As := [.int v1]) (rest := []) C0 hH lk_X12_357 (c_X12_markOf hAd k0 v1 hk0 (wr σ k0 31 0) qr5) (by decide) (ci := 12) hk0 (by decide) (cob_12 _ _ _) rfl rfl hl.1 rfl (Nat.le_of_ble_eq_true rfl) dX12_ask_40) (fun H locs hH => ?_)
        exact r_iret C0 hH (pj1 h) (pj2 h) dX12_ask_43
      · replace h := if_t h c4
        refine lv_aload_n hx hb dX12_ask_30 rfl (lv_at hl 0 rfl) ?_
        refine lv_iload_n hx hb dX12_ask_31 rfl (lv_at hl 1 rfl) ?_
        obtain ⟨r7, σ8, qr7, h⟩ := ob2_s h
        refine go_i hH (va_run_V (As := [.int v1]) (rest := []) C0 hH lk_X12_360 (c_X12_askedSize hAd k0 v1 hk0 (wr σ k0 31 0) qr7) (by decide) (ci := 12) hk0 (by decide) (cob_12 _ _ _) rfl rfl hl.1 rfl (Nat.le_of_ble_eq_true rfl) dX12_ask_32) (fun H locs hH => ?_)
        refine lv_goto (tgt := 43) hx hb dX12_ask_35 (by decide) ?_
        exact r_iret C0 hH (pj1 h) (pj2 h) dX12_ask_43
    · replace h := if_t h c3
      refine lv_ldc hx hb hown (hts _ qK_X12_85) dX12_ask_18 ?_
      exact r_iret C0 hH (pj1 h) (pj2 h) dX12_ask_20
theorem c_X12_ask {l : Launch} {E : EnvT} (hAd : Ad E) (k0 : Nat) (v1 : Int32) (v2 : Int32) (hk0 : kd k0 = 12) (σ : Mem) {r : Int32} {σ' : Mem} (h : X12_ask k0 v1 v2 σ = some (r, σ')) : Met l yX12_ask (wsM yX12_ask cX12_ask 3 (some .int)) (rmD 8) (PcM E [.ref (ea E k0), .int v1, .int v2] σ) (QiM E r σ') 0 0 (eA E) :=
  Met.ofM (by decide) (Nat.le_of_ble_eq_true rfl) (fun p e s m below meth c ls C0 hH hl => w_X12_ask_b0 C0 k0 v1 v2 hk0 hH hl h) hAd
set_option maxRecDepth 100000 in
set_option maxHeartbeats 4000000 in
theorem w_X12_trace_b0 {r : Int32} (C0 : Cx E p m c cX12_trace 2 s args RX12 meth (some .int))  (k0 : Nat) (v1 : Int32) (hk0 : kd k0 = 12) {σ : Mem} {H : Heap} {locs : List Loc} {ls : Array Slot} (hH : Hs E s σ H locs) (hl : lv_has ls 2 [(0, .ref (ea E k0)), (1, .int v1)]) (h : X12_trace_b0 k0 v1 σ = some r) : W p l e (rmD 1) s m args below meth c H locs 0 0 (MQ below (QiM E r σ) args s 0 0 (eA E)) (F0 m 0 ls []) := by
  obtain ⟨⟨hx, hb, hml, hown, hts⟩, hr, hlocks, hF, hAd⟩ := id C0
  unfold X12_trace_b0 at h
  refine lv_iload_n hx hb dX12_trace_0 rfl (lv_at hl 1 rfl) ?_
  refine lv_i2l (v := Int32.toInt64 v1) hx hb dX12_trace_1 rfl ?_
  refine lv_lconst (v := 0) hx hb dX12_trace_2 (by decide) ?_
  refine lv_aload_n hx hb dX12_trace_3 rfl (lv_at hl 0 rfl) ?_
  refine gf_X12_345 C0 hH hk0 dX12_trace_4 ?_
  refine lv_iconst (v := 1) hx hb dX12_trace_7 (by decide) ?_
  refine lv_isub hx hb dX12_trace_8 ?_
  refine lv_i2l (v := Int32.toInt64 ((σ k0 31) - 1)) hx hb dX12_trace_9 rfl ?_
  refine go_i hH (va_run_S (As := [.long (Int32.toInt64 v1), .long 0, .long (Int32.toInt64 ((σ k0 31) - 1))]) (rest := []) C0 hH lk_X12_75 (c_X12_in hAd (Int32.toInt64 v1) 0 (Int32.toInt64 ((σ k0 31) - 1))  σ rfl) (by decide) rfl hl.1 rfl (Nat.le_of_ble_eq_true rfl) dX12_trace_10) (fun H locs hH => ?_)
  refine lv_if_eq (tgt := 25) hx hb dX12_trace_13 (by decide) (fun c1 => ?_) (fun c1 => ?_)
  · replace h := if_t h c1
    refine lv_ldc hx hb hown (hts _ qK_X12_112) dX12_trace_25 ?_
    exact r_iret C0 hH (Option.some.inj h) rfl dX12_trace_27
  · replace h := if_f h c1
    refine lv_aload_n hx hb dX12_trace_16 rfl (lv_at hl 0 rfl) ?_
    refine gf_X12_65 C0 hH hk0 dX12_trace_17 ?_
    refine lv_iload_n hx hb dX12_trace_20 rfl (lv_at hl 1 rfl) ?_
    obtain ⟨b2, h⟩ := gdx_s h
    refine r_iald C0 hH (n := 16) (kf_12_30 hk0) b2 dX12_trace_21 ?_
    refine lv_goto (tgt := 27) hx hb dX12_trace_22 (by decide) ?_
    exact r_iret C0 hH (Option.some.inj h) rfl dX12_trace_27
theorem c_X12_trace {l : Launch} {E : EnvT} (hAd : Ad E) (k0 : Nat) (v1 : Int32) (hk0 : kd k0 = 12) (σ : Mem) {r : Int32} (h : X12_trace k0 v1 σ = some r) : Met l yX12_trace (wsM yX12_trace cX12_trace 2 (some .int)) (rmD 1) (PcM E [.ref (ea E k0), .int v1] σ) (QiM E r σ) 0 0 (eA E) :=
  Met.ofM (by decide) (Nat.le_of_ble_eq_true rfl) (fun p e s m below meth c ls C0 hH hl => w_X12_trace_b0 C0 k0 v1 hk0 hH hl h) hAd
set_option maxRecDepth 100000 in
set_option maxHeartbeats 4000000 in
theorem w_X12_sumOf_b4 {r : Int32} (C0 : Cx E p m c cX12_sumOf 4 s args RX12 meth (some .int)) (K4 : Nat → Int32 → Int32 → Int32 → Mem → Option Int32) (hK4 : ∀ (k0 : Nat) (v1 : Int32) (v2 : Int32) (v3 : Int32) (hk0 : kd k0 = 12) (σ : Mem) (H : Heap) (locs : List Loc) (ls : Array Slot), Hs E s σ H locs → lv_has ls 4 [(0, .ref (ea E k0)), (1, .int v1), (2, .int v2), (3, .int v3)] → K4 k0 v1 v2 v3 σ = some r → W p l e (rmD 0) s m args below meth c H locs 0 0 (MQ below (QiM E r σ) args s 0 0 (eA E)) (F0 m 4 ls []))  (k0 : Nat) (v1 : Int32) (v2 : Int32) (v3 : Int32) (hk0 : kd k0 = 12) {σ : Mem} {H : Heap} {locs : List Loc} {ls : Array Slot} (hH : Hs E s σ H locs) (hl : lv_has ls 4 [(0, .ref (ea E k0)), (1, .int v1), (2, .int v2), (3, .int v3)]) (h : X12_sumOf_b4 K4 k0 v1 v2 v3 σ = some r) : W p l e (rmD 0) s m args below meth c H locs 0 0 (MQ below (QiM E r σ) args s 0 0 (eA E)) (F0 m 4 ls []) := by
  obtain ⟨⟨hx, hb, hml, hown, hts⟩, hr, hlocks, hF, hAd⟩ := id C0
  unfold X12_sumOf_b4 at h
  refine lv_iload_n hx hb dX12_sumOf_4 rfl (lv_at hl 3 rfl) ?_
  refine lv_aload_n hx hb dX12_sumOf_5 rfl (lv_at hl 0 rfl) ?_
  refine gf_X12_19 C0 hH hk0 dX12_sumOf_6 ?_
  refine lv_iconst (v := 0) hx hb dX12_sumOf_9 (by decide) ?_
  refine r_iald C0 hH (n := 43) (kf_12_4 hk0) (vin (by decide)) dX12_sumOf_10 ?_
  refine lv_icmp_ge (tgt := 37) hx hb dX12_sumOf_11 (by decide) (fun c1 => ?_) (fun c1 => ?_)
  · replace h := if_t h c1
    refine lv_iload_n hx hb dX12_sumOf_37 rfl (lv_at hl 2 rfl) ?_
    exact r_iret C0 hH (Option.some.inj h) rfl dX12_sumOf_38
  · replace h := if_f h c1
    refine lv_iload_n hx hb dX12_sumOf_14 rfl (lv_at hl 2 rfl) ?_
    refine lv_aload_n hx hb dX12_sumOf_15 rfl (lv_at hl 0 rfl) ?_
    refine gf_X12_19 C0 hH hk0 dX12_sumOf_16 ?_
    refine lv_iconst (v := 3) hx hb dX12_sumOf_19 (by decide) ?_
    refine lv_iconst (v := 4) hx hb dX12_sumOf_20 (by decide) ?_
    refine lv_iload_n hx hb dX12_sumOf_21 rfl (lv_at hl 3 rfl) ?_
    refine lv_imul hx hb dX12_sumOf_22 ?_
    refine lv_iadd hx hb dX12_sumOf_23 ?_
    refine lv_iconst (v := 1) hx hb dX12_sumOf_24 (by decide) ?_
    refine lv_iadd hx hb dX12_sumOf_25 ?_
    refine lv_iload_n hx hb dX12_sumOf_26 rfl (lv_at hl 1 rfl) ?_
    refine lv_iadd hx hb dX12_sumOf_27 ?_
    obtain ⟨b2, h⟩ := gdx_s h
    refine r_iald C0 hH (n := 43) (kf_12_4 hk0) b2 dX12_sumOf_28 ?_
    refine lv_iadd hx hb dX12_sumOf_29 ?_
    obtain ⟨x3, ex3, h⟩ := letv_s h
    refine topi_of ex3 ?_
    refine lv_istore_n (lv' := [(2, .int x3), (0, .ref (ea E k0)), (1, .int v1), (3, .int v3)]) hx hb dX12_sumOf_30 rfl hl (by decide) rfl (fun ls hl => ?_)
    refine lv_iinc (v := v3 + 1) (lv' := [(3, .int (v3 + 1)), (2, .int x3), (0, .ref (ea E k0)), (1, .int v1)]) hx hb dX12_sumOf_31 hl (k := 3) rfl rfl (by decide) rfl (fun ls hl => ?_)
    refine lv_goto (tgt := 4) hx hb dX12_sumOf_34 (by decide) ?_
    exact hK4 k0 v1 x3 (v3 + 1) hk0 _ _ _ _ hH (lv_sub hl [2, 3, 1, 0] rfl) h
set_option maxRecDepth 100000 in
set_option maxHeartbeats 4000000 in
theorem w_X12_sumOf_l4 {r : Int32} (C0 : Cx E p m c cX12_sumOf 4 s args RX12 meth (some .int))  (n : Nat) : ∀ (k0 : Nat) (v1 : Int32) (v2 : Int32) (v3 : Int32) (hk0 : kd k0 = 12) (σ : Mem) (H : Heap) (locs : List Loc) (ls : Array Slot), Hs E s σ H locs → lv_has ls 4 [(0, .ref (ea E k0)), (1, .int v1), (2, .int v2), (3, .int v3)] → X12_sumOf_l4 n k0 v1 v2 v3 σ = some r → W p l e (rmD 0) s m args below meth c H locs 0 0 (MQ below (QiM E r σ) args s 0 0 (eA E)) (F0 m 4 ls []) := by
  induction n with
  | zero =>
    intro k0 v1 v2 v3 hk0 σ H locs ls hH hl h
    cases h
  | succ n ih =>
    intro k0 v1 v2 v3 hk0 σ H locs ls hH hl h
    exact w_X12_sumOf_b4 C0 (X12_sumOf_l4 n)  ih k0 v1 v2 v3 hk0 hH hl h
set_option maxRecDepth 100000 in
set_option maxHeartbeats 4000000 in
theorem w_X12_sumOf_b0 {r : Int32} (C0 : Cx E p m c cX12_sumOf 4 s args RX12 meth (some .int))  (k0 : Nat) (v1 : Int32) (hk0 : kd k0 = 12) {σ : Mem} {H : Heap} {locs : List Loc} {ls : Array Slot} (hH : Hs E s σ H locs) (hl : lv_has ls 4 [(0, .ref (ea E k0)), (1, .int v1)]) (h : X12_sumOf_b0 k0 v1 σ = some r) : W p l e (rmD 0) s m args below meth c H locs 0 0 (MQ below (QiM E r σ) args s 0 0 (eA E)) (F0 m 0 ls []) := by
  obtain ⟨⟨hx, hb, hml, hown, hts⟩, hr, hlocks, hF, hAd⟩ := id C0
  unfold X12_sumOf_b0 at h
  refine lv_iconst (v := 0) hx hb dX12_sumOf_0 (by decide) ?_
  refine lv_istore_n (lv' := [(2, .int 0), (0, .ref (ea E k0)), (1, .int v1)]) hx hb dX12_sumOf_1 rfl hl (by decide) rfl (fun ls hl => ?_)
  refine lv_iconst (v := 0) hx hb dX12_sumOf_2 (by decide) ?_
  refine lv_istore_n (lv' := [(3, .int 0), (2, .int 0), (0, .ref (ea E k0)), (1, .int v1)]) hx hb dX12_sumOf_3 rfl hl (by decide) rfl (fun ls hl => ?_)
  exact w_X12_sumOf_l4 C0  FU k0 v1 0 0 hk0 _ _ _ _ hH (lv_sub hl [2, 3, 1, 0] rfl) h
theorem c_X12_sumOf {l : Launch} {E : EnvT} (hAd : Ad E) (k0 : Nat) (v1 : Int32) (hk0 : kd k0 = 12) (σ : Mem) {r : Int32} (h : X12_sumOf k0 v1 σ = some r) : Met l yX12_sumOf (wsM yX12_sumOf cX12_sumOf 4 (some .int)) (rmD 0) (PcM E [.ref (ea E k0), .int v1] σ) (QiM E r σ) 0 0 (eA E) :=
  Met.ofM (by decide) (Nat.le_of_ble_eq_true rfl) (fun p e s m below meth c ls C0 hH hl => w_X12_sumOf_b0 C0 k0 v1 hk0 hH hl h) hAd
set_option maxRecDepth 100000 in
set_option maxHeartbeats 4000000 in
theorem w_X12_count_b67 {r : Int32} (C0 : Cx E p m c cX12_count 4 s args RX12 meth (some .int)) (K46 : Nat → Int32 → Int32 → Mem → Option Int32) (hK46 : ∀ (k0 : Nat) (v2 : Int32) (v3 : Int32) (hk0 : kd k0 = 12) (σ : Mem) (H : Heap) (locs : List Loc) (ls : Array Slot), Hs E s σ H locs → lv_has ls 4 [(0, .ref (ea E k0)), (2, .int v2), (3, .int v3)] → K46 k0 v2 v3 σ = some r → W p l e (rmD 1) s m args below meth c H locs 0 0 (MQ below (QiM E r σ) args s 0 0 (eA E)) (F0 m 46 ls []))  (k0 : Nat) (v3 : Int32) (s0 : Int32) (s1 : Int32) (hk0 : kd k0 = 12) {σ : Mem} {H : Heap} {locs : List Loc} {ls : Array Slot} (hH : Hs E s σ H locs) (hl : lv_has ls 4 [(0, .ref (ea E k0)), (3, .int v3)]) (h : X12_count_b67 K46 k0 v3 s0 s1 σ = some r) : W p l e (rmD 1) s m args below meth c H locs 0 0 (MQ below (QiM E r σ) args s 0 0 (eA E)) (F0 m 67 ls [.int s1, .int s0]) := by
  obtain ⟨⟨hx, hb, hml, hown, hts⟩, hr, hlocks, hF, hAd⟩ := id C0
  unfold X12_count_b67 at h
  refine lv_iadd hx hb dX12_count_67 ?_
  obtain ⟨x1, ex1, h⟩ := letv_s h
  refine topi_of ex1 ?_
  refine lv_istore_n (lv' := [(2, .int x1), (0, .ref (ea E k0)), (3, .int v3)]) hx hb dX12_count_68 rfl hl (by decide) rfl (fun ls hl => ?_)
  refine lv_iinc (v := v3 + 1) (lv' := [(3, .int (v3 + 1)), (2, .int x1), (0, .ref (ea E k0))]) hx hb dX12_count_69 hl (k := 2) rfl rfl (by decide) rfl (fun ls hl => ?_)
  refine lv_goto (tgt := 46) hx hb dX12_count_72 (by decide) ?_
  exact hK46 k0 x1 (v3 + 1) hk0 _ _ _ _ hH (lv_sub hl [2, 1, 0] rfl) h
set_option maxRecDepth 100000 in
set_option maxHeartbeats 4000000 in
theorem w_X12_count_b46 {r : Int32} (C0 : Cx E p m c cX12_count 4 s args RX12 meth (some .int)) (K46 : Nat → Int32 → Int32 → Mem → Option Int32) (hK46 : ∀ (k0 : Nat) (v2 : Int32) (v3 : Int32) (hk0 : kd k0 = 12) (σ : Mem) (H : Heap) (locs : List Loc) (ls : Array Slot), Hs E s σ H locs → lv_has ls 4 [(0, .ref (ea E k0)), (2, .int v2), (3, .int v3)] → K46 k0 v2 v3 σ = some r → W p l e (rmD 1) s m args below meth c H locs 0 0 (MQ below (QiM E r σ) args s 0 0 (eA E)) (F0 m 46 ls []))  (k0 : Nat) (v2 : Int32) (v3 : Int32) (hk0 : kd k0 = 12) {σ : Mem} {H : Heap} {locs : List Loc} {ls : Array Slot} (hH : Hs E s σ H locs) (hl : lv_has ls 4 [(0, .ref (ea E k0)), (2, .int v2), (3, .int v3)]) (h : X12_count_b46 K46 k0 v2 v3 σ = some r) : W p l e (rmD 1) s m args below meth c H locs 0 0 (MQ below (QiM E r σ) args s 0 0 (eA E)) (F0 m 46 ls []) := by
  obtain ⟨⟨hx, hb, hml, hown, hts⟩, hr, hlocks, hF, hAd⟩ := id C0
  unfold X12_count_b46 at h
  refine lv_iload_n hx hb dX12_count_46 rfl (lv_at hl 2 rfl) ?_
  refine lv_bipush (v := 8) hx hb dX12_count_47 (by decide) ?_
  refine lv_icmp_ge (tgt := 75) hx hb dX12_count_49 (by decide) (fun c1 => ?_) (fun c1 => ?_)
  · replace h := if_t h c1
    refine lv_iload_n hx hb dX12_count_75 rfl (lv_at hl 1 rfl) ?_
    exact r_iret C0 hH (Option.some.inj h) rfl dX12_count_76
  · replace h := if_f h c1
    refine lv_iload_n hx hb dX12_count_52 rfl (lv_at hl 1 rfl) ?_
    refine lv_aload_n hx hb dX12_count_53 rfl (lv_at hl 0 rfl) ?_
    refine gf_X12_7 C0 hH hk0 dX12_count_54 ?_
    refine lv_iload_n hx hb dX12_count_57 rfl (lv_at hl 2 rfl) ?_
    obtain ⟨b2, h⟩ := gdx_s h
    refine r_iald C0 hH (n := 8) (kf_12_1 hk0) b2 dX12_count_58 ?_
    refine lv_if_lt (tgt := 66) hx hb dX12_count_59 (by decide) (fun c3 => ?_) (fun c3 => ?_)
    · replace h := if_t h c3
      refine lv_iconst (v := 0) hx hb dX12_count_66 (by decide) ?_
      exact w_X12_count_b67 C0 K46 hK46 k0 v3 v2 0 hk0 hH (lv_sub hl [0, 2] rfl) h
    · replace h := if_f h c3
      refine lv_iconst (v := 1) hx hb dX12_count_62 (by decide) ?_
      refine lv_goto (tgt := 67) hx hb dX12_count_63 (by decide) ?_
      exact w_X12_count_b67 C0 K46 hK46 k0 v3 v2 1 hk0 hH (lv_sub hl [0, 2] rfl) h
set_option maxRecDepth 100000 in
set_option maxHeartbeats 4000000 in
theorem w_X12_count_l46 {r : Int32} (C0 : Cx E p m c cX12_count 4 s args RX12 meth (some .int))  (n : Nat) : ∀ (k0 : Nat) (v2 : Int32) (v3 : Int32) (hk0 : kd k0 = 12) (σ : Mem) (H : Heap) (locs : List Loc) (ls : Array Slot), Hs E s σ H locs → lv_has ls 4 [(0, .ref (ea E k0)), (2, .int v2), (3, .int v3)] → X12_count_l46 n k0 v2 v3 σ = some r → W p l e (rmD 1) s m args below meth c H locs 0 0 (MQ below (QiM E r σ) args s 0 0 (eA E)) (F0 m 46 ls []) := by
  induction n with
  | zero =>
    intro k0 v2 v3 hk0 σ H locs ls hH hl h
    cases h
  | succ n ih =>
    intro k0 v2 v3 hk0 σ H locs ls hH hl h
    exact w_X12_count_b46 C0 (X12_count_l46 n)  ih k0 v2 v3 hk0 hH hl h
set_option maxRecDepth 100000 in
set_option maxHeartbeats 4000000 in
theorem w_X12_count_b84 {r : Int32} (C0 : Cx E p m c cX12_count 4 s args RX12 meth (some .int))  (k0 : Nat) (v1 : Int32) (hk0 : kd k0 = 12) {σ : Mem} {H : Heap} {locs : List Loc} {ls : Array Slot} (hH : Hs E s σ H locs) (hl : lv_has ls 4 [(0, .ref (ea E k0)), (1, .int v1)]) (h : X12_count_b84 k0 v1 σ = some r) : W p l e (rmD 1) s m args below meth c H locs 0 0 (MQ below (QiM E r σ) args s 0 0 (eA E)) (F0 m 84 ls []) := by
  obtain ⟨⟨hx, hb, hml, hown, hts⟩, hr, hlocks, hF, hAd⟩ := id C0
  unfold X12_count_b84 at h
  refine lv_aload_n hx hb dX12_count_84 rfl (lv_at hl 0 rfl) ?_
  refine lv_iload_n hx hb dX12_count_85 rfl (lv_at hl 1 rfl) ?_
  refine lv_iconst (v := 2) hx hb dX12_count_86 (by decide) ?_
  refine lv_isub hx hb dX12_count_87 ?_
  obtain ⟨r1, qr1, h⟩ := ob_s h
  refine go_i hH (va_run_V (As := [.int (v1 - 2)]) (rest := []) C0 hH lk_X12_363 (c_X12_sumOf hAd k0 (v1 - 2) hk0 σ qr1) (by decide) (ci := 12) hk0 (by decide) (cob_12 _ _ _) rfl rfl hl.1 rfl (Nat.le_of_ble_eq_true rfl) dX12_count_88) (fun H locs hH => ?_)
  exact r_iret C0 hH (Option.some.inj h) rfl dX12_count_91
set_option maxRecDepth 100000 in
set_option maxHeartbeats 4000000 in
theorem w_X12_count_b0 {r : Int32} (C0 : Cx E p m c cX12_count 4 s args RX12 meth (some .int))  (k0 : Nat) (v1 : Int32) (hk0 : kd k0 = 12) {σ : Mem} {H : Heap} {locs : List Loc} {ls : Array Slot} (hH : Hs E s σ H locs) (hl : lv_has ls 4 [(0, .ref (ea E k0)), (1, .int v1)]) (h : X12_count_b0 k0 v1 σ = some r) : W p l e (rmD 1) s m args below meth c H locs 0 0 (MQ below (QiM E r σ) args s 0 0 (eA E)) (F0 m 0 ls []) := by
  obtain ⟨⟨hx, hb, hml, hown, hts⟩, hr, hlocks, hF, hAd⟩ := id C0
  unfold X12_count_b0 at h
  refine lv_iconst (v := 0) hx hb dX12_count_0 (by decide) ?_
  refine lv_istore_n (lv' := [(2, .int 0), (0, .ref (ea E k0)), (1, .int v1)]) hx hb dX12_count_1 rfl hl (by decide) rfl (fun ls hl => ?_)
  refine lv_iload_n hx hb dX12_count_2 rfl (lv_at hl 2 rfl) ?_
  by_cases c1 : v1 = 0
  · replace h := if_t h c1
    refine lv_tableIn (off := 41) (tgt := 44) hx hb dX12_count_3 (by rw [c1]; decide) (by rw [c1]; decide) (by rw [c1]; rfl) (by decide) ?_
    refine lv_iconst (v := 0) hx hb dX12_count_44 (by decide) ?_
    refine lv_istore_n (lv' := [(3, .int 0), (2, .int 0), (0, .ref (ea E k0)), (1, .int v1)]) hx hb dX12_count_45 rfl hl (by decide) rfl (fun ls hl => ?_)
    exact w_X12_count_l46 C0  FU k0 0 0 hk0 _ _ _ _ hH (lv_sub hl [2, 1, 0] rfl) h
  · replace h := if_f h c1
    by_cases c2 : v1 = 1
    · replace h := if_t h c2
      refine lv_tableIn (off := 74) (tgt := 77) hx hb dX12_count_3 (by rw [c2]; decide) (by rw [c2]; decide) (by rw [c2]; rfl) (by decide) ?_
      refine lv_aload_n hx hb dX12_count_77 rfl (lv_at hl 1 rfl) ?_
      refine gf_X12_19 C0 hH hk0 dX12_count_78 ?_
      refine lv_iconst (v := 0) hx hb dX12_count_81 (by decide) ?_
      refine r_iald C0 hH (n := 43) (kf_12_4 hk0) (vin (by decide)) dX12_count_82 ?_
      exact r_iret C0 hH (Option.some.inj h) rfl dX12_count_83
    · replace h := if_f h c2
      by_cases c3 : v1 = 2
      · replace h := if_t h c3
        refine lv_tableIn (off := 81) (tgt := 84) hx hb dX12_count_3 (by rw [c3]; decide) (by rw [c3]; decide) (by rw [c3]; rfl) (by decide) ?_
        exact w_X12_count_b84 C0  k0 v1 hk0 hH (lv_sub hl [1, 2] rfl) h
      · replace h := if_f h c3
        by_cases c4 : v1 = 3
        · replace h := if_t h c4
          refine lv_tableIn (off := 81) (tgt := 84) hx hb dX12_count_3 (by rw [c4]; decide) (by rw [c4]; decide) (by rw [c4]; rfl) (by decide) ?_
          exact w_X12_count_b84 C0  k0 v1 hk0 hH (lv_sub hl [1, 2] rfl) h
        · replace h := if_f h c4
          by_cases c5 : v1 = 4
          · replace h := if_t h c5
            refine lv_tableIn (off := 81) (tgt := 84) hx hb dX12_count_3 (by rw [c5]; decide) (by rw [c5]; decide) (by rw [c5]; rfl) (by decide) ?_
            exact w_X12_count_b84 C0  k0 v1 hk0 hH (lv_sub hl [1, 2] rfl) h
          · replace h := if_f h c5
            by_cases c6 : v1 = 5
            · replace h := if_t h c6
              refine lv_tableIn (off := 89) (tgt := 92) hx hb dX12_count_3 (by rw [c6]; decide) (by rw [c6]; decide) (by rw [c6]; rfl) (by decide) ?_
              refine lv_aload_n hx hb dX12_count_92 rfl (lv_at hl 1 rfl) ?_
              refine gf_X12_155 C0 hH hk0 dX12_count_93 ?_
              exact r_iret C0 hH (Option.some.inj h) rfl dX12_count_96
            · replace h := if_f h c6
              by_cases c7 : v1 = 6
              · replace h := if_t h c7
                refine lv_tableIn (off := 94) (tgt := 97) hx hb dX12_count_3 (by rw [c7]; decide) (by rw [c7]; decide) (by rw [c7]; rfl) (by decide) ?_
                refine lv_aload_n hx hb dX12_count_97 rfl (lv_at hl 1 rfl) ?_
                refine gf_X12_96 C0 hH hk0 dX12_count_98 ?_
                exact r_iret C0 hH (Option.some.inj h) rfl dX12_count_101
              · replace h := if_f h c7
                refine lv_tableOut (tgt := 102) hx hb dX12_count_3 (by have := i32_nv (v := 0) c1 (by decide); have := i32_nv (v := 1) c2 (by decide); have := i32_nv (v := 2) c3 (by decide); have := i32_nv (v := 3) c4 (by decide); have := i32_nv (v := 4) c5 (by decide); have := i32_nv (v := 5) c6 (by decide); have := i32_nv (v := 6) c7 (by decide); omega) (by decide) ?_
                refine lv_ldc hx hb hown (hts _ qK_X12_85) dX12_count_102 ?_
                exact r_iret C0 hH (Option.some.inj h) rfl dX12_count_104
theorem c_X12_count {l : Launch} {E : EnvT} (hAd : Ad E) (k0 : Nat) (v1 : Int32) (hk0 : kd k0 = 12) (σ : Mem) {r : Int32} (h : X12_count k0 v1 σ = some r) : Met l yX12_count (wsM yX12_count cX12_count 4 (some .int)) (rmD 1) (PcM E [.ref (ea E k0), .int v1] σ) (QiM E r σ) 0 0 (eA E) :=
  Met.ofM (by decide) (Nat.le_of_ble_eq_true rfl) (fun p e s m below meth c ls C0 hH hl => w_X12_count_b0 C0 k0 v1 hk0 hH hl h) hAd
set_option maxRecDepth 100000 in
set_option maxHeartbeats 4000000 in
theorem w_X12_status_b0 {r : Int32} (C0 : Cx E p m c cX12_status 1 s args RX12 meth (some .int))  (k0 : Nat) (hk0 : kd k0 = 12) {σ : Mem} {H : Heap} {locs : List Loc} {ls : Array Slot} (hH : Hs E s σ H locs) (hl : lv_has ls 1 [(0, .ref (ea E k0))]) (h : X12_status_b0 k0 σ = r) : W p l e (rmD 0) s m args below meth c H locs 0 0 (MQ below (QiM E r σ) args s 0 0 (eA E)) (F0 m 0 ls []) := by
  obtain ⟨⟨hx, hb, hml, hown, hts⟩, hr, hlocks, hF, hAd⟩ := id C0
  unfold X12_status_b0 at h
  refine lv_aload_n hx hb dX12_status_0 rfl (lv_at hl 0 rfl) ?_
  refine gf_X12_68 C0 hH hk0 dX12_status_1 ?_
  exact r_iret C0 hH h rfl dX12_status_4
theorem c_X12_status {l : Launch} {E : EnvT} (hAd : Ad E) (k0 : Nat) (hk0 : kd k0 = 12) (σ : Mem) {r : Int32} (h : X12_status k0 σ = r) : Met l yX12_status (wsM yX12_status cX12_status 1 (some .int)) (rmD 0) (PcM E [.ref (ea E k0)] σ) (QiM E r σ) 0 0 (eA E) :=
  Met.ofM (by decide) (Nat.le_of_ble_eq_true rfl) (fun p e s m below meth c ls C0 hH hl => w_X12_status_b0 C0 k0 hk0 hH hl h) hAd
end
