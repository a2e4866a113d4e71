section
variable {p : Program} {l : Launch} {e : Env} {s : State} {m : MethodId} {args : Array Value} {below : List Frame} {meth : Method} {c : Code} {E : EnvT}
set_option maxRecDepth 100000 in
set_option maxHeartbeats 4000000 in
theorem w_X12_layWritten_b149 {σ' : Mem} (C0 : Cx E p m c cX12_layWritten 5 s args RX12 meth (none)) (K133 : Nat → Int32 → Int32 → Mem → Option Mem) (hK133 : ∀ (k0 : Nat) (v2 : Int32) (v3 : Int32) (hk0 : kd k0 = 12) (σ : Mem) (H : Heap) (locs : List Loc) (ls : Array Slot), Hs E s σ H locs → lv_has ls 5 [(0, .ref (ea E k0)), (2, .int v2), (3, .int v3)] → K133 k0 v2 v3 σ = some σ' → W p l e (rmD 6) s m args below meth c H locs 0 0 (MQ below (QvM E σ') args s 0 0 (eA E)) (F0 m 133 ls []))  (k0 : Nat) (v2 : Int32) (v3 : Int32) (hk0 : kd k0 = 12) {σ : Mem} {H : Heap} {locs : List Loc} {ls : Array Slot} (hH : Hs E s σ H locs) (hl : lv_has ls 5 [(0, .ref (ea E k0)), (2, .int v2), (3, .int v3)]) (h : X12_layWritten_b149 K133 k0 v2 v3 σ = some σ') : W p l e (rmD 6) s m args below meth c H locs 0 0 (MQ below (QvM E σ') args s 0 0 (eA E)) (F0 m 149 ls []) := by
  obtain ⟨⟨hx, hb, hml, hown, hts⟩, hr, hlocks, hF, hAd⟩ := id C0
  unfold X12_layWritten_b149 at h
  refine lv_aload_n hx hb dX12_layWritten_149 rfl (lv_at hl 0 rfl) ?_
  refine lv_bipush (v := 48) hx hb dX12_layWritten_150 (by decide) ?_
  refine lv_aload_n hx hb dX12_layWritten_152 rfl (lv_at hl 0 rfl) ?_
  refine gf_X12_52 C0 hH hk0 dX12_layWritten_153 ?_
  refine lv_iload_n hx hb dX12_layWritten_156 rfl (lv_at hl 2 rfl) ?_
  obtain ⟨b1, h⟩ := gdx_s h
  refine r_iald C0 hH (n := 11) (kf_12_24 hk0) b1 dX12_layWritten_157 ?_
  refine lv_iadd hx hb dX12_layWritten_158 ?_
  obtain ⟨σ2, qσ2, h⟩ := ob_s h
  refine go_v hH (va_run_V (As := [.int (48 + (σ (k0 + 15) (nc v3)))]) (rest := []) C0 hH lk_X12_274 (c_X12_writes hAd k0 (48 + (σ (k0 + 15) (nc v3))) hk0 σ qσ2) (by decide) (ci := 12) hk0 (by decide) (cob_12 _ _ _) rfl rfl hl.1 rfl (Nat.le_of_ble_eq_true rfl) dX12_layWritten_159) (fun H locs hH => ?_)
  refine lv_iinc (v := v3 + 1) (lv' := [(3, .int (v3 + 1)), (0, .ref (ea E k0)), (2, .int v2)]) hx hb dX12_layWritten_162 hl (k := 2) rfl rfl (by decide) rfl (fun ls hl => ?_)
  refine lv_goto (tgt := 133) hx hb dX12_layWritten_165 (by decide) ?_
  exact hK133 k0 v2 (v3 + 1) hk0 _ _ _ _ hH (lv_sub hl [1, 2, 0] rfl) h
set_option maxRecDepth 100000 in
set_option maxHeartbeats 4000000 in
theorem w_X12_layWritten_b133 {σ' : Mem} (C0 : Cx E p m c cX12_layWritten 5 s args RX12 meth (none)) (K133 : Nat → Int32 → Int32 → Mem → Option Mem) (hK133 : ∀ (k0 : Nat) (v2 : Int32) (v3 : Int32) (hk0 : kd k0 = 12) (σ : Mem) (H : Heap) (locs : List Loc) (ls : Array Slot), Hs E s σ H locs → lv_has ls 5 [(0, .ref (ea E k0)), (2, .int v2), (3, .int v3)] → K133 k0 v2 v3 σ = some σ' → W p l e (rmD 6) s m args below meth c H locs 0 0 (MQ below (QvM E σ') args s 0 0 (eA E)) (F0 m 133 ls []))  (k0 : Nat) (v2 : Int32) (v3 : Int32) (hk0 : kd k0 = 12) {σ : Mem} {H : Heap} {locs : List Loc} {ls : Array Slot} (hH : Hs E s σ H locs) (hl : lv_has ls 5 [(0, .ref (ea E k0)), (2, .int v2), (3, .int v3)]) (h : X12_layWritten_b133 K133 k0 v2 v3 σ = some σ') : W p l e (rmD 6) s m args below meth c H locs 0 0 (MQ below (QvM E σ') args s 0 0 (eA E)) (F0 m 133 ls []) := by
  obtain ⟨⟨hx, hb, hml, hown, hts⟩, hr, hlocks, hF, hAd⟩ := id C0
  unfold X12_layWritten_b133 at h
  refine lv_iload_n hx hb dX12_layWritten_133 rfl (lv_at hl 2 rfl) ?_
  refine lv_iload_n hx hb dX12_layWritten_134 rfl (lv_at hl 1 rfl) ?_
  refine lv_icmp_ge (tgt := 168) hx hb dX12_layWritten_135 (by decide) (fun c1 => ?_) (fun c1 => ?_)
  · replace h := if_t h c1
    exact r_vret C0 hH (Option.some.inj h) dX12_layWritten_168
  · replace h := if_f h c1
    refine lv_iload_n hx hb dX12_layWritten_138 rfl (lv_at hl 2 rfl) ?_
    refine lv_iconst (v := 1) hx hb dX12_layWritten_139 (by decide) ?_
    refine lv_icmp_le (tgt := 149) hx hb dX12_layWritten_140 (by decide) (fun c2 => ?_) (fun c2 => ?_)
    · replace h := if_t h c2
      exact w_X12_layWritten_b149 C0 K133 hK133 k0 v2 v3 hk0 hH (lv_sub hl [0, 1, 2] rfl) h
    · replace h := if_f h c2
      refine lv_aload_n hx hb dX12_layWritten_143 rfl (lv_at hl 0 rfl) ?_
      refine lv_bipush (v := 44) hx hb dX12_layWritten_144 (by decide) ?_
      obtain ⟨σ3, qσ3, h⟩ := ob_s h
      refine go_v hH (va_run_V (As := [.int 44]) (rest := []) C0 hH lk_X12_274 (c_X12_writes hAd k0 44 hk0 σ qσ3) (by decide) (ci := 12) hk0 (by decide) (cob_12 _ _ _) rfl rfl hl.1 rfl (Nat.le_of_ble_eq_true rfl) dX12_layWritten_146) (fun H locs hH => ?_)
      exact w_X12_layWritten_b149 C0 K133 hK133 k0 v2 v3 hk0 hH (lv_sub hl [0, 1, 2] rfl) h
set_option maxRecDepth 100000 in
set_option maxHeartbeats 4000000 in
theorem w_X12_layWritten_l133 {σ' : Mem} (C0 : Cx E p m c cX12_layWritten 5 s args RX12 meth (none))  (n : Nat) : ∀ (k0 : Nat) (v2 : Int32) (v3 : Int32) (hk0 : kd k0 = 12) (σ : Mem) (H : Heap) (locs : List Loc) (ls : Array Slot), Hs E s σ H locs → lv_has ls 5 [(0, .ref (ea E k0)), (2, .int v2), (3, .int v3)] → X12_layWritten_l133 n k0 v2 v3 σ = some σ' → W p l e (rmD 6) s m args below meth c H locs 0 0 (MQ below (QvM E σ') args s 0 0 (eA E)) (F0 m 133 ls []) := by
  induction n with
  | zero =>
    intro k0 v2 v3 hk0 σ H locs ls hH hl h
    cases h
  | succ n ih =>
    intro k0 v2 v3 hk0 σ H locs ls hH hl h
    exact w_X12_layWritten_b133 C0 (X12_layWritten_l133 n)  ih k0 v2 v3 hk0 hH hl h
set_option maxRecDepth 100000 in
set_option maxHeartbeats 4000000 in
theorem w_X12_layWritten_b108 {σ' : Mem} (C0 : Cx E p m c cX12_layWritten 5 s args RX12 meth (none)) (K16 : Nat → Int32 → Int32 → Mem → Option Mem) (K48 : Nat → Int32 → Int32 → Int32 → Int32 → Mem → Option Mem) (hK16 : ∀ (k0 : Nat) (v1 : Int32) (v2 : Int32) (hk0 : kd k0 = 12) (σ : Mem) (H : Heap) (locs : List Loc) (ls : Array Slot), Hs E s σ H locs → lv_has ls 5 [(0, .ref (ea E k0)), (1, .int v1), (2, .int v2)] → K16 k0 v1 v2 σ = some σ' → W p l e (rmD 6) s m args below meth c H locs 0 0 (MQ below (QvM E σ') args s 0 0 (eA E)) (F0 m 16 ls [])) (hK48 : ∀ (k0 : Nat) (v1 : Int32) (v2 : Int32) (v3 : Int32) (v4 : Int32) (hk0 : kd k0 = 12) (σ : Mem) (H : Heap) (locs : List Loc) (ls : Array Slot), Hs E s σ H locs → lv_has ls 5 [(0, .ref (ea E k0)), (1, .int v1), (2, .int v2), (3, .int v3), (4, .int v4)] → K48 k0 v1 v2 v3 v4 σ = some σ' → W p l e (rmD 6) s m args below meth c H locs 0 0 (MQ below (QvM E σ') args s 0 0 (eA E)) (F0 m 48 ls []))  (k0 : Nat) (v1 : Int32) (v2 : Int32) (v3 : Int32) (v4 : Int32) (hk0 : kd k0 = 12) {σ : Mem} {H : Heap} {locs : List Loc} {ls : Array Slot} (hH : Hs E s σ H locs) (hl : lv_has ls 5 [(0, .ref (ea E k0)), (1, .int v1), (2, .int v2), (3, .int v3), (4, .int v4)]) (h : X12_layWritten_b108 K16 K48 k0 v1 v2 v3 v4 σ = some σ') : W p l e (rmD 6) s m args below meth c H locs 0 0 (MQ below (QvM E σ') args s 0 0 (eA E)) (F0 m 108 ls []) := by
  obtain ⟨⟨hx, hb, hml, hown, hts⟩, hr, hlocks, hF, hAd⟩ := id C0
  unfold X12_layWritten_b108 at h
  refine lv_iinc (v := v4 + 1) (lv' := [(4, .int (v4 + 1)), (0, .ref (ea E k0)), (1, .int v1), (2, .int v2), (3, .int v3)]) hx hb dX12_layWritten_108 hl (k := 4) rfl rfl (by decide) rfl (fun ls hl => ?_)
  refine lv_goto (tgt := 48) hx hb dX12_layWritten_111 (by decide) ?_
  exact hK48 k0 v1 v2 v3 (v4 + 1) hk0 _ _ _ _ hH (lv_sub hl [1, 2, 3, 4, 0] rfl) h
set_option maxRecDepth 100000 in
set_option maxHeartbeats 4000000 in
theorem w_X12_layWritten_b83 {σ' : Mem} (C0 : Cx E p m c cX12_layWritten 5 s args RX12 meth (none)) (K16 : Nat → Int32 → Int32 → Mem → Option Mem) (K48 : Nat → Int32 → Int32 → Int32 → Int32 → Mem → Option Mem) (hK16 : ∀ (k0 : Nat) (v1 : Int32) (v2 : Int32) (hk0 : kd k0 = 12) (σ : Mem) (H : Heap) (locs : List Loc) (ls : Array Slot), Hs E s σ H locs → lv_has ls 5 [(0, .ref (ea E k0)), (1, .int v1), (2, .int v2)] → K16 k0 v1 v2 σ = some σ' → W p l e (rmD 6) s m args below meth c H locs 0 0 (MQ below (QvM E σ') args s 0 0 (eA E)) (F0 m 16 ls [])) (hK48 : ∀ (k0 : Nat) (v1 : Int32) (v2 : Int32) (v3 : Int32) (v4 : Int32) (hk0 : kd k0 = 12) (σ : Mem) (H : Heap) (locs : List Loc) (ls : Array Slot), Hs E s σ H locs → lv_has ls 5 [(0, .ref (ea E k0)), (1, .int v1), (2, .int v2), (3, .int v3), (4, .int v4)] → K48 k0 v1 v2 v3 v4 σ = some σ' → W p l e (rmD 6) s m args below meth c H locs 0 0 (MQ below (QvM E σ') args s 0 0 (eA E)) (F0 m 48 ls []))  (k0 : Nat) (v1 : Int32) (v2 : Int32) (v3 : Int32) (v4 : Int32) (hk0 : kd k0 = 12) {σ : Mem} {H : Heap} {locs : List Loc} {ls : Array Slot} (hH : Hs E s σ H locs) (hl : lv_has ls 5 [(0, .ref (ea E k0)), (1, .int v1), (2, .int v2), (3, .int v3), (4, .int v4)]) (h : X12_layWritten_b83 K16 K48 k0 v1 v2 v3 v4 σ = some σ') : W p l e (rmD 6) s m args below meth c H locs 0 0 (MQ below (QvM E σ') args s 0 0 (eA E)) (F0 m 83 ls []) := by
  obtain ⟨⟨hx, hb, hml, hown, hts⟩, hr, hlocks, hF, hAd⟩ := id C0
  unfold X12_layWritten_b83 at h
  refine lv_aload_n hx hb dX12_layWritten_83 rfl (lv_at hl 0 rfl) ?_
  refine lv_bipush (v := 48) hx hb dX12_layWritten_84 (by decide) ?_
  refine lv_iload hx hb dX12_layWritten_86 (lv_at hl 4 rfl) ?_
  refine lv_iadd hx hb dX12_layWritten_88 ?_
  obtain ⟨σ1, qσ1, h⟩ := ob_s h
  refine go_v hH (va_run_V (As := [.int (48 + v4)]) (rest := []) C0 hH lk_X12_274 (c_X12_writes hAd k0 (48 + v4) hk0 σ qσ1) (by decide) (ci := 12) hk0 (by decide) (cob_12 _ _ _) rfl rfl hl.1 rfl (Nat.le_of_ble_eq_true rfl) dX12_layWritten_89) (fun H locs hH => ?_)
  refine lv_aload_n hx hb dX12_layWritten_92 rfl (lv_at hl 0 rfl) ?_
  refine lv_iload hx hb dX12_layWritten_93 (lv_at hl 4 rfl) ?_
  refine lv_iload_n hx hb dX12_layWritten_95 rfl (lv_at hl 1 rfl) ?_
  obtain ⟨r2, qr2, h⟩ := ob_s h
  refine go_i hH (va_run_V (As := [.int v4, .int v1]) (rest := []) C0 hH lk_X12_246 (c_X12_isInDoubt hAd k0 v4 v1 hk0 σ1 qr2) (by decide) (ci := 12) hk0 (by decide) (cob_12 _ _ _) rfl rfl hl.1 rfl (Nat.le_of_ble_eq_true rfl) dX12_layWritten_96) (fun H locs hH => ?_)
  refine lv_if_eq (tgt := 108) hx hb dX12_layWritten_99 (by decide) (fun c3 => ?_) (fun c3 => ?_)
  · replace h := if_t h c3
    exact w_X12_layWritten_b108 C0 K16 K48 hK16 hK48 k0 v1 v2 v3 v4 hk0 hH (lv_sub hl [0, 1, 2, 3, 4] rfl) h
  · replace h := if_f h c3
    refine lv_aload_n hx hb dX12_layWritten_102 rfl (lv_at hl 0 rfl) ?_
    refine lv_bipush (v := 63) hx hb dX12_layWritten_103 (by decide) ?_
    obtain ⟨σ4, qσ4, h⟩ := ob_s h
    refine go_v hH (va_run_V (As := [.int 63]) (rest := []) C0 hH lk_X12_274 (c_X12_writes hAd k0 63 hk0 σ1 qσ4) (by decide) (ci := 12) hk0 (by decide) (cob_12 _ _ _) rfl rfl hl.1 rfl (Nat.le_of_ble_eq_true rfl) dX12_layWritten_105) (fun H locs hH => ?_)
    exact w_X12_layWritten_b108 C0 K16 K48 hK16 hK48 k0 v1 v2 v3 v4 hk0 hH (lv_sub hl [0, 1, 2, 3, 4] rfl) h
set_option maxRecDepth 100000 in
set_option maxHeartbeats 4000000 in
theorem w_X12_layWritten_b48 {σ' : Mem} (C0 : Cx E p m c cX12_layWritten 5 s args RX12 meth (none)) (K16 : Nat → Int32 → Int32 → Mem → Option Mem) (K48 : Nat → Int32 → Int32 → Int32 → Int32 → Mem → Option Mem) (hK16 : ∀ (k0 : Nat) (v1 : Int32) (v2 : Int32) (hk0 : kd k0 = 12) (σ : Mem) (H : Heap) (locs : List Loc) (ls : Array Slot), Hs E s σ H locs → lv_has ls 5 [(0, .ref (ea E k0)), (1, .int v1), (2, .int v2)] → K16 k0 v1 v2 σ = some σ' → W p l e (rmD 6) s m args below meth c H locs 0 0 (MQ below (QvM E σ') args s 0 0 (eA E)) (F0 m 16 ls [])) (hK48 : ∀ (k0 : Nat) (v1 : Int32) (v2 : Int32) (v3 : Int32) (v4 : Int32) (hk0 : kd k0 = 12) (σ : Mem) (H : Heap) (locs : List Loc) (ls : Array Slot), Hs E s σ H locs → lv_has ls 5 [(0, .ref (ea E k0)), (1, .int v1), (2, .int v2), (3, .int v3), (4, .int v4)] → K48 k0 v1 v2 v3 v4 σ = some σ' → W p l e (rmD 6) s m args below meth c H locs 0 0 (MQ below (QvM E σ') args s 0 0 (eA E)) (F0 m 48 ls []))  (k0 : Nat) (v1 : Int32) (v2 : Int32) (v3 : Int32) (v4 : Int32) (hk0 : kd k0 = 12) {σ : Mem} {H : Heap} {locs : List Loc} {ls : Array Slot} (hH : Hs E s σ H locs) (hl : lv_has ls 5 [(0, .ref (ea E k0)), (1, .int v1), (2, .int v2), (3, .int v3), (4, .int v4)]) (h : X12_layWritten_b48 K16 K48 k0 v1 v2 v3 v4 σ = some σ') : W p l e (rmD 6) s m args below meth c H locs 0 0 (MQ below (QvM E σ') args s 0 0 (eA E)) (F0 m 48 ls []) := by
  obtain ⟨⟨hx, hb, hml, hown, hts⟩, hr, hlocks, hF, hAd⟩ := id C0
  unfold X12_layWritten_b48 at h
  refine lv_iload hx hb dX12_layWritten_48 (lv_at hl 4 rfl) ?_
  refine lv_aload_n hx hb dX12_layWritten_50 rfl (lv_at hl 0 rfl) ?_
  refine gf_X12_19 C0 hH hk0 dX12_layWritten_51 ?_
  refine lv_iconst (v := 0) hx hb dX12_layWritten_54 (by decide) ?_
  refine r_iald C0 hH (n := 43) (kf_12_4 hk0) (vin (by decide)) dX12_layWritten_55 ?_
  refine lv_icmp_ge (tgt := 114) hx hb dX12_layWritten_56 (by decide) (fun c1 => ?_) (fun c1 => ?_)
  · replace h := if_t h c1
    refine lv_iinc (v := v2 + 1) (lv' := [(2, .int (v2 + 1)), (0, .ref (ea E k0)), (1, .int v1), (3, .int v3), (4, .int v4)]) hx hb dX12_layWritten_114 hl (k := 2) rfl rfl (by decide) rfl (fun ls hl => ?_)
    refine lv_goto (tgt := 16) hx hb dX12_layWritten_117 (by decide) ?_
    exact hK16 k0 v1 (v2 + 1) hk0 _ _ _ _ hH (lv_sub hl [1, 2, 0] rfl) h
  · replace h := if_f h c1
    refine lv_iload_n hx hb dX12_layWritten_59 rfl (lv_at hl 3 rfl) ?_
    refine lv_iload hx hb dX12_layWritten_60 (lv_at hl 4 rfl) ?_
    refine go_i hH (va_run_S (As := [.int v3, .int v4]) (rest := []) C0 hH lk_X12_90 (c_X12_has hAd v3 v4  σ rfl) (by decide) rfl hl.1 rfl (Nat.le_of_ble_eq_true rfl) dX12_layWritten_62) (fun H locs hH => ?_)
    refine lv_if_eq (tgt := 108) hx hb dX12_layWritten_65 (by decide) (fun c2 => ?_) (fun c2 => ?_)
    · replace h := if_t h c2
      exact w_X12_layWritten_b108 C0 K16 K48 hK16 hK48 k0 v1 v2 v3 v4 hk0 hH (lv_sub hl [0, 1, 2, 3, 4] rfl) h
    · replace h := if_f h c2
      refine lv_iload hx hb dX12_layWritten_68 (lv_at hl 4 rfl) ?_
      refine lv_iload_n hx hb dX12_layWritten_70 rfl (lv_at hl 3 rfl) ?_
      obtain ⟨r3, qr3, h⟩ := ob_s h
      refine go_i hH (va_run_S (As := [.int v3]) (rest := [.int v4]) C0 hH lk_X12_215 (c_X12_firstOf hAd v3  σ qr3) (by decide) rfl hl.1 rfl (Nat.le_of_ble_eq_true rfl) dX12_layWritten_71) (fun H locs hH => ?_)
      refine lv_icmp_le (tgt := 83) hx hb dX12_layWritten_74 (by decide) (fun c4 => ?_) (fun c4 => ?_)
      · replace h := if_t h c4
        exact w_X12_layWritten_b83 C0 K16 K48 hK16 hK48 k0 v1 v2 v3 v4 hk0 hH (lv_sub hl [0, 1, 2, 3, 4] rfl) h
      · replace h := if_f h c4
        refine lv_aload_n hx hb dX12_layWritten_77 rfl (lv_at hl 0 rfl) ?_
        refine lv_bipush (v := 44) hx hb dX12_layWritten_78 (by decide) ?_
        obtain ⟨σ5, qσ5, h⟩ := ob_s h
        refine go_v hH (va_run_V (As := [.int 44]) (rest := []) C0 hH lk_X12_274 (c_X12_writes hAd k0 44 hk0 σ qσ5) (by decide) (ci := 12) hk0 (by decide) (cob_12 _ _ _) rfl rfl hl.1 rfl (Nat.le_of_ble_eq_true rfl) dX12_layWritten_80) (fun H locs hH => ?_)
        exact w_X12_layWritten_b83 C0 K16 K48 hK16 hK48 k0 v1 v2 v3 v4 hk0 hH (lv_sub hl [0, 1, 2, 3, 4] rfl) h
set_option maxRecDepth 100000 in
set_option maxHeartbeats 4000000 in
theorem w_X12_layWritten_l48 {σ' : Mem} (C0 : Cx E p m c cX12_layWritten 5 s args RX12 meth (none)) (K16 : Nat → Int32 → Int32 → Mem → Option Mem) (hK16 : ∀ (k0 : Nat) (v1 : Int32) (v2 : Int32) (hk0 : kd k0 = 12) (σ : Mem) (H : Heap) (locs : List Loc) (ls : Array Slot), Hs E s σ H locs → lv_has ls 5 [(0, .ref (ea E k0)), (1, .int v1), (2, .int v2)] → K16 k0 v1 v2 σ = some σ' → W p l e (rmD 6) s m args below meth c H locs 0 0 (MQ below (QvM E σ') args s 0 0 (eA E)) (F0 m 16 ls []))  (n : Nat) : ∀ (k0 : Nat) (v1 : Int32) (v2 : Int32) (v3 : Int32) (v4 : Int32) (hk0 : kd k0 = 12) (σ : Mem) (H : Heap) (locs : List Loc) (ls : Array Slot), Hs E s σ H locs → lv_has ls 5 [(0, .ref (ea E k0)), (1, .int v1), (2, .int v2), (3, .int v3), (4, .int v4)] → X12_layWritten_l48 K16 n k0 v1 v2 v3 v4 σ = some σ' → W p l e (rmD 6) s m args below meth c H locs 0 0 (MQ below (QvM E σ') args s 0 0 (eA E)) (F0 m 48 ls []) := by
  induction n with
  | zero =>
    intro k0 v1 v2 v3 v4 hk0 σ H locs ls hH hl h
    cases h
  | succ n ih =>
    intro k0 v1 v2 v3 v4 hk0 σ H locs ls hH hl h
    exact w_X12_layWritten_b48 C0 K16 (X12_layWritten_l48 K16 n) hK16 ih k0 v1 v2 v3 v4 hk0 hH hl h
set_option maxRecDepth 100000 in
set_option maxHeartbeats 4000000 in
theorem w_X12_layWritten_b31 {σ' : Mem} (C0 : Cx E p m c cX12_layWritten 5 s args RX12 meth (none)) (K16 : Nat → Int32 → Int32 → Mem → Option Mem) (hK16 : ∀ (k0 : Nat) (v1 : Int32) (v2 : Int32) (hk0 : kd k0 = 12) (σ : Mem) (H : Heap) (locs : List Loc) (ls : Array Slot), Hs E s σ H locs → lv_has ls 5 [(0, .ref (ea E k0)), (1, .int v1), (2, .int v2)] → K16 k0 v1 v2 σ = some σ' → W p l e (rmD 6) s m args below meth c H locs 0 0 (MQ below (QvM E σ') args s 0 0 (eA E)) (F0 m 16 ls []))  (k0 : Nat) (v1 : Int32) (v2 : Int32) (hk0 : kd k0 = 12) {σ : Mem} {H : Heap} {locs : List Loc} {ls : Array Slot} (hH : Hs E s σ H locs) (hl : lv_has ls 5 [(0, .ref (ea E k0)), (1, .int v1), (2, .int v2)]) (h : X12_layWritten_b31 K16 k0 v1 v2 σ = some σ') : W p l e (rmD 6) s m args below meth c H locs 0 0 (MQ below (QvM E σ') args s 0 0 (eA E)) (F0 m 31 ls []) := by
  obtain ⟨⟨hx, hb, hml, hown, hts⟩, hr, hlocks, hF, hAd⟩ := id C0
  unfold X12_layWritten_b31 at h
  refine lv_aload_n hx hb dX12_layWritten_31 rfl (lv_at hl 0 rfl) ?_
  refine lv_bipush (v := 65) hx hb dX12_layWritten_32 (by decide) ?_
  refine lv_iload_n hx hb dX12_layWritten_34 rfl (lv_at hl 2 rfl) ?_
  refine lv_iadd hx hb dX12_layWritten_35 ?_
  obtain ⟨σ1, qσ1, h⟩ := ob_s h
  refine go_v hH (va_run_V (As := [.int (65 + v2)]) (rest := []) C0 hH lk_X12_274 (c_X12_writes hAd k0 (65 + v2) hk0 σ qσ1) (by decide) (ci := 12) hk0 (by decide) (cob_12 _ _ _) rfl rfl hl.1 rfl (Nat.le_of_ble_eq_true rfl) dX12_layWritten_36) (fun H locs hH => ?_)
  refine lv_aload_n hx hb dX12_layWritten_39 rfl (lv_at hl 0 rfl) ?_
  refine lv_iload_n hx hb dX12_layWritten_40 rfl (lv_at hl 2 rfl) ?_
  obtain ⟨r2, qr2, h⟩ := ob_s h
  refine go_i hH (va_run_V (As := [.int v2]) (rest := []) C0 hH lk_X12_243 (c_X12_pagesOf hAd k0 v2 hk0 σ1 qr2) (by decide) (ci := 12) hk0 (by decide) (cob_12 _ _ _) rfl rfl hl.1 rfl (Nat.le_of_ble_eq_true rfl) dX12_layWritten_41) (fun H locs hH => ?_)
  refine lv_istore_n (lv' := [(3, .int r2), (0, .ref (ea E k0)), (1, .int v1), (2, .int v2)]) hx hb dX12_layWritten_44 rfl hl (by decide) rfl (fun ls hl => ?_)
  refine lv_iconst (v := 0) hx hb dX12_layWritten_45 (by decide) ?_
  refine lv_istore (lv' := [(4, .int 0), (3, .int r2), (0, .ref (ea E k0)), (1, .int v1), (2, .int v2)]) hx hb dX12_layWritten_46 hl (by decide) rfl (fun ls hl => ?_)
  exact w_X12_layWritten_l48 C0 K16 hK16 FU k0 v1 v2 r2 0 hk0 _ _ _ _ hH (lv_sub hl [2, 3, 4, 1, 0] rfl) h
set_option maxRecDepth 100000 in
set_option maxHeartbeats 4000000 in
theorem w_X12_layWritten_b16 {σ' : Mem} (C0 : Cx E p m c cX12_layWritten 5 s args RX12 meth (none)) (K16 : Nat → Int32 → Int32 → Mem → Option Mem) (hK16 : ∀ (k0 : Nat) (v1 : Int32) (v2 : Int32) (hk0 : kd k0 = 12) (σ : Mem) (H : Heap) (locs : List Loc) (ls : Array Slot), Hs E s σ H locs → lv_has ls 5 [(0, .ref (ea E k0)), (1, .int v1), (2, .int v2)] → K16 k0 v1 v2 σ = some σ' → W p l e (rmD 6) s m args below meth c H locs 0 0 (MQ below (QvM E σ') args s 0 0 (eA E)) (F0 m 16 ls []))  (k0 : Nat) (v1 : Int32) (v2 : Int32) (hk0 : kd k0 = 12) {σ : Mem} {H : Heap} {locs : List Loc} {ls : Array Slot} (hH : Hs E s σ H locs) (hl : lv_has ls 5 [(0, .ref (ea E k0)), (1, .int v1), (2, .int v2)]) (h : X12_layWritten_b16 K16 k0 v1 v2 σ = some σ') : W p l e (rmD 6) s m args below meth c H locs 0 0 (MQ below (QvM E σ') args s 0 0 (eA E)) (F0 m 16 ls []) := by
  obtain ⟨⟨hx, hb, hml, hown, hts⟩, hr, hlocks, hF, hAd⟩ := id C0
  unfold X12_layWritten_b16 at h
  refine lv_iload_n hx hb dX12_layWritten_16 rfl (lv_at hl 2 rfl) ?_
  refine lv_iload_n hx hb dX12_layWritten_17 rfl (lv_at hl 1 rfl) ?_
  refine lv_icmp_ge (tgt := 120) hx hb dX12_layWritten_18 (by decide) (fun c1 => ?_) (fun c1 => ?_)
  · replace h := if_t h c1
    refine lv_aload_n hx hb dX12_layWritten_120 rfl (lv_at hl 0 rfl) ?_
    refine lv_bipush (v := 47) hx hb dX12_layWritten_121 (by decide) ?_
    obtain ⟨σ2, qσ2, h⟩ := ob_s h
    refine go_v hH (va_run_V (As := [.int 47]) (rest := []) C0 hH lk_X12_274 (c_X12_writes hAd k0 47 hk0 σ qσ2) (by decide) (ci := 12) hk0 (by decide) (cob_12 _ _ _) rfl rfl hl.1 rfl (Nat.le_of_ble_eq_true rfl) dX12_layWritten_123) (fun H locs hH => ?_)
    refine lv_aload_n hx hb dX12_layWritten_126 rfl (lv_at hl 0 rfl) ?_
    obtain ⟨r3, σ4, qr3, h⟩ := ob2_s h
    refine go_i hH (va_run_V (As := []) (rest := []) C0 hH lk_X12_268 (c_X12_layRuns hAd k0 hk0 σ2 qr3) (by decide) (ci := 12) hk0 (by decide) (cob_12 _ _ _) rfl rfl hl.1 rfl (Nat.le_of_ble_eq_true rfl) dX12_layWritten_127) (fun H locs hH => ?_)
    refine lv_istore_n (lv' := [(2, .int r3), (0, .ref (ea E k0)), (1, .int v1)]) hx hb dX12_layWritten_130 rfl hl (by decide) rfl (fun ls hl => ?_)
    refine lv_iconst (v := 1) hx hb dX12_layWritten_131 (by decide) ?_
    refine lv_istore_n (lv' := [(3, .int 1), (2, .int r3), (0, .ref (ea E k0)), (1, .int v1)]) hx hb dX12_layWritten_132 rfl hl (by decide) rfl (fun ls hl => ?_)
    exact w_X12_layWritten_l133 C0  FU k0 r3 1 hk0 _ _ _ _ hH (lv_sub hl [2, 1, 0] rfl) h
  · replace h := if_f h c1
    refine lv_iload_n hx hb dX12_layWritten_21 rfl (lv_at hl 2 rfl) ?_
    refine lv_if_le (tgt := 31) hx hb dX12_layWritten_22 (by decide) (fun c5 => ?_) (fun c5 => ?_)
    · replace h := if_t h c5
      exact w_X12_layWritten_b31 C0 K16 hK16 k0 v1 v2 hk0 hH (lv_sub hl [0, 1, 2] rfl) h
    · replace h := if_f h c5
      refine lv_aload_n hx hb dX12_layWritten_25 rfl (lv_at hl 0 rfl) ?_
      refine lv_bipush (v := 59) hx hb dX12_layWritten_26 (by decide) ?_
      obtain ⟨σ6, qσ6, h⟩ := ob_s h
      refine go_v hH (va_run_V (As := [.int 59]) (rest := []) C0 hH lk_X12_274 (c_X12_writes hAd k0 59 hk0 σ qσ6) (by decide) (ci := 12) hk0 (by decide) (cob_12 _ _ _) rfl rfl hl.1 rfl (Nat.le_of_ble_eq_true rfl) dX12_layWritten_28) (fun H locs hH => ?_)
      exact w_X12_layWritten_b31 C0 K16 hK16 k0 v1 v2 hk0 hH (lv_sub hl [0, 1, 2] rfl) h
set_option maxRecDepth 100000 in
set_option maxHeartbeats 4000000 in
theorem w_X12_layWritten_l16 {σ' : Mem} (C0 : Cx E p m c cX12_layWritten 5 s args RX12 meth (none))  (n : Nat) : ∀ (k0 : Nat) (v1 : Int32) (v2 : Int32) (hk0 : kd k0 = 12) (σ : Mem) (H : Heap) (locs : List Loc) (ls : Array Slot), Hs E s σ H locs → lv_has ls 5 [(0, .ref (ea E k0)), (1, .int v1), (2, .int v2)] → X12_layWritten_l16 n k0 v1 v2 σ = some σ' → W p l e (rmD 6) s m args below meth c H locs 0 0 (MQ below (QvM E σ') args s 0 0 (eA E)) (F0 m 16 ls []) := by
  induction n with
  | zero =>
    intro k0 v1 v2 hk0 σ H locs ls hH hl h
    cases h
  | succ n ih =>
    intro k0 v1 v2 hk0 σ H locs ls hH hl h
    exact w_X12_layWritten_b16 C0 (X12_layWritten_l16 n)  ih k0 v1 v2 hk0 hH hl h
set_option maxRecDepth 100000 in
set_option maxHeartbeats 4000000 in
theorem w_X12_layWritten_b0 {σ' : Mem} (C0 : Cx E p m c cX12_layWritten 5 s args RX12 meth (none))  (k0 : Nat) (hk0 : kd k0 = 12) {σ : Mem} {H : Heap} {locs : List Loc} {ls : Array Slot} (hH : Hs E s σ H locs) (hl : lv_has ls 5 [(0, .ref (ea E k0))]) (h : X12_layWritten_b0 k0 σ = some σ') : W p l e (rmD 6) s m args below meth c H locs 0 0 (MQ below (QvM E σ') args s 0 0 (eA E)) (F0 m 0 ls []) := by
  obtain ⟨⟨hx, hb, hml, hown, hts⟩, hr, hlocks, hF, hAd⟩ := id C0
  unfold X12_layWritten_b0 at h
  refine lv_aload_n hx hb dX12_layWritten_0 rfl (lv_at hl 0 rfl) ?_
  refine lv_aload_n hx hb dX12_layWritten_1 rfl (lv_at hl 0 rfl) ?_
  refine gf_X12_19 C0 hH hk0 dX12_layWritten_2 ?_
  obtain ⟨r1, σ2, qr1, h⟩ := ob2_s h
  refine go_i hH (va_run_V (As := [.ref (ea E (k0 + 4))]) (rest := []) C0 hH lk_X12_249 (c_X12_layHands hAd k0 (k0 + 4) hk0 (kf_12_4 hk0) σ qr1) (by decide) (ci := 12) hk0 (by decide) (cob_12 _ _ _) rfl rfl hl.1 rfl (Nat.le_of_ble_eq_true rfl) dX12_layWritten_5) (fun H locs hH => ?_)
  refine lv_istore_n (lv' := [(1, .int r1), (0, .ref (ea E k0))]) hx hb dX12_layWritten_8 rfl hl (by decide) rfl (fun ls hl => ?_)
  refine lv_aload_n hx hb dX12_layWritten_9 rfl (lv_at hl 1 rfl) ?_
  refine lv_iconst (v := 0) hx hb dX12_layWritten_10 (by decide) ?_
  refine pf_X12_271 C0 hH hk0 dX12_layWritten_11 (fun H locs hH => ?_)
  refine lv_iconst (v := 0) hx hb dX12_layWritten_14 (by decide) ?_
  refine lv_istore_n (lv' := [(2, .int 0), (1, .int r1), (0, .ref (ea E k0))]) hx hb dX12_layWritten_15 rfl hl (by decide) rfl (fun ls hl => ?_)
  exact w_X12_layWritten_l16 C0  FU k0 r1 0 hk0 _ _ _ _ hH (lv_sub hl [2, 1, 0] rfl) h
theorem c_X12_layWritten {l : Launch} {E : EnvT} (hAd : Ad E) (k0 : Nat) (hk0 : kd k0 = 12) (σ : Mem) {σ' : Mem} (h : X12_layWritten k0 σ = some σ') : Met l yX12_layWritten (wsM yX12_layWritten cX12_layWritten 5 (none)) (rmD 6) (PcM E [.ref (ea E k0)] σ) (QvM E σ') 0 0 (eA E) :=
  Met.ofM (by decide) (Nat.le_of_ble_eq_true rfl) (fun p e s m below meth c ls C0 hH hl => w_X12_layWritten_b0 C0 k0 hk0 hH hl h) hAd
set_option maxRecDepth 100000 in
set_option maxHeartbeats 4000000 in
theorem w_X12_sign_b0 {r : Int32} {σ' : Mem} (C0 : Cx E p m c cX12_sign 2 s args RX12 meth (some .int))  (k0 : Nat) (v1 : Int32) (hk0 : kd k0 = 12) {σ : Mem} {H : Heap} {locs : List Loc} {ls : Array Slot} (hH : Hs E s σ H locs) (hl : lv_has ls 2 [(0, .ref (ea E k0)), (1, .int v1)]) (h : X12_sign_b0 k0 v1 σ = some (r, σ')) : W p l e (rmD 7) s m args below meth c H locs 0 0 (MQ below (QiM E r σ') args s 0 0 (eA E)) (F0 m 0 ls []) := by
  obtain ⟨⟨hx, hb, hml, hown, hts⟩, hr, hlocks, hF, hAd⟩ := id C0
  unfold X12_sign_b0 at h
  refine lv_aload_n hx hb dX12_sign_0 rfl (lv_at hl 0 rfl) ?_
  obtain ⟨r1, qr1, h⟩ := ob_s h
  refine go_i hH (va_run_V (As := []) (rest := []) C0 hH lk_X12_159 (c_X12_isThere hAd k0 hk0 σ qr1) (by decide) (ci := 12) hk0 (by decide) (cob_12 _ _ _) rfl rfl hl.1 rfl (Nat.le_of_ble_eq_true rfl) dX12_sign_1) (fun H locs hH => ?_)
  refine lv_if_ne (tgt := 10) hx hb dX12_sign_4 (by decide) (fun c2 => ?_) (fun c2 => ?_)
  · replace h := if_f h c2
    refine lv_iload_n hx hb dX12_sign_10 rfl (lv_at hl 1 rfl) ?_
    refine lv_if_ge (tgt := 17) hx hb dX12_sign_11 (by decide) (fun c3 => ?_) (fun c3 => ?_)
    · replace h := if_t h c3
      refine lv_aload_n hx hb dX12_sign_17 rfl (lv_at hl 0 rfl) ?_
      obtain ⟨σ4, qσ4, h⟩ := ob_s h
      refine go_v hH (va_run_V (As := []) (rest := []) C0 hH lk_X12_277 (c_X12_layWritten hAd k0 hk0 σ qσ4) (by decide) (ci := 12) hk0 (by decide) (cob_12 _ _ _) rfl rfl hl.1 rfl (Nat.le_of_ble_eq_true rfl) dX12_sign_18) (fun H locs hH => ?_)
      refine lv_iload_n hx hb dX12_sign_21 rfl (lv_at hl 1 rfl) ?_
      refine lv_aload_n hx hb dX12_sign_22 rfl (lv_at hl 0 rfl) ?_
      refine gf_X12_271 C0 hH hk0 dX12_sign_23 ?_
      refine lv_icmp_ge (tgt := 38) hx hb dX12_sign_26 (by decide) (fun c5 => ?_) (fun c5 => ?_)
      · replace h := if_t h c5
        refine lv_ldc hx hb hown (hts _ qK_X12_112) dX12_sign_38 ?_
        exact r_iret C0 hH (pj1 h) (pj2 h) dX12_sign_40
      · replace h := if_f h c5
        refine lv_aload_n hx hb dX12_sign_29 rfl (lv_at hl 0 rfl) ?_
        refine gf_X12_55 C0 hH hk0 dX12_sign_30 ?_
        refine lv_iload_n hx hb dX12_sign_33 rfl (lv_at hl 1 rfl) ?_
        obtain ⟨b6, h⟩ := gdx_s h
        refine r_iald C0 hH (n := 64) (kf_12_26 hk0) b6 dX12_sign_34 ?_
        refine lv_goto (tgt := 40) hx hb dX12_sign_35 (by decide) ?_
        exact r_iret C0 hH (pj1 h) (pj2 h) dX12_sign_40
    · replace h := if_f h c3
      refine lv_ldc hx hb hown (hts _ qK_X12_85) dX12_sign_14 ?_
      exact r_iret C0 hH (pj1 h) (pj2 h) dX12_sign_16
  · replace h := if_t h c2
    refine lv_ldc hx hb hown (hts _ qK_X12_158) dX12_sign_7 ?_
    exact r_iret C0 hH (pj1 h) (pj2 h) dX12_sign_9
theorem c_X12_sign {l : Launch} {E : EnvT} (hAd : Ad E) (k0 : Nat) (v1 : Int32) (hk0 : kd k0 = 12) (σ : Mem) {r : Int32} {σ' : Mem} (h : X12_sign k0 v1 σ = some (r, σ')) : Met l yX12_sign (wsM yX12_sign cX12_sign 2 (some .int)) (rmD 7) (PcM E [.ref (ea E k0), .int v1] σ) (QiM E r σ') 0 0 (eA E) :=
  Met.ofM (by decide) (Nat.le_of_ble_eq_true rfl) (fun p e s m below meth c ls C0 hH hl => w_X12_sign_b0 C0 k0 v1 hk0 hH hl h) hAd
set_option maxRecDepth 100000 in
set_option maxHeartbeats 4000000 in
theorem w_X12_page_b56 {r : Int32} {σ' : Mem} (C0 : Cx E p m c cX12_page 4 s args RX12 meth (some .int))  (k0 : Nat) (v1 : Int32) (v2 : Int32) (hk0 : kd k0 = 12) {σ : Mem} {H : Heap} {locs : List Loc} {ls : Array Slot} (hH : Hs E s σ H locs) (hl : lv_has ls 4 [(0, .ref (ea E k0)), (1, .int v1), (2, .int v2)]) (h : X12_page_b56 k0 v1 v2 σ = some (r, σ')) : W p l e (rmD 6) s m args below meth c H locs 0 0 (MQ below (QiM E r σ') args s 0 0 (eA E)) (F0 m 56 ls []) := by
  obtain ⟨⟨hx, hb, hml, hown, hts⟩, hr, hlocks, hF, hAd⟩ := id C0
  unfold X12_page_b56 at h
  refine lv_aload_n hx hb dX12_page_56 rfl (lv_at hl 0 rfl) ?_
  refine gf_X12_19 C0 hH hk0 dX12_page_57 ?_
  refine lv_iconst (v := 3) hx hb dX12_page_60 (by decide) ?_
  refine lv_iconst (v := 4) hx hb dX12_page_61 (by decide) ?_
  refine lv_iload_n hx hb dX12_page_62 rfl (lv_at hl 1 rfl) ?_
  refine lv_imul hx hb dX12_page_63 ?_
  refine lv_iadd hx hb dX12_page_64 ?_
  refine lv_iconst (v := 1) hx hb dX12_page_65 (by decide) ?_
  refine lv_iadd hx hb dX12_page_66 ?_
  refine lv_iload_n hx hb dX12_page_67 rfl (lv_at hl 2 rfl) ?_
  refine lv_iadd hx hb dX12_page_68 ?_
  obtain ⟨b1, h⟩ := gdx_s h
  refine r_iald C0 hH (n := 43) (kf_12_4 hk0) b1 dX12_page_69 ?_
  exact r_iret C0 hH (pj1 h) (pj2 h) dX12_page_70
set_option maxRecDepth 100000 in
set_option maxHeartbeats 4000000 in
theorem w_X12_page_b0 {r : Int32} {σ' : Mem} (C0 : Cx E p m c cX12_page 4 s args RX12 meth (some .int))  (k0 : Nat) (v1 : Int32) (v2 : Int32) (hk0 : kd k0 = 12) {σ : Mem} {H : Heap} {locs : List Loc} {ls : Array Slot} (hH : Hs E s σ H locs) (hl : lv_has ls 4 [(0, .ref (ea E k0)), (1, .int v1), (2, .int v2)]) (h : X12_page_b0 k0 v1 v2 σ = some (r, σ')) : W p l e (rmD 6) s m args below meth c H locs 0 0 (MQ below (QiM E r σ') args s 0 0 (eA E)) (F0 m 0 ls []) := by
  obtain ⟨⟨hx, hb, hml, hown, hts⟩, hr, hlocks, hF, hAd⟩ := id C0
  unfold X12_page_b0 at h
  refine lv_aload_n hx hb dX12_page_0 rfl (lv_at hl 0 rfl) ?_
  refine lv_iload_n hx hb dX12_page_1 rfl (lv_at hl 1 rfl) ?_
  obtain ⟨r1, qr1, h⟩ := ob_s h
  refine go_i hH (va_run_V (As := [.int v1]) (rest := []) C0 hH lk_X12_178 (c_X12_isPage hAd k0 v1 hk0 σ qr1) (by decide) (ci := 12) hk0 (by decide) (cob_12 _ _ _) rfl rfl hl.1 rfl (Nat.le_of_ble_eq_true rfl) dX12_page_2) (fun H locs hH => ?_)
  refine lv_if_ne (tgt := 11) hx hb dX12_page_5 (by decide) (fun c2 => ?_) (fun c2 => ?_)
  · replace h := if_f h c2
    refine lv_iconst (v := 0) hx hb dX12_page_11 (by decide) ?_
    refine lv_istore_n (lv' := [(3, .int 0), (0, .ref (ea E k0)), (1, .int v1), (2, .int v2)]) hx hb dX12_page_12 rfl hl (by decide) rfl (fun ls hl => ?_)
    refine lv_iload_n hx hb dX12_page_13 rfl (lv_at hl 3 rfl) ?_
    by_cases c3 : v2 = 0
    · replace h := if_t h c3
      refine lv_tableIn (off := 42) (tgt := 56) hx hb dX12_page_14 (by rw [c3]; decide) (by rw [c3]; decide) (by rw [c3]; rfl) (by decide) ?_
      exact w_X12_page_b56 C0  k0 v1 v2 hk0 hH (lv_sub hl [1, 2, 3] rfl) h
    · replace h := if_f h c3
      by_cases c4 : v2 = 1
      · replace h := if_t h c4
        refine lv_tableIn (off := 42) (tgt := 56) hx hb dX12_page_14 (by rw [c4]; decide) (by rw [c4]; decide) (by rw [c4]; rfl) (by decide) ?_
        exact w_X12_page_b56 C0  k0 v1 v2 hk0 hH (lv_sub hl [1, 2, 3] rfl) h
      · replace h := if_f h c4
        by_cases c5 : v2 = 2
        · replace h := if_t h c5
          refine lv_tableIn (off := 42) (tgt := 56) hx hb dX12_page_14 (by rw [c5]; decide) (by rw [c5]; decide) (by rw [c5]; rfl) (by decide) ?_
          exact w_X12_page_b56 C0  k0 v1 v2 hk0 hH (lv_sub hl [1, 2, 3] rfl) h
        · replace h := if_f h c5
          by_cases c6 : v2 = 3
          · replace h := if_t h c6
            refine lv_tableIn (off := 57) (tgt := 71) hx hb dX12_page_14 (by rw [c6]; decide) (by rw [c6]; decide) (by rw [c6]; rfl) (by decide) ?_
            refine lv_aload_n hx hb dX12_page_71 rfl (lv_at hl 1 rfl) ?_
            obtain ⟨r7, σ8, qr7, h⟩ := ob2_s h
            refine go_i hH (va_run_V (As := []) (rest := []) C0 hH lk_X12_280 (c_X12_layGroups hAd k0 hk0 σ qr7) (by decide) (ci := 12) hk0 (by decide) (cob_12 _ _ _) rfl rfl hl.1 rfl (Nat.le_of_ble_eq_true rfl) dX12_page_72) (fun H locs hH => ?_)
            refine lv_istore_n (lv' := [(3, .int r7), (0, .ref (ea E k0)), (1, .int v1), (2, .int v2)]) hx hb dX12_page_75 rfl hl (by decide) rfl (fun ls hl => ?_)
            refine lv_aload_n hx hb dX12_page_76 rfl (lv_at hl 1 rfl) ?_
            refine lv_iload_n hx hb dX12_page_77 rfl (lv_at hl 2 rfl) ?_
            obtain ⟨r9, qr9, h⟩ := ob_s h
            refine go_i hH (va_run_V (As := [.int v1]) (rest := []) C0 hH lk_X12_283 (c_X12_groupOf hAd k0 v1 hk0 σ8 qr9) (by decide) (ci := 12) hk0 (by decide) (cob_12 _ _ _) rfl rfl hl.1 rfl (Nat.le_of_ble_eq_true rfl) dX12_page_78) (fun H locs hH => ?_)
            exact r_iret C0 hH (pj1 h) (pj2 h) dX12_page_81
          · replace h := if_f h c6
            by_cases c10 : v2 = 4
            · replace h := if_t h c10
              refine lv_tableIn (off := 68) (tgt := 82) hx hb dX12_page_14 (by rw [c10]; decide) (by rw [c10]; decide) (by rw [c10]; rfl) (by decide) ?_
              refine lv_aload_n hx hb dX12_page_82 rfl (lv_at hl 1 rfl) ?_
              refine lv_aload_n hx hb dX12_page_83 rfl (lv_at hl 1 rfl) ?_
              refine gf_X12_19 C0 hH hk0 dX12_page_84 ?_
              obtain ⟨r11, σ12, qr11, h⟩ := ob2_s h
              refine go_i hH (va_run_V (As := [.ref (ea E (k0 + 4))]) (rest := []) C0 hH lk_X12_249 (c_X12_layHands hAd k0 (k0 + 4) hk0 (kf_12_4 hk0) σ qr11) (by decide) (ci := 12) hk0 (by decide) (cob_12 _ _ _) rfl rfl hl.1 rfl (Nat.le_of_ble_eq_true rfl) dX12_page_87) (fun H locs hH => ?_)
              refine lv_istore_n (lv' := [(3, .int r11), (0, .ref (ea E k0)), (1, .int v1), (2, .int v2)]) hx hb dX12_page_90 rfl hl (by decide) rfl (fun ls hl => ?_)
              refine lv_aload_n hx hb dX12_page_91 rfl (lv_at hl 1 rfl) ?_
              refine gf_X12_46 C0 hH hk0 dX12_page_92 ?_
              refine lv_iload_n hx hb dX12_page_95 rfl (lv_at hl 2 rfl) ?_
              obtain ⟨b13, h⟩ := gdx_s h
              refine r_iald C0 hH (n := 10) (kf_12_22 hk0) b13 dX12_page_96 ?_
              exact r_iret C0 hH (pj1 h) (pj2 h) dX12_page_97
            · replace h := if_f h c10
              by_cases c14 : v2 = 5
              · replace h := if_t h c14
                refine lv_tableIn (off := 84) (tgt := 98) hx hb dX12_page_14 (by rw [c14]; decide) (by rw [c14]; decide) (by rw [c14]; rfl) (by decide) ?_
                refine lv_aload_n hx hb dX12_page_98 rfl (lv_at hl 1 rfl) ?_
                refine lv_aload_n hx hb dX12_page_99 rfl (lv_at hl 1 rfl) ?_
                refine gf_X12_19 C0 hH hk0 dX12_page_100 ?_
                obtain ⟨r15, σ16, qr15, h⟩ := ob2_s h
                refine go_i hH (va_run_V (As := [.ref (ea E (k0 + 4))]) (rest := []) C0 hH lk_X12_249 (c_X12_layHands hAd k0 (k0 + 4) hk0 (kf_12_4 hk0) σ qr15) (by decide) (ci := 12) hk0 (by decide) (cob_12 _ _ _) rfl rfl hl.1 rfl (Nat.le_of_ble_eq_true rfl) dX12_page_103) (fun H locs hH => ?_)
                refine lv_istore_n (lv' := [(3, .int r15), (0, .ref (ea E k0)), (1, .int v1), (2, .int v2)]) hx hb dX12_page_106 rfl hl (by decide) rfl (fun ls hl => ?_)
                refine lv_aload_n hx hb dX12_page_107 rfl (lv_at hl 1 rfl) ?_
                refine lv_iload_n hx hb dX12_page_108 rfl (lv_at hl 2 rfl) ?_
                refine lv_iload_n hx hb dX12_page_109 rfl (lv_at hl 0 rfl) ?_
                obtain ⟨r17, qr17, h⟩ := ob_s h
                refine go_i hH (va_run_V (As := [.int v1, .int r15]) (rest := []) C0 hH lk_X12_246 (c_X12_isInDoubt hAd k0 v1 r15 hk0 σ16 qr17) (by decide) (ci := 12) hk0 (by decide) (cob_12 _ _ _) rfl rfl hl.1 rfl (Nat.le_of_ble_eq_true rfl) dX12_page_110) (fun H locs hH => ?_)
                refine lv_if_eq (tgt := 120) hx hb dX12_page_113 (by decide) (fun c18 => ?_) (fun c18 => ?_)
                · replace h := if_t h c18
                  refine lv_iconst (v := 0) hx hb dX12_page_120 (by decide) ?_
                  exact r_iret C0 hH (pj1 h) (pj2 h) dX12_page_121
                · replace h := if_f h c18
                  refine lv_iconst (v := 1) hx hb dX12_page_116 (by decide) ?_
                  refine lv_goto (tgt := 121) hx hb dX12_page_117 (by decide) ?_
                  exact r_iret C0 hH (pj1 h) (pj2 h) dX12_page_121
              · replace h := if_f h c14
                by_cases c19 : v2 = 6
                · replace h := if_t h c19
                  refine lv_tableIn (off := 108) (tgt := 122) hx hb dX12_page_14 (by rw [c19]; decide) (by rw [c19]; decide) (by rw [c19]; rfl) (by decide) ?_
                  refine lv_aload_n hx hb dX12_page_122 rfl (lv_at hl 1 rfl) ?_
                  obtain ⟨r20, σ21, qr20, h⟩ := ob2_s h
                  refine go_i hH (va_run_V (As := []) (rest := []) C0 hH lk_X12_268 (c_X12_layRuns hAd k0 hk0 σ qr20) (by decide) (ci := 12) hk0 (by decide) (cob_12 _ _ _) rfl rfl hl.1 rfl (Nat.le_of_ble_eq_true rfl) dX12_page_123) (fun H locs hH => ?_)
                  refine lv_istore_n (lv' := [(3, .int r20), (0, .ref (ea E k0)), (1, .int v1), (2, .int v2)]) hx hb dX12_page_126 rfl hl (by decide) rfl (fun ls hl => ?_)
                  refine lv_aload_n hx hb dX12_page_127 rfl (lv_at hl 1 rfl) ?_
                  refine lv_iload_n hx hb dX12_page_128 rfl (lv_at hl 2 rfl) ?_
                  refine lv_iload_n hx hb dX12_page_129 rfl (lv_at hl 0 rfl) ?_
                  obtain ⟨r22, qr22, h⟩ := ob_s h
                  refine go_i hH (va_run_V (As := [.int v1, .int r20]) (rest := []) C0 hH lk_X12_286 (c_X12_runOf hAd k0 v1 r20 hk0 σ21 qr22) (by decide) (ci := 12) hk0 (by decide) (cob_12 _ _ _) rfl rfl hl.1 rfl (Nat.le_of_ble_eq_true rfl) dX12_page_130) (fun H locs hH => ?_)
                  exact r_iret C0 hH (pj1 h) (pj2 h) dX12_page_133
                · replace h := if_f h c19
                  refine lv_tableOut (tgt := 134) hx hb dX12_page_14 (by have := i32_nv (v := 0) c3 (by decide); have := i32_nv (v := 1) c4 (by decide); have := i32_nv (v := 2) c5 (by decide); have := i32_nv (v := 3) c6 (by decide); have := i32_nv (v := 4) c10 (by decide); have := i32_nv (v := 5) c14 (by decide); have := i32_nv (v := 6) c19 (by decide); omega) (by decide) ?_
                  refine lv_ldc hx hb hown (hts _ qK_X12_85) dX12_page_134 ?_
                  exact r_iret C0 hH (pj1 h) (pj2 h) dX12_page_136
  · replace h := if_t h c2
    refine lv_ldc hx hb hown (hts _ qK_X12_85) dX12_page_8 ?_
    exact r_iret C0 hH (pj1 h) (pj2 h) dX12_page_10
theorem c_X12_page {l : Launch} {E : EnvT} (hAd : Ad E) (k0 : Nat) (v1 : Int32) (v2 : Int32) (hk0 : kd k0 = 12) (σ : Mem) {r : Int32} {σ' : Mem} (h : X12_page k0 v1 v2 σ = some (r, σ')) : Met l yX12_page (wsM yX12_page cX12_page 4 (some .int)) (rmD 6) (PcM E [.ref (ea E k0), .int v1, .int v2] σ) (QiM E r σ') 0 0 (eA E) :=
  Met.ofM (by decide) (Nat.le_of_ble_eq_true rfl) (fun p e s m below meth c ls C0 hH hl => w_X12_page_b0 C0 k0 v1 v2 hk0 hH hl h) hAd
set_option maxRecDepth 100000 in
set_option maxHeartbeats 4000000 in
theorem w_X12_whole_b123 {r : Int32} {σ' : Mem} (C0 : Cx E p m c cX12_whole 3 s args RX12 meth (some .int))  (k0 : Nat) (v1 : Int32) (hk0 : kd k0 = 12) {σ : Mem} {H : Heap} {locs : List Loc} {ls : Array Slot} (hH : Hs E s σ H locs) (hl : lv_has ls 3 [(0, .ref (ea E k0)), (1, .int v1)]) (h : X12_whole_b123 k0 v1 σ = some (r, σ')) : W p l e (rmD 7) s m args below meth c H locs 0 0 (MQ below (QiM E r σ') args s 0 0 (eA E)) (F0 m 123 ls []) := by
  obtain ⟨⟨hx, hb, hml, hown, hts⟩, hr, hlocks, hF, hAd⟩ := id C0
  unfold X12_whole_b123 at h
  refine lv_aload_n hx hb dX12_whole_123 rfl (lv_at hl 0 rfl) ?_
  refine gf_X12_19 C0 hH hk0 dX12_whole_124 ?_
  refine lv_iconst (v := 1) hx hb dX12_whole_127 (by decide) ?_
  refine lv_iload_n hx hb dX12_whole_128 rfl (lv_at hl 1 rfl) ?_
  refine lv_iadd hx hb dX12_whole_129 ?_
  refine lv_bipush (v := 6) hx hb dX12_whole_130 (by decide) ?_
  refine lv_isub hx hb dX12_whole_132 ?_
  obtain ⟨b1, h⟩ := gdx_s h
  refine r_iald C0 hH (n := 43) (kf_12_4 hk0) b1 dX12_whole_133 ?_
  exact r_iret C0 hH (pj1 h) (pj2 h) dX12_whole_134
set_option maxRecDepth 100000 in
set_option maxHeartbeats 4000000 in
theorem w_X12_whole_b0 {r : Int32} {σ' : Mem} (C0 : Cx E p m c cX12_whole 3 s args RX12 meth (some .int))  (k0 : Nat) (v1 : Int32) (hk0 : kd k0 = 12) {σ : Mem} {H : Heap} {locs : List Loc} {ls : Array Slot} (hH : Hs E s σ H locs) (hl : lv_has ls 3 [(0, .ref (ea E k0)), (1, .int v1)]) (h : X12_whole_b0 k0 v1 σ = some (r, σ')) : W p l e (rmD 7) s m args below meth c H locs 0 0 (MQ below (QiM E r σ') args s 0 0 (eA E)) (F0 m 0 ls []) := by
  obtain ⟨⟨hx, hb, hml, hown, hts⟩, hr, hlocks, hF, hAd⟩ := id C0
  unfold X12_whole_b0 at h
  refine lv_aload_n hx hb dX12_whole_0 rfl (lv_at hl 0 rfl) ?_
  obtain ⟨r1, qr1, h⟩ := ob_s h
  refine go_i hH (va_run_V (As := []) (rest := []) C0 hH lk_X12_159 (c_X12_isThere hAd k0 hk0 σ qr1) (by decide) (ci := 12) hk0 (by decide) (cob_12 _ _ _) rfl rfl hl.1 rfl (Nat.le_of_ble_eq_true rfl) dX12_whole_1) (fun H locs hH => ?_)
  refine lv_if_ne (tgt := 10) hx hb dX12_whole_4 (by decide) (fun c2 => ?_) (fun c2 => ?_)
  · replace h := if_f h c2
    refine lv_iconst (v := 0) hx hb dX12_whole_10 (by decide) ?_
    refine lv_istore_n (lv' := [(2, .int 0), (0, .ref (ea E k0)), (1, .int v1)]) hx hb dX12_whole_11 rfl hl (by decide) rfl (fun ls hl => ?_)
    refine lv_iload_n hx hb dX12_whole_12 rfl (lv_at hl 2 rfl) ?_
    by_cases c3 : v1 = 0
    · replace h := if_t h c3
      refine lv_tableIn (off := 51) (tgt := 64) hx hb dX12_whole_13 (by rw [c3]; decide) (by rw [c3]; decide) (by rw [c3]; rfl) (by decide) ?_
      refine lv_aload_n hx hb dX12_whole_64 rfl (lv_at hl 1 rfl) ?_
      refine lv_aload_n hx hb dX12_whole_65 rfl (lv_at hl 1 rfl) ?_
      refine gf_X12_19 C0 hH hk0 dX12_whole_66 ?_
      obtain ⟨r4, σ5, qr4, h⟩ := ob2_s h
      refine go_i hH (va_run_V (As := [.ref (ea E (k0 + 4))]) (rest := []) C0 hH lk_X12_249 (c_X12_layHands hAd k0 (k0 + 4) hk0 (kf_12_4 hk0) σ qr4) (by decide) (ci := 12) hk0 (by decide) (cob_12 _ _ _) rfl rfl hl.1 rfl (Nat.le_of_ble_eq_true rfl) dX12_whole_69) (fun H locs hH => ?_)
      exact r_iret C0 hH (pj1 h) (pj2 h) dX12_whole_72
    · replace h := if_f h c3
      by_cases c6 : v1 = 1
      · replace h := if_t h c6
        refine lv_tableIn (off := 60) (tgt := 73) hx hb dX12_whole_13 (by rw [c6]; decide) (by rw [c6]; decide) (by rw [c6]; rfl) (by decide) ?_
        refine lv_aload_n hx hb dX12_whole_73 rfl (lv_at hl 1 rfl) ?_
        refine lv_aload_n hx hb dX12_whole_74 rfl (lv_at hl 1 rfl) ?_
        refine gf_X12_19 C0 hH hk0 dX12_whole_75 ?_
        obtain ⟨r7, σ8, qr7, h⟩ := ob2_s h
        refine go_i hH (va_run_V (As := [.ref (ea E (k0 + 4))]) (rest := []) C0 hH lk_X12_249 (c_X12_layHands hAd k0 (k0 + 4) hk0 (kf_12_4 hk0) σ qr7) (by decide) (ci := 12) hk0 (by decide) (cob_12 _ _ _) rfl rfl hl.1 rfl (Nat.le_of_ble_eq_true rfl) dX12_whole_78) (fun H locs hH => ?_)
        refine lv_istore_n (lv' := [(2, .int r7), (0, .ref (ea E k0)), (1, .int v1)]) hx hb dX12_whole_81 rfl hl (by decide) rfl (fun ls hl => ?_)
        refine lv_aload_n hx hb dX12_whole_82 rfl (lv_at hl 1 rfl) ?_
        refine lv_iload_n hx hb dX12_whole_83 rfl (lv_at hl 0 rfl) ?_
        obtain ⟨r9, qr9, h⟩ := ob_s h
        refine go_i hH (va_run_V (As := [.int r7]) (rest := []) C0 hH lk_X12_289 (c_X12_doubts hAd k0 r7 hk0 σ8 qr9) (by decide) (ci := 12) hk0 (by decide) (cob_12 _ _ _) rfl rfl hl.1 rfl (Nat.le_of_ble_eq_true rfl) dX12_whole_84) (fun H locs hH => ?_)
        exact r_iret C0 hH (pj1 h) (pj2 h) dX12_whole_87
      · replace h := if_f h c6
        by_cases c10 : v1 = 2
        · replace h := if_t h c10
          refine lv_tableIn (off := 75) (tgt := 88) hx hb dX12_whole_13 (by rw [c10]; decide) (by rw [c10]; decide) (by rw [c10]; rfl) (by decide) ?_
          refine lv_aload_n hx hb dX12_whole_88 rfl (lv_at hl 1 rfl) ?_
          obtain ⟨r11, σ12, qr11, h⟩ := ob2_s h
          refine go_i hH (va_run_V (As := []) (rest := []) C0 hH lk_X12_268 (c_X12_layRuns hAd k0 hk0 σ qr11) (by decide) (ci := 12) hk0 (by decide) (cob_12 _ _ _) rfl rfl hl.1 rfl (Nat.le_of_ble_eq_true rfl) dX12_whole_89) (fun H locs hH => ?_)
          exact r_iret C0 hH (pj1 h) (pj2 h) dX12_whole_92
        · replace h := if_f h c10
          by_cases c13 : v1 = 3
          · replace h := if_t h c13
            refine lv_tableIn (off := 80) (tgt := 93) hx hb dX12_whole_13 (by rw [c13]; decide) (by rw [c13]; decide) (by rw [c13]; rfl) (by decide) ?_
            refine lv_aload_n hx hb dX12_whole_93 rfl (lv_at hl 1 rfl) ?_
            obtain ⟨r14, σ15, qr14, h⟩ := ob2_s h
            refine go_i hH (va_run_V (As := []) (rest := []) C0 hH lk_X12_268 (c_X12_layRuns hAd k0 hk0 σ qr14) (by decide) (ci := 12) hk0 (by decide) (cob_12 _ _ _) rfl rfl hl.1 rfl (Nat.le_of_ble_eq_true rfl) dX12_whole_94) (fun H locs hH => ?_)
            refine lv_istore_n (lv' := [(2, .int r14), (0, .ref (ea E k0)), (1, .int v1)]) hx hb dX12_whole_97 rfl hl (by decide) rfl (fun ls hl => ?_)
            refine lv_aload_n hx hb dX12_whole_98 rfl (lv_at hl 1 rfl) ?_
            refine gf_X12_265 C0 hH hk0 dX12_whole_99 ?_
            exact r_iret C0 hH (pj1 h) (pj2 h) dX12_whole_102
          · replace h := if_f h c13
            by_cases c16 : v1 = 4
            · replace h := if_t h c16
              refine lv_tableIn (off := 90) (tgt := 103) hx hb dX12_whole_13 (by rw [c16]; decide) (by rw [c16]; decide) (by rw [c16]; rfl) (by decide) ?_
              refine lv_aload_n hx hb dX12_whole_103 rfl (lv_at hl 1 rfl) ?_
              obtain ⟨r17, σ18, qr17, h⟩ := ob2_s h
              refine go_i hH (va_run_V (As := []) (rest := []) C0 hH lk_X12_280 (c_X12_layGroups hAd k0 hk0 σ qr17) (by decide) (ci := 12) hk0 (by decide) (cob_12 _ _ _) rfl rfl hl.1 rfl (Nat.le_of_ble_eq_true rfl) dX12_whole_104) (fun H locs hH => ?_)
              exact r_iret C0 hH (pj1 h) (pj2 h) dX12_whole_107
            · replace h := if_f h c16
              by_cases c19 : v1 = 5
              · replace h := if_t h c19
                refine lv_tableIn (off := 95) (tgt := 108) hx hb dX12_whole_13 (by rw [c19]; decide) (by rw [c19]; decide) (by rw [c19]; rfl) (by decide) ?_
                refine lv_aload_n hx hb dX12_whole_108 rfl (lv_at hl 1 rfl) ?_
                refine gf_X12_19 C0 hH hk0 dX12_whole_109 ?_
                refine lv_aload_n hx hb dX12_whole_112 rfl (lv_at hl 1 rfl) ?_
                refine gf_X12_19 C0 hH hk0 dX12_whole_113 ?_
                obtain ⟨r20, qr20, h⟩ := ob_s h
                refine go_i hH (va_run_S (As := [.ref (ea E (k0 + 4))]) (rest := [.ref (ea E (k0 + 4))]) C0 hH lk_X12_204 (c_X12_allOf hAd (k0 + 4) (kf_12_4 hk0) σ qr20) (by decide) rfl hl.1 rfl (Nat.le_of_ble_eq_true rfl) dX12_whole_116) (fun H locs hH => ?_)
                obtain ⟨r21, qr21, h⟩ := ob_s h
                refine go_i hH (va_run_S (As := [.ref (ea E (k0 + 4)), .int r20]) (rest := []) C0 hH lk_X12_208 (c_X12_spreadOf hAd (k0 + 4) r20 (kf_12_4 hk0) σ qr21) (by decide) rfl hl.1 rfl (Nat.le_of_ble_eq_true rfl) dX12_whole_119) (fun H locs hH => ?_)
                exact r_iret C0 hH (pj1 h) (pj2 h) dX12_whole_122
              · replace h := if_f h c19
                by_cases c22 : v1 = 6
                · replace h := if_t h c22
                  refine lv_tableIn (off := 110) (tgt := 123) hx hb dX12_whole_13 (by rw [c22]; decide) (by rw [c22]; decide) (by rw [c22]; rfl) (by decide) ?_
                  exact w_X12_whole_b123 C0  k0 v1 hk0 hH (lv_sub hl [1, 2] rfl) h
                · replace h := if_f h c22
                  by_cases c23 : v1 = 7
                  · replace h := if_t h c23
                    refine lv_tableIn (off := 110) (tgt := 123) hx hb dX12_whole_13 (by rw [c23]; decide) (by rw [c23]; decide) (by rw [c23]; rfl) (by decide) ?_
                    exact w_X12_whole_b123 C0  k0 v1 hk0 hH (lv_sub hl [1, 2] rfl) h
                  · replace h := if_f h c23
                    by_cases c24 : v1 = 8
                    · replace h := if_t h c24
                      refine lv_tableIn (off := 122) (tgt := 135) hx hb dX12_whole_13 (by rw [c24]; decide) (by rw [c24]; decide) (by rw [c24]; rfl) (by decide) ?_
                      refine lv_aload_n hx hb dX12_whole_135 rfl (lv_at hl 1 rfl) ?_
                      obtain ⟨σ25, qσ25, h⟩ := ob_s h
                      refine go_v hH (va_run_V (As := []) (rest := []) C0 hH lk_X12_277 (c_X12_layWritten hAd k0 hk0 σ qσ25) (by decide) (ci := 12) hk0 (by decide) (cob_12 _ _ _) rfl rfl hl.1 rfl (Nat.le_of_ble_eq_true rfl) dX12_whole_136) (fun H locs hH => ?_)
                      refine lv_aload_n hx hb dX12_whole_139 rfl (lv_at hl 1 rfl) ?_
                      refine gf_X12_271 C0 hH hk0 dX12_whole_140 ?_
                      exact r_iret C0 hH (pj1 h) (pj2 h) dX12_whole_143
                    · replace h := if_f h c24
                      refine lv_tableOut (tgt := 144) hx hb dX12_whole_13 (by have := i32_nv (v := 0) c3 (by decide); have := i32_nv (v := 1) c6 (by decide); have := i32_nv (v := 2) c10 (by decide); have := i32_nv (v := 3) c13 (by decide); have := i32_nv (v := 4) c16 (by decide); have := i32_nv (v := 5) c19 (by decide); have := i32_nv (v := 6) c22 (by decide); have := i32_nv (v := 7) c23 (by decide); have := i32_nv (v := 8) c24 (by decide); omega) (by decide) ?_
                      refine lv_ldc hx hb hown (hts _ qK_X12_85) dX12_whole_144 ?_
                      exact r_iret C0 hH (pj1 h) (pj2 h) dX12_whole_146
  · replace h := if_t h c2
    refine lv_ldc hx hb hown (hts _ qK_X12_158) dX12_whole_7 ?_
    exact r_iret C0 hH (pj1 h) (pj2 h) dX12_whole_9
theorem c_X12_whole {l : Launch} {E : EnvT} (hAd : Ad E) (k0 : Nat) (v1 : Int32) (hk0 : kd k0 = 12) (σ : Mem) {r : Int32} {σ' : Mem} (h : X12_whole k0 v1 σ = some (r, σ')) : Met l yX12_whole (wsM yX12_whole cX12_whole 3 (some .int)) (rmD 7) (PcM E [.ref (ea E k0), .int v1] σ) (QiM E r σ') 0 0 (eA E) :=
  Met.ofM (by decide) (Nat.le_of_ble_eq_true rfl) (fun p e s m below meth c ls C0 hH hl => w_X12_whole_b0 C0 k0 v1 hk0 hH hl h) hAd
set_option maxRecDepth 100000 in
set_option maxHeartbeats 4000000 in
theorem w_X12_isAt_b0 {r : Int32} (C0 : Cx E p m c cX12_isAt 3 s args RX12 meth (some .boolean))  (k0 : Nat) (v1 : Int32) (v2 : Int32) (hk0 : kd k0 = 12) {σ : Mem} {H : Heap} {locs : List Loc} {ls : Array Slot} (hH : Hs E s σ H locs) (hl : lv_has ls 3 [(0, .ref (ea E k0)), (1, .int v1), (2, .int v2)]) (h : X12_isAt_b0 k0 v1 v2 σ = some r) : W p l e (rmD 0) s m args below meth c H locs 0 0 (MQ below (QiM E r σ) args s 0 0 (eA E)) (F0 m 0 ls []) := by
  obtain ⟨⟨hx, hb, hml, hown, hts⟩, hr, hlocks, hF, hAd⟩ := id C0
  unfold X12_isAt_b0 at h
  refine lv_iload_n hx hb dX12_isAt_0 rfl (lv_at hl 2 rfl) ?_
  refine lv_if_ne (tgt := 20) hx hb dX12_isAt_1 (by decide) (fun c1 => ?_) (fun c1 => ?_)
  · replace h := if_f h c1
    refine lv_iload_n hx hb dX12_isAt_20 rfl (lv_at hl 1 rfl) ?_
    refine lv_aload_n hx hb dX12_isAt_21 rfl (lv_at hl 0 rfl) ?_
    refine gf_X12_96 C0 hH hk0 dX12_isAt_22 ?_
    refine lv_icmp_ge (tgt := 42) hx hb dX12_isAt_25 (by decide) (fun c2 => ?_) (fun c2 => ?_)
    · replace h := if_t h c2
      refine lv_iconst (v := 0) hx hb dX12_isAt_42 (by decide) ?_
      exact r_zret C0 rfl hH (Option.some.inj h) rfl dX12_isAt_43
    · replace h := if_f h c2
      refine lv_aload_n hx hb dX12_isAt_28 rfl (lv_at hl 0 rfl) ?_
      refine gf_X12_31 C0 hH hk0 dX12_isAt_29 ?_
      refine lv_iload_n hx hb dX12_isAt_32 rfl (lv_at hl 1 rfl) ?_
      obtain ⟨b3, h⟩ := gdx_s h
      refine r_iald C0 hH (n := 130) (kf_12_9 hk0) b3 dX12_isAt_33 ?_
      refine lv_iload_n hx hb dX12_isAt_34 rfl (lv_at hl 2 rfl) ?_
      refine lv_icmp_ne (tgt := 42) hx hb dX12_isAt_35 (by decide) (fun c4 => ?_) (fun c4 => ?_)
      · replace h := if_f h c4
        refine lv_iconst (v := 0) hx hb dX12_isAt_42 (by decide) ?_
        exact r_zret C0 rfl hH (Option.some.inj h) rfl dX12_isAt_43
      · replace h := if_t h c4
        refine lv_iconst (v := 1) hx hb dX12_isAt_38 (by decide) ?_
        refine lv_goto (tgt := 43) hx hb dX12_isAt_39 (by decide) ?_
        exact r_zret C0 rfl hH (Option.some.inj h) rfl dX12_isAt_43
  · replace h := if_t h c1
    refine lv_aload_n hx hb dX12_isAt_4 rfl (lv_at hl 0 rfl) ?_
    refine gf_X12_96 C0 hH hk0 dX12_isAt_5 ?_
    refine lv_iload_n hx hb dX12_isAt_8 rfl (lv_at hl 1 rfl) ?_
    refine lv_icmp_gt (tgt := 16) hx hb dX12_isAt_9 (by decide) (fun c5 => ?_) (fun c5 => ?_)
    · replace h := if_t h c5
      refine lv_iconst (v := 0) hx hb dX12_isAt_16 (by decide) ?_
      refine lv_goto (tgt := 43) hx hb dX12_isAt_17 (by decide) ?_
      exact r_zret C0 rfl hH (Option.some.inj h) rfl dX12_isAt_43
    · replace h := if_f h c5
      refine lv_iconst (v := 1) hx hb dX12_isAt_12 (by decide) ?_
      refine lv_goto (tgt := 43) hx hb dX12_isAt_13 (by decide) ?_
      exact r_zret C0 rfl hH (Option.some.inj h) rfl dX12_isAt_43
theorem c_X12_isAt {l : Launch} {E : EnvT} (hAd : Ad E) (k0 : Nat) (v1 : Int32) (v2 : Int32) (hk0 : kd k0 = 12) (σ : Mem) {r : Int32} (h : X12_isAt k0 v1 v2 σ = some r) : Met l yX12_isAt (wsM yX12_isAt cX12_isAt 3 (some .boolean)) (rmD 0) (PcM E [.ref (ea E k0), .int v1, .int v2] σ) (QiM E r σ) 0 0 (eA E) :=
  Met.ofM (by decide) (Nat.le_of_ble_eq_true rfl) (fun p e s m below meth c ls C0 hH hl => w_X12_isAt_b0 C0 k0 v1 v2 hk0 hH hl h) hAd
set_option maxRecDepth 100000 in
set_option maxHeartbeats 4000000 in
theorem w_X12_isTold_b0 {r : Int32} (C0 : Cx E p m c cX12_isTold 7 s args RX12 meth (some .boolean))  (k0 : Nat) (v1 : Int32) (v2 : Int32) (v3 : Int32) (v4 : Int32) (v5 : Int32) (v6 : Int32) (hk0 : kd k0 = 12) {σ : Mem} {H : Heap} {locs : List Loc} {ls : Array Slot} (hH : Hs E s σ H locs) (hl : lv_has ls 7 [(0, .ref (ea E k0)), (1, .int v1), (2, .int v2), (3, .int v3), (4, .int v4), (5, .int v5), (6, .int v6)]) (h : X12_isTold_b0 k0 v1 v2 v3 v4 v5 v6 σ = some r) : W p l e (rmD 1) s m args below meth c H locs 0 0 (MQ below (QiM E r σ) args s 0 0 (eA E)) (F0 m 0 ls []) := by
  obtain ⟨⟨hx, hb, hml, hown, hts⟩, hr, hlocks, hF, hAd⟩ := id C0
  unfold X12_isTold_b0 at h
  refine lv_aload_n hx hb dX12_isTold_0 rfl (lv_at hl 0 rfl) ?_
  refine lv_iconst (v := 0) hx hb dX12_isTold_1 (by decide) ?_
  refine lv_iload_n hx hb dX12_isTold_2 rfl (lv_at hl 1 rfl) ?_
  obtain ⟨r1, qr1, h⟩ := ob_s h
  refine go_i hH (va_run_V (As := [.int 0, .int v1]) (rest := []) C0 hH lk_X12_292 (c_X12_isAt hAd k0 0 v1 hk0 σ qr1) (by decide) (ci := 12) hk0 (by decide) (cob_12 _ _ _) rfl rfl hl.1 rfl (Nat.le_of_ble_eq_true rfl) dX12_isTold_3) (fun H locs hH => ?_)
  refine lv_if_eq (tgt := 70) hx hb dX12_isTold_6 (by decide) (fun c2 => ?_) (fun c2 => ?_)
  · replace h := if_t h c2
    refine lv_iconst (v := 0) hx hb dX12_isTold_70 (by decide) ?_
    exact r_zret C0 rfl hH (Option.some.inj h) rfl dX12_isTold_71
  · replace h := if_f h c2
    refine lv_aload_n hx hb dX12_isTold_9 rfl (lv_at hl 0 rfl) ?_
    refine lv_iconst (v := 1) hx hb dX12_isTold_10 (by decide) ?_
    refine lv_iload_n hx hb dX12_isTold_11 rfl (lv_at hl 2 rfl) ?_
    obtain ⟨r3, qr3, h⟩ := ob_s h
    refine go_i hH (va_run_V (As := [.int 1, .int v2]) (rest := []) C0 hH lk_X12_292 (c_X12_isAt hAd k0 1 v2 hk0 σ qr3) (by decide) (ci := 12) hk0 (by decide) (cob_12 _ _ _) rfl rfl hl.1 rfl (Nat.le_of_ble_eq_true rfl) dX12_isTold_12) (fun H locs hH => ?_)
    refine lv_if_eq (tgt := 70) hx hb dX12_isTold_15 (by decide) (fun c4 => ?_) (fun c4 => ?_)
    · replace h := if_t h c4
      refine lv_iconst (v := 0) hx hb dX12_isTold_70 (by decide) ?_
      exact r_zret C0 rfl hH (Option.some.inj h) rfl dX12_isTold_71
    · replace h := if_f h c4
      refine lv_aload_n hx hb dX12_isTold_18 rfl (lv_at hl 0 rfl) ?_
      refine lv_iconst (v := 2) hx hb dX12_isTold_19 (by decide) ?_
      refine lv_iload_n hx hb dX12_isTold_20 rfl (lv_at hl 3 rfl) ?_
      obtain ⟨r5, qr5, h⟩ := ob_s h
      refine go_i hH (va_run_V (As := [.int 2, .int v3]) (rest := []) C0 hH lk_X12_292 (c_X12_isAt hAd k0 2 v3 hk0 σ qr5) (by decide) (ci := 12) hk0 (by decide) (cob_12 _ _ _) rfl rfl hl.1 rfl (Nat.le_of_ble_eq_true rfl) dX12_isTold_21) (fun H locs hH => ?_)
      refine lv_if_eq (tgt := 70) hx hb dX12_isTold_24 (by decide) (fun c6 => ?_) (fun c6 => ?_)
      · replace h := if_t h c6
        refine lv_iconst (v := 0) hx hb dX12_isTold_70 (by decide) ?_
        exact r_zret C0 rfl hH (Option.some.inj h) rfl dX12_isTold_71
      · replace h := if_f h c6
        refine lv_aload_n hx hb dX12_isTold_27 rfl (lv_at hl 0 rfl) ?_
        refine lv_iconst (v := 3) hx hb dX12_isTold_28 (by decide) ?_
        refine lv_iload hx hb dX12_isTold_29 (lv_at hl 4 rfl) ?_
        obtain ⟨r7, qr7, h⟩ := ob_s h
        refine go_i hH (va_run_V (As := [.int 3, .int v4]) (rest := []) C0 hH lk_X12_292 (c_X12_isAt hAd k0 3 v4 hk0 σ qr7) (by decide) (ci := 12) hk0 (by decide) (cob_12 _ _ _) rfl rfl hl.1 rfl (Nat.le_of_ble_eq_true rfl) dX12_isTold_31) (fun H locs hH => ?_)
        refine lv_if_eq (tgt := 70) hx hb dX12_isTold_34 (by decide) (fun c8 => ?_) (fun c8 => ?_)
        · replace h := if_t h c8
          refine lv_iconst (v := 0) hx hb dX12_isTold_70 (by decide) ?_
          exact r_zret C0 rfl hH (Option.some.inj h) rfl dX12_isTold_71
        · replace h := if_f h c8
          refine lv_aload_n hx hb dX12_isTold_37 rfl (lv_at hl 0 rfl) ?_
          refine lv_iconst (v := 4) hx hb dX12_isTold_38 (by decide) ?_
          refine lv_iload hx hb dX12_isTold_39 (lv_at hl 5 rfl) ?_
          obtain ⟨r9, qr9, h⟩ := ob_s h
          refine go_i hH (va_run_V (As := [.int 4, .int v5]) (rest := []) C0 hH lk_X12_292 (c_X12_isAt hAd k0 4 v5 hk0 σ qr9) (by decide) (ci := 12) hk0 (by decide) (cob_12 _ _ _) rfl rfl hl.1 rfl (Nat.le_of_ble_eq_true rfl) dX12_isTold_41) (fun H locs hH => ?_)
          refine lv_if_eq (tgt := 70) hx hb dX12_isTold_44 (by decide) (fun c10 => ?_) (fun c10 => ?_)
          · replace h := if_t h c10
            refine lv_iconst (v := 0) hx hb dX12_isTold_70 (by decide) ?_
            exact r_zret C0 rfl hH (Option.some.inj h) rfl dX12_isTold_71
          · replace h := if_f h c10
            refine lv_aload_n hx hb dX12_isTold_47 rfl (lv_at hl 0 rfl) ?_
            refine lv_iconst (v := 5) hx hb dX12_isTold_48 (by decide) ?_
            refine lv_iload hx hb dX12_isTold_49 (lv_at hl 6 rfl) ?_
            obtain ⟨r11, qr11, h⟩ := ob_s h
            refine go_i hH (va_run_V (As := [.int 5, .int v6]) (rest := []) C0 hH lk_X12_292 (c_X12_isAt hAd k0 5 v6 hk0 σ qr11) (by decide) (ci := 12) hk0 (by decide) (cob_12 _ _ _) rfl rfl hl.1 rfl (Nat.le_of_ble_eq_true rfl) dX12_isTold_51) (fun H locs hH => ?_)
            refine lv_if_eq (tgt := 70) hx hb dX12_isTold_54 (by decide) (fun c12 => ?_) (fun c12 => ?_)
            · replace h := if_t h c12
              refine lv_iconst (v := 0) hx hb dX12_isTold_70 (by decide) ?_
              exact r_zret C0 rfl hH (Option.some.inj h) rfl dX12_isTold_71
            · replace h := if_f h c12
              refine lv_aload_n hx hb dX12_isTold_57 rfl (lv_at hl 0 rfl) ?_
              refine gf_X12_96 C0 hH hk0 dX12_isTold_58 ?_
              refine lv_bipush (v := 6) hx hb dX12_isTold_61 (by decide) ?_
              refine lv_icmp_gt (tgt := 70) hx hb dX12_isTold_63 (by decide) (fun c13 => ?_) (fun c13 => ?_)
              · replace h := if_t h c13
                refine lv_iconst (v := 0) hx hb dX12_isTold_70 (by decide) ?_
                exact r_zret C0 rfl hH (Option.some.inj h) rfl dX12_isTold_71
              · replace h := if_f h c13
                refine lv_iconst (v := 1) hx hb dX12_isTold_66 (by decide) ?_
                refine lv_goto (tgt := 71) hx hb dX12_isTold_67 (by decide) ?_
                exact r_zret C0 rfl hH (Option.some.inj h) rfl dX12_isTold_71
theorem c_X12_isTold {l : Launch} {E : EnvT} (hAd : Ad E) (k0 : Nat) (v1 : Int32) (v2 : Int32) (v3 : Int32) (v4 : Int32) (v5 : Int32) (v6 : Int32) (hk0 : kd k0 = 12) (σ : Mem) {r : Int32} (h : X12_isTold k0 v1 v2 v3 v4 v5 v6 σ = some r) : Met l yX12_isTold (wsM yX12_isTold cX12_isTold 7 (some .boolean)) (rmD 1) (PcM E [.ref (ea E k0), .int v1, .int v2, .int v3, .int v4, .int v5, .int v6] σ) (QiM E r σ) 0 0 (eA E) :=
  Met.ofM (by decide) (Nat.le_of_ble_eq_true rfl) (fun p e s m below meth c ls C0 hH hl => w_X12_isTold_b0 C0 k0 v1 v2 v3 v4 v5 v6 hk0 hH hl h) hAd
set_option maxRecDepth 100000 in
set_option maxHeartbeats 4000000 in
theorem w_X12_askedLater_b0 {r : Int32} (C0 : Cx E p m c cX12_askedLater 1 s args RX12 meth (some .int))  (k0 : Nat) (hk0 : kd k0 = 12) {σ : Mem} {H : Heap} {locs : List Loc} {ls : Array Slot} (hH : Hs E s σ H locs) (hl : lv_has ls 1 [(0, .ref (ea E k0))]) (h : X12_askedLater_b0 k0 σ = some r) : W p l e (rmD 2) s m args below meth c H locs 0 0 (MQ below (QiM E r σ) args s 0 0 (eA E)) (F0 m 0 ls []) := by
  obtain ⟨⟨hx, hb, hml, hown, hts⟩, hr, hlocks, hF, hAd⟩ := id C0
  unfold X12_askedLater_b0 at h
  refine lv_aload_n hx hb dX12_askedLater_0 rfl (lv_at hl 0 rfl) ?_
  refine lv_bipush (v := 115) hx hb dX12_askedLater_1 (by decide) ?_
  refine lv_bipush (v := 112) hx hb dX12_askedLater_3 (by decide) ?_
  refine lv_bipush (v := 114) hx hb dX12_askedLater_5 (by decide) ?_
  refine lv_bipush (v := 101) hx hb dX12_askedLater_7 (by decide) ?_
  refine lv_bipush (v := 97) hx hb dX12_askedLater_9 (by decide) ?_
  refine lv_bipush (v := 100) hx hb dX12_askedLater_11 (by decide) ?_
  obtain ⟨r1, qr1, h⟩ := ob_s h
  refine go_i hH (va_run_V (As := [.int 115, .int 112, .int 114, .int 101, .int 97, .int 100]) (rest := []) C0 hH lk_X12_295 (c_X12_isTold hAd k0 115 112 114 101 97 100 hk0 σ qr1) (by decide) (ci := 12) hk0 (by decide) (cob_12 _ _ _) rfl rfl hl.1 rfl (Nat.le_of_ble_eq_true rfl) dX12_askedLater_13) (fun H locs hH => ?_)
  refine lv_if_eq (tgt := 23) hx hb dX12_askedLater_16 (by decide) (fun c2 => ?_) (fun c2 => ?_)
  · replace h := if_t h c2
    refine lv_aload_n hx hb dX12_askedLater_23 rfl (lv_at hl 0 rfl) ?_
    refine lv_bipush (v := 108) hx hb dX12_askedLater_24 (by decide) ?_
    refine lv_bipush (v := 105) hx hb dX12_askedLater_26 (by decide) ?_
    refine lv_bipush (v := 109) hx hb dX12_askedLater_28 (by decide) ?_
    refine lv_bipush (v := 105) hx hb dX12_askedLater_30 (by decide) ?_
    refine lv_bipush (v := 116) hx hb dX12_askedLater_32 (by decide) ?_
    refine lv_iconst (v := 0) hx hb dX12_askedLater_34 (by decide) ?_
    obtain ⟨r3, qr3, h⟩ := ob_s h
    refine go_i hH (va_run_V (As := [.int 108, .int 105, .int 109, .int 105, .int 116, .int 0]) (rest := []) C0 hH lk_X12_295 (c_X12_isTold hAd k0 108 105 109 105 116 0 hk0 σ qr3) (by decide) (ci := 12) hk0 (by decide) (cob_12 _ _ _) rfl rfl hl.1 rfl (Nat.le_of_ble_eq_true rfl) dX12_askedLater_35) (fun H locs hH => ?_)
    refine lv_if_eq (tgt := 46) hx hb dX12_askedLater_38 (by decide) (fun c4 => ?_) (fun c4 => ?_)
    · replace h := if_t h c4
      refine lv_aload_n hx hb dX12_askedLater_46 rfl (lv_at hl 0 rfl) ?_
      refine lv_bipush (v := 99) hx hb dX12_askedLater_47 (by decide) ?_
      refine lv_bipush (v := 104) hx hb dX12_askedLater_49 (by decide) ?_
      refine lv_bipush (v := 97) hx hb dX12_askedLater_51 (by decide) ?_
      refine lv_bipush (v := 110) hx hb dX12_askedLater_53 (by decide) ?_
      refine lv_bipush (v := 103) hx hb dX12_askedLater_55 (by decide) ?_
      refine lv_bipush (v := 101) hx hb dX12_askedLater_57 (by decide) ?_
      obtain ⟨r5, qr5, h⟩ := ob_s h
      refine go_i hH (va_run_V (As := [.int 99, .int 104, .int 97, .int 110, .int 103, .int 101]) (rest := []) C0 hH lk_X12_295 (c_X12_isTold hAd k0 99 104 97 110 103 101 hk0 σ qr5) (by decide) (ci := 12) hk0 (by decide) (cob_12 _ _ _) rfl rfl hl.1 rfl (Nat.le_of_ble_eq_true rfl) dX12_askedLater_59) (fun H locs hH => ?_)
      refine lv_if_eq (tgt := 70) hx hb dX12_askedLater_62 (by decide) (fun c6 => ?_) (fun c6 => ?_)
      · replace h := if_t h c6
        refine lv_aload_n hx hb dX12_askedLater_70 rfl (lv_at hl 0 rfl) ?_
        refine lv_bipush (v := 112) hx hb dX12_askedLater_71 (by decide) ?_
        refine lv_bipush (v := 97) hx hb dX12_askedLater_73 (by decide) ?_
        refine lv_bipush (v := 103) hx hb dX12_askedLater_75 (by decide) ?_
        refine lv_bipush (v := 101) hx hb dX12_askedLater_77 (by decide) ?_
        refine lv_bipush (v := 115) hx hb dX12_askedLater_79 (by decide) ?_
        refine lv_iconst (v := 0) hx hb dX12_askedLater_81 (by decide) ?_
        obtain ⟨r7, qr7, h⟩ := ob_s h
        refine go_i hH (va_run_V (As := [.int 112, .int 97, .int 103, .int 101, .int 115, .int 0]) (rest := []) C0 hH lk_X12_295 (c_X12_isTold hAd k0 112 97 103 101 115 0 hk0 σ qr7) (by decide) (ci := 12) hk0 (by decide) (cob_12 _ _ _) rfl rfl hl.1 rfl (Nat.le_of_ble_eq_true rfl) dX12_askedLater_82) (fun H locs hH => ?_)
        refine lv_if_eq (tgt := 93) hx hb dX12_askedLater_85 (by decide) (fun c8 => ?_) (fun c8 => ?_)
        · replace h := if_t h c8
          refine lv_iconst (v := (-1)) hx hb dX12_askedLater_93 (by decide) ?_
          exact r_iret C0 hH (Option.some.inj h) rfl dX12_askedLater_94
        · replace h := if_f h c8
          refine lv_bipush (v := 9) hx hb dX12_askedLater_88 (by decide) ?_
          refine lv_goto (tgt := 94) hx hb dX12_askedLater_90 (by decide) ?_
          exact r_iret C0 hH (Option.some.inj h) rfl dX12_askedLater_94
      · replace h := if_f h c6
        refine lv_bipush (v := 7) hx hb dX12_askedLater_65 (by decide) ?_
        refine lv_goto (tgt := 94) hx hb dX12_askedLater_67 (by decide) ?_
        exact r_iret C0 hH (Option.some.inj h) rfl dX12_askedLater_94
    · replace h := if_f h c4
      refine lv_bipush (v := 6) hx hb dX12_askedLater_41 (by decide) ?_
      refine lv_goto (tgt := 94) hx hb dX12_askedLater_43 (by decide) ?_
      exact r_iret C0 hH (Option.some.inj h) rfl dX12_askedLater_94
  · replace h := if_f h c2
    refine lv_iconst (v := 5) hx hb dX12_askedLater_19 (by decide) ?_
    refine lv_goto (tgt := 94) hx hb dX12_askedLater_20 (by decide) ?_
    exact r_iret C0 hH (Option.some.inj h) rfl dX12_askedLater_94
theorem c_X12_askedLater {l : Launch} {E : EnvT} (hAd : Ad E) (k0 : Nat) (hk0 : kd k0 = 12) (σ : Mem) {r : Int32} (h : X12_askedLater k0 σ = some r) : Met l yX12_askedLater (wsM yX12_askedLater cX12_askedLater 1 (some .int)) (rmD 2) (PcM E [.ref (ea E k0)] σ) (QiM E r σ) 0 0 (eA E) :=
  Met.ofM (by decide) (Nat.le_of_ble_eq_true rfl) (fun p e s m below meth c ls C0 hH hl => w_X12_askedLater_b0 C0 k0 hk0 hH hl h) hAd
set_option maxRecDepth 100000 in
set_option maxHeartbeats 4000000 in
theorem w_X12_asked_b0 {r : Int32} (C0 : Cx E p m c cX12_asked 1 s args RX12 meth (some .int))  (k0 : Nat) (hk0 : kd k0 = 12) {σ : Mem} {H : Heap} {locs : List Loc} {ls : Array Slot} (hH : Hs E s σ H locs) (hl : lv_has ls 1 [(0, .ref (ea E k0))]) (h : X12_asked_b0 k0 σ = some r) : W p l e (rmD 3) s m args below meth c H locs 0 0 (MQ below (QiM E r σ) args s 0 0 (eA E)) (F0 m 0 ls []) := by
  obtain ⟨⟨hx, hb, hml, hown, hts⟩, hr, hlocks, hF, hAd⟩ := id C0
  unfold X12_asked_b0 at h
  refine lv_aload_n hx hb dX12_asked_0 rfl (lv_at hl 0 rfl) ?_
  refine lv_bipush (v := 104) hx hb dX12_asked_1 (by decide) ?_
  refine lv_bipush (v := 97) hx hb dX12_asked_3 (by decide) ?_
  refine lv_bipush (v := 110) hx hb dX12_asked_5 (by decide) ?_
  refine lv_bipush (v := 100) hx hb dX12_asked_7 (by decide) ?_
  refine lv_bipush (v := 115) hx hb dX12_asked_9 (by decide) ?_
  refine lv_iconst (v := 0) hx hb dX12_asked_11 (by decide) ?_
  obtain ⟨r1, qr1, h⟩ := ob_s h
  refine go_i hH (va_run_V (As := [.int 104, .int 97, .int 110, .int 100, .int 115, .int 0]) (rest := []) C0 hH lk_X12_295 (c_X12_isTold hAd k0 104 97 110 100 115 0 hk0 σ qr1) (by decide) (ci := 12) hk0 (by decide) (cob_12 _ _ _) rfl rfl hl.1 rfl (Nat.le_of_ble_eq_true rfl) dX12_asked_12) (fun H locs hH => ?_)
  refine lv_if_eq (tgt := 22) hx hb dX12_asked_15 (by decide) (fun c2 => ?_) (fun c2 => ?_)
  · replace h := if_t h c2
    refine lv_aload_n hx hb dX12_asked_22 rfl (lv_at hl 0 rfl) ?_
    refine lv_bipush (v := 100) hx hb dX12_asked_23 (by decide) ?_
    refine lv_bipush (v := 111) hx hb dX12_asked_25 (by decide) ?_
    refine lv_bipush (v := 117) hx hb dX12_asked_27 (by decide) ?_
    refine lv_bipush (v := 98) hx hb dX12_asked_29 (by decide) ?_
    refine lv_bipush (v := 116) hx hb dX12_asked_31 (by decide) ?_
    refine lv_bipush (v := 115) hx hb dX12_asked_33 (by decide) ?_
    obtain ⟨r3, qr3, h⟩ := ob_s h
    refine go_i hH (va_run_V (As := [.int 100, .int 111, .int 117, .int 98, .int 116, .int 115]) (rest := []) C0 hH lk_X12_295 (c_X12_isTold hAd k0 100 111 117 98 116 115 hk0 σ qr3) (by decide) (ci := 12) hk0 (by decide) (cob_12 _ _ _) rfl rfl hl.1 rfl (Nat.le_of_ble_eq_true rfl) dX12_asked_35) (fun H locs hH => ?_)
    refine lv_if_eq (tgt := 45) hx hb dX12_asked_38 (by decide) (fun c4 => ?_) (fun c4 => ?_)
    · replace h := if_t h c4
      refine lv_aload_n hx hb dX12_asked_45 rfl (lv_at hl 0 rfl) ?_
      refine lv_bipush (v := 114) hx hb dX12_asked_46 (by decide) ?_
      refine lv_bipush (v := 117) hx hb dX12_asked_48 (by decide) ?_
      refine lv_bipush (v := 110) hx hb dX12_asked_50 (by decide) ?_
      refine lv_bipush (v := 115) hx hb dX12_asked_52 (by decide) ?_
      refine lv_iconst (v := 0) hx hb dX12_asked_54 (by decide) ?_
      refine lv_iconst (v := 0) hx hb dX12_asked_55 (by decide) ?_
      obtain ⟨r5, qr5, h⟩ := ob_s h
      refine go_i hH (va_run_V (As := [.int 114, .int 117, .int 110, .int 115, .int 0, .int 0]) (rest := []) C0 hH lk_X12_295 (c_X12_isTold hAd k0 114 117 110 115 0 0 hk0 σ qr5) (by decide) (ci := 12) hk0 (by decide) (cob_12 _ _ _) rfl rfl hl.1 rfl (Nat.le_of_ble_eq_true rfl) dX12_asked_56) (fun H locs hH => ?_)
      refine lv_if_eq (tgt := 66) hx hb dX12_asked_59 (by decide) (fun c6 => ?_) (fun c6 => ?_)
      · replace h := if_t h c6
        refine lv_aload_n hx hb dX12_asked_66 rfl (lv_at hl 0 rfl) ?_
        refine lv_bipush (v := 119) hx hb dX12_asked_67 (by decide) ?_
        refine lv_bipush (v := 101) hx hb dX12_asked_69 (by decide) ?_
        refine lv_bipush (v := 105) hx hb dX12_asked_71 (by decide) ?_
        refine lv_bipush (v := 103) hx hb dX12_asked_73 (by decide) ?_
        refine lv_bipush (v := 104) hx hb dX12_asked_75 (by decide) ?_
        refine lv_bipush (v := 116) hx hb dX12_asked_77 (by decide) ?_
        obtain ⟨r7, qr7, h⟩ := ob_s h
        refine go_i hH (va_run_V (As := [.int 119, .int 101, .int 105, .int 103, .int 104, .int 116]) (rest := []) C0 hH lk_X12_295 (c_X12_isTold hAd k0 119 101 105 103 104 116 hk0 σ qr7) (by decide) (ci := 12) hk0 (by decide) (cob_12 _ _ _) rfl rfl hl.1 rfl (Nat.le_of_ble_eq_true rfl) dX12_asked_79) (fun H locs hH => ?_)
        refine lv_if_eq (tgt := 89) hx hb dX12_asked_82 (by decide) (fun c8 => ?_) (fun c8 => ?_)
        · replace h := if_t h c8
          refine lv_aload_n hx hb dX12_asked_89 rfl (lv_at hl 0 rfl) ?_
          refine lv_bipush (v := 103) hx hb dX12_asked_90 (by decide) ?_
          refine lv_bipush (v := 114) hx hb dX12_asked_92 (by decide) ?_
          refine lv_bipush (v := 111) hx hb dX12_asked_94 (by decide) ?_
          refine lv_bipush (v := 117) hx hb dX12_asked_96 (by decide) ?_
          refine lv_bipush (v := 112) hx hb dX12_asked_98 (by decide) ?_
          refine lv_bipush (v := 115) hx hb dX12_asked_100 (by decide) ?_
          obtain ⟨r9, qr9, h⟩ := ob_s h
          refine go_i hH (va_run_V (As := [.int 103, .int 114, .int 111, .int 117, .int 112, .int 115]) (rest := []) C0 hH lk_X12_295 (c_X12_isTold hAd k0 103 114 111 117 112 115 hk0 σ qr9) (by decide) (ci := 12) hk0 (by decide) (cob_12 _ _ _) rfl rfl hl.1 rfl (Nat.le_of_ble_eq_true rfl) dX12_asked_102) (fun H locs hH => ?_)
          refine lv_if_eq (tgt := 112) hx hb dX12_asked_105 (by decide) (fun c10 => ?_) (fun c10 => ?_)
          · replace h := if_t h c10
            refine lv_aload_n hx hb dX12_asked_112 rfl (lv_at hl 0 rfl) ?_
            obtain ⟨r11, qr11, h⟩ := ob_s h
            refine go_i hH (va_run_V (As := []) (rest := []) C0 hH lk_X12_299 (c_X12_askedLater hAd k0 hk0 σ qr11) (by decide) (ci := 12) hk0 (by decide) (cob_12 _ _ _) rfl rfl hl.1 rfl (Nat.le_of_ble_eq_true rfl) dX12_asked_113) (fun H locs hH => ?_)
            exact r_iret C0 hH (Option.some.inj h) rfl dX12_asked_116
          · replace h := if_f h c10
            refine lv_iconst (v := 4) hx hb dX12_asked_108 (by decide) ?_
            refine lv_goto (tgt := 116) hx hb dX12_asked_109 (by decide) ?_
            exact r_iret C0 hH (Option.some.inj h) rfl dX12_asked_116
        · replace h := if_f h c8
          refine lv_iconst (v := 3) hx hb dX12_asked_85 (by decide) ?_
          refine lv_goto (tgt := 116) hx hb dX12_asked_86 (by decide) ?_
          exact r_iret C0 hH (Option.some.inj h) rfl dX12_asked_116
      · replace h := if_f h c6
        refine lv_iconst (v := 2) hx hb dX12_asked_62 (by decide) ?_
        refine lv_goto (tgt := 116) hx hb dX12_asked_63 (by decide) ?_
        exact r_iret C0 hH (Option.some.inj h) rfl dX12_asked_116
    · replace h := if_f h c4
      refine lv_iconst (v := 1) hx hb dX12_asked_41 (by decide) ?_
      refine lv_goto (tgt := 116) hx hb dX12_asked_42 (by decide) ?_
      exact r_iret C0 hH (Option.some.inj h) rfl dX12_asked_116
  · replace h := if_f h c2
    refine lv_iconst (v := 0) hx hb dX12_asked_18 (by decide) ?_
    refine lv_goto (tgt := 116) hx hb dX12_asked_19 (by decide) ?_
    exact r_iret C0 hH (Option.some.inj h) rfl dX12_asked_116
theorem c_X12_asked {l : Launch} {E : EnvT} (hAd : Ad E) (k0 : Nat) (hk0 : kd k0 = 12) (σ : Mem) {r : Int32} (h : X12_asked k0 σ = some r) : Met l yX12_asked (wsM yX12_asked cX12_asked 1 (some .int)) (rmD 3) (PcM E [.ref (ea E k0)] σ) (QiM E r σ) 0 0 (eA E) :=
  Met.ofM (by decide) (Nat.le_of_ble_eq_true rfl) (fun p e s m below meth c ls C0 hH hl => w_X12_asked_b0 C0 k0 hk0 hH hl h) hAd
set_option maxRecDepth 100000 in
set_option maxHeartbeats 4000000 in
theorem w_X12_say_b0 {r : Int32} {σ' : Mem} (C0 : Cx E p m c cX12_say 2 s args RX12 meth (some .int))  (k0 : Nat) (hk0 : kd k0 = 12) {σ : Mem} {H : Heap} {locs : List Loc} {ls : Array Slot} (hH : Hs E s σ H locs) (hl : lv_has ls 2 [(0, .ref (ea E k0))]) (h : X12_say_b0 k0 σ = some (r, σ')) : W p l e (rmD 8) s m args below meth c H locs 0 0 (MQ below (QiM E r σ') args s 0 0 (eA E)) (F0 m 0 ls []) := by
  obtain ⟨⟨hx, hb, hml, hown, hts⟩, hr, hlocks, hF, hAd⟩ := id C0
  unfold X12_say_b0 at h
  refine lv_aload_n hx hb dX12_say_0 rfl (lv_at hl 0 rfl) ?_
  obtain ⟨r1, qr1, h⟩ := ob_s h
  refine go_i hH (va_run_V (As := []) (rest := []) C0 hH lk_X12_302 (c_X12_asked hAd k0 hk0 σ qr1) (by decide) (ci := 12) hk0 (by decide) (cob_12 _ _ _) rfl rfl hl.1 rfl (Nat.le_of_ble_eq_true rfl) dX12_say_1) (fun H locs hH => ?_)
  refine lv_istore_n (lv' := [(1, .int r1), (0, .ref (ea E k0))]) hx hb dX12_say_4 rfl hl (by decide) rfl (fun ls hl => ?_)
  refine lv_aload_n hx hb dX12_say_5 rfl (lv_at hl 1 rfl) ?_
  refine lv_iconst (v := 0) hx hb dX12_say_6 (by decide) ?_
  refine pf_X12_96 C0 hH hk0 dX12_say_7 (fun H locs hH => ?_)
  refine lv_aload_n hx hb dX12_say_10 rfl (lv_at hl 1 rfl) ?_
  obtain ⟨r2, qr2, h⟩ := ob_s h
  refine go_i hH (va_run_V (As := []) (rest := []) C0 hH lk_X12_159 (c_X12_isThere hAd k0 hk0 (wr σ k0 10 0) qr2) (by decide) (ci := 12) hk0 (by decide) (cob_12 _ _ _) rfl rfl hl.1 rfl (Nat.le_of_ble_eq_true rfl) dX12_say_11) (fun H locs hH => ?_)
  refine lv_if_ne (tgt := 20) hx hb dX12_say_14 (by decide) (fun c3 => ?_) (fun c3 => ?_)
  · replace h := if_f h c3
    refine lv_iload_n hx hb dX12_say_20 rfl (lv_at hl 0 rfl) ?_
    refine lv_if_ge (tgt := 29) hx hb dX12_say_21 (by decide) (fun c4 => ?_) (fun c4 => ?_)
    · replace h := if_t h c4
      refine lv_iload_n hx hb dX12_say_29 rfl (lv_at hl 0 rfl) ?_
      refine lv_bipush (v := 9) hx hb dX12_say_30 (by decide) ?_
      refine lv_icmp_ne (tgt := 44) hx hb dX12_say_32 (by decide) (fun c5 => ?_) (fun c5 => ?_)
      · replace h := if_f h c5
        refine lv_aload_n hx hb dX12_say_44 rfl (lv_at hl 1 rfl) ?_
        refine lv_iload_n hx hb dX12_say_45 rfl (lv_at hl 0 rfl) ?_
        obtain ⟨r6, σ7, qr6, h⟩ := ob2_s h
        refine go_i hH (va_run_V (As := [.int r1]) (rest := []) C0 hH lk_X12_305 (c_X12_whole hAd k0 r1 hk0 (wr σ k0 10 0) qr6) (by decide) (ci := 12) hk0 (by decide) (cob_12 _ _ _) rfl rfl hl.1 rfl (Nat.le_of_ble_eq_true rfl) dX12_say_46) (fun H locs hH => ?_)
        exact r_iret C0 hH (pj1 h) (pj2 h) dX12_say_49
      · replace h := if_t h c5
        refine lv_aload_n hx hb dX12_say_35 rfl (lv_at hl 1 rfl) ?_
        refine gf_X12_19 C0 hH hk0 dX12_say_36 ?_
        refine lv_iconst (v := 0) hx hb dX12_say_39 (by decide) ?_
        obtain ⟨σ8, eσ8, h⟩ := letv_s h
        replace hH := hs_of eσ8 hH
        refine r_iald C0 hH (n := 43) (kf_12_4 hk0) (vin (by decide)) dX12_say_40 ?_
        refine lv_goto (tgt := 49) hx hb dX12_say_41 (by decide) ?_
        exact r_iret C0 hH (pj1 h) (pj2 h) dX12_say_49
    · replace h := if_f h c4
      refine lv_ldc hx hb hown (hts _ qK_X12_112) dX12_say_24 ?_
      refine lv_goto (tgt := 49) hx hb dX12_say_26 (by decide) ?_
      exact r_iret C0 hH (pj1 h) (pj2 h) dX12_say_49
  · replace h := if_t h c3
    refine lv_ldc hx hb hown (hts _ qK_X12_158) dX12_say_17 ?_
    exact r_iret C0 hH (pj1 h) (pj2 h) dX12_say_19
theorem c_X12_say {l : Launch} {E : EnvT} (hAd : Ad E) (k0 : Nat) (hk0 : kd k0 = 12) (σ : Mem) {r : Int32} {σ' : Mem} (h : X12_say k0 σ = some (r, σ')) : Met l yX12_say (wsM yX12_say cX12_say 2 (some .int)) (rmD 8) (PcM E [.ref (ea E k0)] σ) (QiM E r σ') 0 0 (eA E) :=
  Met.ofM (by decide) (Nat.le_of_ble_eq_true rfl) (fun p e s m below meth c ls C0 hH hl => w_X12_say_b0 C0 k0 hk0 hH hl h) hAd
set_option maxRecDepth 100000 in
set_option maxHeartbeats 4000000 in
theorem w_X12_without_b0 {r : Int32} {σ' : Mem} (C0 : Cx E p m c cX12_without 2 s args RX12 meth (some .int))  (k0 : Nat) (v1 : Int32) (hk0 : kd k0 = 12) {σ : Mem} {H : Heap} {locs : List Loc} {ls : Array Slot} (hH : Hs E s σ H locs) (hl : lv_has ls 2 [(0, .ref (ea E k0)), (1, .int v1)]) (h : X12_without_b0 k0 v1 σ = some (r, σ')) : W p l e (rmD 6) s m args below meth c H locs 0 0 (MQ below (QiM E r σ') args s 0 0 (eA E)) (F0 m 0 ls []) := by
  obtain ⟨⟨hx, hb, hml, hown, hts⟩, hr, hlocks, hF, hAd⟩ := id C0
  unfold X12_without_b0 at h
  refine lv_aload_n hx hb dX12_without_0 rfl (lv_at hl 0 rfl) ?_
  refine lv_iload_n hx hb dX12_without_1 rfl (lv_at hl 1 rfl) ?_
  obtain ⟨r1, qr1, h⟩ := ob_s h
  refine go_i hH (va_run_V (As := [.int v1]) (rest := []) C0 hH lk_X12_178 (c_X12_isPage hAd k0 v1 hk0 σ qr1) (by decide) (ci := 12) hk0 (by decide) (cob_12 _ _ _) rfl rfl hl.1 rfl (Nat.le_of_ble_eq_true rfl) dX12_without_2) (fun H locs hH => ?_)
  refine lv_if_ne (tgt := 11) hx hb dX12_without_5 (by decide) (fun c2 => ?_) (fun c2 => ?_)
  · replace h := if_f h c2
    refine lv_aload_n hx hb dX12_without_11 rfl (lv_at hl 0 rfl) ?_
    refine gf_X12_19 C0 hH hk0 dX12_without_12 ?_
    refine lv_iconst (v := 0) hx hb dX12_without_15 (by decide) ?_
    refine r_iald C0 hH (n := 43) (kf_12_4 hk0) (vin (by decide)) dX12_without_16 ?_
    refine lv_iconst (v := 1) hx hb dX12_without_17 (by decide) ?_
    refine lv_icmp_ne (tgt := 24) hx hb dX12_without_18 (by decide) (fun c3 => ?_) (fun c3 => ?_)
    · replace h := if_f h c3
      refine lv_aload_n hx hb dX12_without_24 rfl (lv_at hl 0 rfl) ?_
      obtain ⟨σ4, qσ4, h⟩ := ob_s h
      refine go_v hH (va_run_V (As := []) (rest := []) C0 hH lk_X12_308 (c_X12_layThen hAd k0 hk0 σ qσ4) (by decide) (ci := 12) hk0 (by decide) (cob_12 _ _ _) rfl rfl hl.1 rfl (Nat.le_of_ble_eq_true rfl) dX12_without_25) (fun H locs hH => ?_)
      refine lv_aload_n hx hb dX12_without_28 rfl (lv_at hl 0 rfl) ?_
      refine gf_X12_25 C0 hH hk0 dX12_without_29 ?_
      refine lv_iload_n hx hb dX12_without_32 rfl (lv_at hl 1 rfl) ?_
      obtain ⟨σ5, qσ5, h⟩ := ob_s h
      refine go_v hH (va_run_S (As := [.ref (ea E (k0 + 6)), .int v1]) (rest := []) C0 hH lk_X12_181 (c_X12_closes hAd (k0 + 6) v1 (kf_12_6 hk0) σ4 qσ5) (by decide) rfl hl.1 rfl (Nat.le_of_ble_eq_true rfl) dX12_without_33) (fun H locs hH => ?_)
      refine lv_aload_n hx hb dX12_without_36 rfl (lv_at hl 0 rfl) ?_
      refine lv_aload_n hx hb dX12_without_37 rfl (lv_at hl 0 rfl) ?_
      refine gf_X12_25 C0 hH hk0 dX12_without_38 ?_
      obtain ⟨r6, σ7, qr6, h⟩ := ob2_s h
      refine go_i hH (va_run_V (As := [.ref (ea E (k0 + 6))]) (rest := []) C0 hH lk_X12_249 (c_X12_layHands hAd k0 (k0 + 6) hk0 (kf_12_6 hk0) σ5 qr6) (by decide) (ci := 12) hk0 (by decide) (cob_12 _ _ _) rfl rfl hl.1 rfl (Nat.le_of_ble_eq_true rfl) dX12_without_41) (fun H locs hH => ?_)
      exact r_iret C0 hH (pj1 h) (pj2 h) dX12_without_44
    · replace h := if_t h c3
      refine lv_ldc hx hb hown (hts _ qK_X12_158) dX12_without_21 ?_
      exact r_iret C0 hH (pj1 h) (pj2 h) dX12_without_23
  · replace h := if_t h c2
    refine lv_ldc hx hb hown (hts _ qK_X12_85) dX12_without_8 ?_
    exact r_iret C0 hH (pj1 h) (pj2 h) dX12_without_10
theorem c_X12_without {l : Launch} {E : EnvT} (hAd : Ad E) (k0 : Nat) (v1 : Int32) (hk0 : kd k0 = 12) (σ : Mem) {r : Int32} {σ' : Mem} (h : X12_without k0 v1 σ = some (r, σ')) : Met l yX12_without (wsM yX12_without cX12_without 2 (some .int)) (rmD 6) (PcM E [.ref (ea E k0), .int v1] σ) (QiM E r σ') 0 0 (eA E) :=
  Met.ofM (by decide) (Nat.le_of_ble_eq_true rfl) (fun p e s m below meth c ls C0 hH hl => w_X12_without_b0 C0 k0 v1 hk0 hH hl h) hAd
set_option maxRecDepth 100000 in
set_option maxHeartbeats 4000000 in
theorem w_X12_least_b36 {r : Int32} {σ' : Mem} (C0 : Cx E p m c cX12_least 3 s args RX12 meth (some .int)) (K36 : Nat → Int32 → Int32 → Mem → Option (Int32 × Mem)) (hK36 : ∀ (k0 : Nat) (v1 : Int32) (v2 : Int32) (hk0 : kd k0 = 12) (σ : Mem) (H : Heap) (locs : List Loc) (ls : Array Slot), Hs E s σ H locs → lv_has ls 3 [(0, .ref (ea E k0)), (1, .int v1), (2, .int v2)] → K36 k0 v1 v2 σ = some (r, σ') → W p l e (rmD 5) s m args below meth c H locs 0 0 (MQ below (QiM E r σ') args s 0 0 (eA E)) (F0 m 36 ls []))  (k0 : Nat) (v1 : Int32) (v2 : Int32) (hk0 : kd k0 = 12) {σ : Mem} {H : Heap} {locs : List Loc} {ls : Array Slot} (hH : Hs E s σ H locs) (hl : lv_has ls 3 [(0, .ref (ea E k0)), (1, .int v1), (2, .int v2)]) (h : X12_least_b36 K36 k0 v1 v2 σ = some (r, σ')) : W p l e (rmD 5) s m args below meth c H locs 0 0 (MQ below (QiM E r σ') args s 0 0 (eA E)) (F0 m 36 ls []) := by
  obtain ⟨⟨hx, hb, hml, hown, hts⟩, hr, hlocks, hF, hAd⟩ := id C0
  unfold X12_least_b36 at h
  refine lv_iload_n hx hb dX12_least_36 rfl (lv_at hl 2 rfl) ?_
  refine lv_sipush (v := 200) hx hb dX12_least_37 (by decide) ?_
  refine lv_icmp_ge (tgt := 74) hx hb dX12_least_40 (by decide) (fun c1 => ?_) (fun c1 => ?_)
  · replace h := if_t h c1
    refine lv_iload_n hx hb dX12_least_74 rfl (lv_at hl 2 rfl) ?_
    exact r_iret C0 hH (pj1 h) (pj2 h) dX12_least_75
  · replace h := if_f h c1
    refine lv_aload_n hx hb dX12_least_43 rfl (lv_at hl 0 rfl) ?_
    refine lv_aload_n hx hb dX12_least_44 rfl (lv_at hl 0 rfl) ?_
    refine gf_X12_19 C0 hH hk0 dX12_least_45 ?_
    obtain ⟨r2, qr2, h⟩ := ob_s h
    refine go_i hH (va_run_S (As := [.ref (ea E (k0 + 4))]) (rest := [.ref (ea E k0)]) C0 hH lk_X12_204 (c_X12_allOf hAd (k0 + 4) (kf_12_4 hk0) σ qr2) (by decide) rfl hl.1 rfl (Nat.le_of_ble_eq_true rfl) dX12_least_48) (fun H locs hH => ?_)
    refine lv_iload_n hx hb dX12_least_51 rfl (lv_at hl 1 rfl) ?_
    refine lv_iconst (v := 0) hx hb dX12_least_52 (by decide) ?_
    obtain ⟨r3, σ4, qr3, h⟩ := ob2_s h
    refine go_i hH (va_run_V (As := [.int r2, .int v1, .int 0]) (rest := []) C0 hH lk_X12_239 (c_X12_parts hAd k0 r2 v1 0 hk0 σ qr3) (by decide) (ci := 12) hk0 (by decide) (cob_12 _ _ _) rfl rfl hl.1 rfl (Nat.le_of_ble_eq_true rfl) dX12_least_53) (fun H locs hH => ?_)
    refine lv_if_ne (tgt := 74) hx hb dX12_least_56 (by decide) (fun c5 => ?_) (fun c5 => ?_)
    · replace h := if_f h c5
      refine lv_iload_n hx hb dX12_least_74 rfl (lv_at hl 2 rfl) ?_
      exact r_iret C0 hH (pj1 h) (pj2 h) dX12_least_75
    · replace h := if_t h c5
      refine lv_iinc (v := v2 + 1) (lv' := [(2, .int (v2 + 1)), (0, .ref (ea E k0)), (1, .int v1)]) hx hb dX12_least_59 hl (k := 2) rfl rfl (by decide) rfl (fun ls hl => ?_)
      refine lv_aload_n hx hb dX12_least_62 rfl (lv_at hl 1 rfl) ?_
      refine lv_aload_n hx hb dX12_least_63 rfl (lv_at hl 1 rfl) ?_
      refine gf_X12_19 C0 hH hk0 dX12_least_64 ?_
      refine lv_iload_n hx hb dX12_least_67 rfl (lv_at hl 0 rfl) ?_
      obtain ⟨σ6, qσ6, h⟩ := ob_s h
      refine go_v hH (va_run_V (As := [.ref (ea E (k0 + 4)), .int (v2 + 1)]) (rest := []) C0 hH lk_X12_236 (c_X12_layNear hAd k0 (k0 + 4) (v2 + 1) hk0 (kf_12_4 hk0) σ4 qσ6) (by decide) (ci := 12) hk0 (by decide) (cob_12 _ _ _) rfl rfl hl.1 rfl (Nat.le_of_ble_eq_true rfl) dX12_least_68) (fun H locs hH => ?_)
      refine lv_goto (tgt := 36) hx hb dX12_least_71 (by decide) ?_
      exact hK36 k0 v1 (v2 + 1) hk0 _ _ _ _ hH (lv_sub hl [1, 2, 0] rfl) h
set_option maxRecDepth 100000 in
set_option maxHeartbeats 4000000 in
theorem w_X12_least_l36 {r : Int32} {σ' : Mem} (C0 : Cx E p m c cX12_least 3 s args RX12 meth (some .int))  (n : Nat) : ∀ (k0 : Nat) (v1 : Int32) (v2 : Int32) (hk0 : kd k0 = 12) (σ : Mem) (H : Heap) (locs : List Loc) (ls : Array Slot), Hs E s σ H locs → lv_has ls 3 [(0, .ref (ea E k0)), (1, .int v1), (2, .int v2)] → X12_least_l36 n k0 v1 v2 σ = some (r, σ') → W p l e (rmD 5) s m args below meth c H locs 0 0 (MQ below (QiM E r σ') args s 0 0 (eA E)) (F0 m 36 ls []) := by
  induction n with
  | zero =>
    intro k0 v1 v2 hk0 σ H locs ls hH hl h
    cases h
  | succ n ih =>
    intro k0 v1 v2 hk0 σ H locs ls hH hl h
    exact w_X12_least_b36 C0 (X12_least_l36 n)  ih k0 v1 v2 hk0 hH hl h
set_option maxRecDepth 100000 in
set_option maxHeartbeats 4000000 in
theorem w_X12_least_b0 {r : Int32} {σ' : Mem} (C0 : Cx E p m c cX12_least 3 s args RX12 meth (some .int))  (k0 : Nat) (v1 : Int32) (hk0 : kd k0 = 12) {σ : Mem} {H : Heap} {locs : List Loc} {ls : Array Slot} (hH : Hs E s σ H locs) (hl : lv_has ls 3 [(0, .ref (ea E k0)), (1, .int v1)]) (h : X12_least_b0 k0 v1 σ = some (r, σ')) : W p l e (rmD 5) s m args below meth c H locs 0 0 (MQ below (QiM E r σ') args s 0 0 (eA E)) (F0 m 0 ls []) := by
  obtain ⟨⟨hx, hb, hml, hown, hts⟩, hr, hlocks, hF, hAd⟩ := id C0
  unfold X12_least_b0 at h
  refine lv_aload_n hx hb dX12_least_0 rfl (lv_at hl 0 rfl) ?_
  obtain ⟨r1, qr1, h⟩ := ob_s h
  refine go_i hH (va_run_V (As := []) (rest := []) C0 hH lk_X12_159 (c_X12_isThere hAd k0 hk0 σ qr1) (by decide) (ci := 12) hk0 (by decide) (cob_12 _ _ _) rfl rfl hl.1 rfl (Nat.le_of_ble_eq_true rfl) dX12_least_1) (fun H locs hH => ?_)
  refine lv_if_ne (tgt := 10) hx hb dX12_least_4 (by decide) (fun c2 => ?_) (fun c2 => ?_)
  · replace h := if_f h c2
    refine lv_iload_n hx hb dX12_least_10 rfl (lv_at hl 1 rfl) ?_
    refine lv_i2l (v := Int32.toInt64 v1) hx hb dX12_least_11 rfl ?_
    refine lv_lconst (v := 1) hx hb dX12_least_12 (by decide) ?_
    refine lv_ldc2 hx hb hown (hts _ qL_X12_311) dX12_least_13 ?_
    refine go_i hH (va_run_S (As := [.long (Int32.toInt64 v1), .long 1, .long 10]) (rest := []) C0 hH lk_X12_75 (c_X12_in hAd (Int32.toInt64 v1) 1 10  σ rfl) (by decide) rfl hl.1 rfl (Nat.le_of_ble_eq_true rfl) dX12_least_16) (fun H locs hH => ?_)
    refine lv_if_ne (tgt := 25) hx hb dX12_least_19 (by decide) (fun c3 => ?_) (fun c3 => ?_)
    · replace h := if_f h c3
      refine lv_iconst (v := 0) hx hb dX12_least_25 (by decide) ?_
      refine lv_istore_n (lv' := [(2, .int 0), (0, .ref (ea E k0)), (1, .int v1)]) hx hb dX12_least_26 rfl hl (by decide) rfl (fun ls hl => ?_)
      refine lv_aload_n hx hb dX12_least_27 rfl (lv_at hl 1 rfl) ?_
      refine lv_aload_n hx hb dX12_least_28 rfl (lv_at hl 1 rfl) ?_
      refine gf_X12_19 C0 hH hk0 dX12_least_29 ?_
      refine lv_iload_n hx hb dX12_least_32 rfl (lv_at hl 0 rfl) ?_
      obtain ⟨σ4, qσ4, h⟩ := ob_s h
      refine go_v hH (va_run_V (As := [.ref (ea E (k0 + 4)), .int 0]) (rest := []) C0 hH lk_X12_236 (c_X12_layNear hAd k0 (k0 + 4) 0 hk0 (kf_12_4 hk0) σ qσ4) (by decide) (ci := 12) hk0 (by decide) (cob_12 _ _ _) rfl rfl hl.1 rfl (Nat.le_of_ble_eq_true rfl) dX12_least_33) (fun H locs hH => ?_)
      exact w_X12_least_l36 C0  FU k0 v1 0 hk0 _ _ _ _ hH (lv_sub hl [1, 2, 0] rfl) h
    · replace h := if_t h c3
      refine lv_ldc hx hb hown (hts _ qK_X12_85) dX12_least_22 ?_
      exact r_iret C0 hH (pj1 h) (pj2 h) dX12_least_24
  · replace h := if_t h c2
    refine lv_ldc hx hb hown (hts _ qK_X12_158) dX12_least_7 ?_
    exact r_iret C0 hH (pj1 h) (pj2 h) dX12_least_9
theorem c_X12_least {l : Launch} {E : EnvT} (hAd : Ad E) (k0 : Nat) (v1 : Int32) (hk0 : kd k0 = 12) (σ : Mem) {r : Int32} {σ' : Mem} (h : X12_least k0 v1 σ = some (r, σ')) : Met l yX12_least (wsM yX12_least cX12_least 3 (some .int)) (rmD 5) (PcM E [.ref (ea E k0), .int v1] σ) (QiM E r σ') 0 0 (eA E) :=
  Met.ofM (by decide) (Nat.le_of_ble_eq_true rfl) (fun p e s m below meth c ls C0 hH hl => w_X12_least_b0 C0 k0 v1 hk0 hH hl h) hAd
set_option maxRecDepth 100000 in
set_option maxHeartbeats 4000000 in
theorem w_X12_pairs_b0 {r : Int32} {σ' : Mem} (C0 : Cx E p m c cX12_pairs 2 s args RX12 meth (some .int))  (k0 : Nat) (v1 : Int32) (hk0 : kd k0 = 12) {σ : Mem} {H : Heap} {locs : List Loc} {ls : Array Slot} (hH : Hs E s σ H locs) (hl : lv_has ls 2 [(0, .ref (ea E k0)), (1, .int v1)]) (h : X12_pairs_b0 k0 v1 σ = some (r, σ')) : W p l e (rmD 3) s m args below meth c H locs 0 0 (MQ below (QiM E r σ') args s 0 0 (eA E)) (F0 m 0 ls []) := by
  obtain ⟨⟨hx, hb, hml, hown, hts⟩, hr, hlocks, hF, hAd⟩ := id C0
  unfold X12_pairs_b0 at h
  refine lv_aload_n hx hb dX12_pairs_0 rfl (lv_at hl 0 rfl) ?_
  refine lv_iload_n hx hb dX12_pairs_1 rfl (lv_at hl 1 rfl) ?_
  obtain ⟨r1, qr1, h⟩ := ob_s h
  refine go_i hH (va_run_V (As := [.int v1]) (rest := []) C0 hH lk_X12_178 (c_X12_isPage hAd k0 v1 hk0 σ qr1) (by decide) (ci := 12) hk0 (by decide) (cob_12 _ _ _) rfl rfl hl.1 rfl (Nat.le_of_ble_eq_true rfl) dX12_pairs_2) (fun H locs hH => ?_)
  refine lv_if_ne (tgt := 11) hx hb dX12_pairs_5 (by decide) (fun c2 => ?_) (fun c2 => ?_)
  · replace h := if_f h c2
    refine lv_aload_n hx hb dX12_pairs_11 rfl (lv_at hl 0 rfl) ?_
    refine lv_aload_n hx hb dX12_pairs_12 rfl (lv_at hl 0 rfl) ?_
    refine gf_X12_19 C0 hH hk0 dX12_pairs_13 ?_
    refine lv_aload_n hx hb dX12_pairs_16 rfl (lv_at hl 0 rfl) ?_
    refine gf_X12_19 C0 hH hk0 dX12_pairs_17 ?_
    refine lv_iconst (v := 1) hx hb dX12_pairs_20 (by decide) ?_
    refine r_iald C0 hH (n := 43) (kf_12_4 hk0) (vin (by decide)) dX12_pairs_21 ?_
    obtain ⟨σ3, qσ3, h⟩ := ob_s h
    refine go_v hH (va_run_V (As := [.ref (ea E (k0 + 4)), .int (σ (k0 + 4) (nc 1))]) (rest := []) C0 hH lk_X12_236 (c_X12_layNear hAd k0 (k0 + 4) (σ (k0 + 4) (nc 1)) hk0 (kf_12_4 hk0) σ qσ3) (by decide) (ci := 12) hk0 (by decide) (cob_12 _ _ _) rfl rfl hl.1 rfl (Nat.le_of_ble_eq_true rfl) dX12_pairs_22) (fun H locs hH => ?_)
    refine lv_aload_n hx hb dX12_pairs_25 rfl (lv_at hl 0 rfl) ?_
    refine gf_X12_37 C0 hH hk0 dX12_pairs_26 ?_
    refine lv_iload_n hx hb dX12_pairs_29 rfl (lv_at hl 1 rfl) ?_
    obtain ⟨b4, h⟩ := gdx_s h
    refine r_iald C0 hH (n := 10) (kf_12_19 hk0) b4 dX12_pairs_30 ?_
    refine lv_iconst (v := 1) hx hb dX12_pairs_31 (by decide) ?_
    refine lv_iload_n hx hb dX12_pairs_32 rfl (lv_at hl 1 rfl) ?_
    refine lv_ishl hx hb dX12_pairs_33 ?_
    refine lv_iconst (v := (-1)) hx hb dX12_pairs_34 (by decide) ?_
    refine lv_ixor hx hb dX12_pairs_35 ?_
    refine lv_iand hx hb dX12_pairs_36 ?_
    exact r_iret C0 hH (pj1 h) (pj2 h) dX12_pairs_37
  · replace h := if_t h c2
    refine lv_ldc hx hb hown (hts _ qK_X12_85) dX12_pairs_8 ?_
    exact r_iret C0 hH (pj1 h) (pj2 h) dX12_pairs_10
theorem c_X12_pairs {l : Launch} {E : EnvT} (hAd : Ad E) (k0 : Nat) (v1 : Int32) (hk0 : kd k0 = 12) (σ : Mem) {r : Int32} {σ' : Mem} (h : X12_pairs k0 v1 σ = some (r, σ')) : Met l yX12_pairs (wsM yX12_pairs cX12_pairs 2 (some .int)) (rmD 3) (PcM E [.ref (ea E k0), .int v1] σ) (QiM E r σ') 0 0 (eA E) :=
  Met.ofM (by decide) (Nat.le_of_ble_eq_true rfl) (fun p e s m below meth c ls C0 hH hl => w_X12_pairs_b0 C0 k0 v1 hk0 hH hl h) hAd
set_option maxRecDepth 100000 in
set_option maxHeartbeats 4000000 in
theorem w_X12_areHandsSo_b58 {r : Int32} {σ' : Mem} (C0 : Cx E p m c cX12_areHandsSo 6 s args RX12 meth (some .boolean)) (K23 : Nat → Int32 → Int32 → Int32 → Int32 → Mem → Option (Int32 × Mem)) (hK23 : ∀ (k0 : Nat) (v1 : Int32) (v2 : Int32) (v4 : Int32) (v5 : Int32) (hk0 : kd k0 = 12) (σ : Mem) (H : Heap) (locs : List Loc) (ls : Array Slot), Hs E s σ H locs → lv_has ls 6 [(0, .ref (ea E k0)), (1, .int v1), (2, .int v2), (4, .int v4), (5, .int v5)] → K23 k0 v1 v2 v4 v5 σ = some (r, σ') → W p l e (rmD 6) s m args below meth c H locs 0 0 (MQ below (QiM E r σ') args s 0 0 (eA E)) (F0 m 23 ls []))  (k0 : Nat) (v1 : Int32) (v2 : Int32) (v5 : Int32) (s0 : Int32) (hk0 : kd k0 = 12) {σ : Mem} {H : Heap} {locs : List Loc} {ls : Array Slot} (hH : Hs E s σ H locs) (hl : lv_has ls 6 [(0, .ref (ea E k0)), (1, .int v1), (2, .int v2), (5, .int v5)]) (h : X12_areHandsSo_b58 K23 k0 v1 v2 v5 s0 σ = some (r, σ')) : W p l e (rmD 6) s m args below meth c H locs 0 0 (MQ below (QiM E r σ') args s 0 0 (eA E)) (F0 m 58 ls [.int s0]) := by
  obtain ⟨⟨hx, hb, hml, hown, hts⟩, hr, hlocks, hF, hAd⟩ := id C0
  unfold X12_areHandsSo_b58 at h
  refine lv_istore (lv' := [(4, .int s0), (0, .ref (ea E k0)), (1, .int v1), (2, .int v2), (5, .int v5)]) hx hb dX12_areHandsSo_58 hl (by decide) rfl (fun ls hl => ?_)
  refine lv_iinc (v := v5 + 1) (lv' := [(5, .int (v5 + 1)), (4, .int s0), (0, .ref (ea E k0)), (1, .int v1), (2, .int v2)]) hx hb dX12_areHandsSo_60 hl (k := 4) rfl rfl (by decide) rfl (fun ls hl => ?_)
  refine lv_goto (tgt := 23) hx hb dX12_areHandsSo_63 (by decide) ?_
  exact hK23 k0 v1 v2 s0 (v5 + 1) hk0 _ _ _ _ hH (lv_sub hl [2, 3, 4, 1, 0] rfl) h
set_option maxRecDepth 100000 in
set_option maxHeartbeats 4000000 in
theorem w_X12_areHandsSo_b57 {r : Int32} {σ' : Mem} (C0 : Cx E p m c cX12_areHandsSo 6 s args RX12 meth (some .boolean)) (K23 : Nat → Int32 → Int32 → Int32 → Int32 → Mem → Option (Int32 × Mem)) (hK23 : ∀ (k0 : Nat) (v1 : Int32) (v2 : Int32) (v4 : Int32) (v5 : Int32) (hk0 : kd k0 = 12) (σ : Mem) (H : Heap) (locs : List Loc) (ls : Array Slot), Hs E s σ H locs → lv_has ls 6 [(0, .ref (ea E k0)), (1, .int v1), (2, .int v2), (4, .int v4), (5, .int v5)] → K23 k0 v1 v2 v4 v5 σ = some (r, σ') → W p l e (rmD 6) s m args below meth c H locs 0 0 (MQ below (QiM E r σ') args s 0 0 (eA E)) (F0 m 23 ls []))  (k0 : Nat) (v1 : Int32) (v2 : Int32) (v5 : Int32) (hk0 : kd k0 = 12) {σ : Mem} {H : Heap} {locs : List Loc} {ls : Array Slot} (hH : Hs E s σ H locs) (hl : lv_has ls 6 [(0, .ref (ea E k0)), (1, .int v1), (2, .int v2), (5, .int v5)]) (h : X12_areHandsSo_b57 K23 k0 v1 v2 v5 σ = some (r, σ')) : W p l e (rmD 6) s m args below meth c H locs 0 0 (MQ below (QiM E r σ') args s 0 0 (eA E)) (F0 m 57 ls []) := by
  obtain ⟨⟨hx, hb, hml, hown, hts⟩, hr, hlocks, hF, hAd⟩ := id C0
  unfold X12_areHandsSo_b57 at h
  refine lv_iconst (v := 0) hx hb dX12_areHandsSo_57 (by decide) ?_
  exact w_X12_areHandsSo_b58 C0 K23 hK23 k0 v1 v2 v5 0 hk0 hH (lv_sub hl [0, 1, 2, 3] rfl) h
set_option maxRecDepth 100000 in
set_option maxHeartbeats 4000000 in
theorem w_X12_areHandsSo_b23 {r : Int32} {σ' : Mem} (C0 : Cx E p m c cX12_areHandsSo 6 s args RX12 meth (some .boolean)) (K23 : Nat → Int32 → Int32 → Int32 → Int32 → Mem → Option (Int32 × Mem)) (hK23 : ∀ (k0 : Nat) (v1 : Int32) (v2 : Int32) (v4 : Int32) (v5 : Int32) (hk0 : kd k0 = 12) (σ : Mem) (H : Heap) (locs : List Loc) (ls : Array Slot), Hs E s σ H locs → lv_has ls 6 [(0, .ref (ea E k0)), (1, .int v1), (2, .int v2), (4, .int v4), (5, .int v5)] → K23 k0 v1 v2 v4 v5 σ = some (r, σ') → W p l e (rmD 6) s m args below meth c H locs 0 0 (MQ below (QiM E r σ') args s 0 0 (eA E)) (F0 m 23 ls []))  (k0 : Nat) (v1 : Int32) (v2 : Int32) (v4 : Int32) (v5 : Int32) (hk0 : kd k0 = 12) {σ : Mem} {H : Heap} {locs : List Loc} {ls : Array Slot} (hH : Hs E s σ H locs) (hl : lv_has ls 6 [(0, .ref (ea E k0)), (1, .int v1), (2, .int v2), (4, .int v4), (5, .int v5)]) (h : X12_areHandsSo_b23 K23 k0 v1 v2 v4 v5 σ = some (r, σ')) : W p l e (rmD 6) s m args below meth c H locs 0 0 (MQ below (QiM E r σ') args s 0 0 (eA E)) (F0 m 23 ls []) := by
  obtain ⟨⟨hx, hb, hml, hown, hts⟩, hr, hlocks, hF, hAd⟩ := id C0
  unfold X12_areHandsSo_b23 at h
  refine lv_iload hx hb dX12_areHandsSo_23 (lv_at hl 4 rfl) ?_
  refine lv_iload_n hx hb dX12_areHandsSo_25 rfl (lv_at hl 2 rfl) ?_
  refine lv_icmp_ge (tgt := 66) hx hb dX12_areHandsSo_26 (by decide) (fun c1 => ?_) (fun c1 => ?_)
  · replace h := if_t h c1
    refine lv_iload hx hb dX12_areHandsSo_66 (lv_at hl 3 rfl) ?_
    obtain ⟨z2, h⟩ := gdb_s h
    exact r_zret C0 (bit_nar z2) hH (pj1 h) (pj2 h) dX12_areHandsSo_68
  · replace h := if_f h c1
    refine lv_iload hx hb dX12_areHandsSo_29 (lv_at hl 3 rfl) ?_
    refine lv_if_eq (tgt := 57) hx hb dX12_areHandsSo_31 (by decide) (fun c3 => ?_) (fun c3 => ?_)
    · replace h := if_t h c3
      exact w_X12_areHandsSo_b57 C0 K23 hK23 k0 v1 v2 v5 hk0 hH (lv_sub hl [0, 1, 2, 4] rfl) h
    · replace h := if_f h c3
      refine lv_aload_n hx hb dX12_areHandsSo_34 rfl (lv_at hl 0 rfl) ?_
      refine gf_X12_46 C0 hH hk0 dX12_areHandsSo_35 ?_
      refine lv_iload hx hb dX12_areHandsSo_38 (lv_at hl 4 rfl) ?_
      obtain ⟨b4, h⟩ := gdx_s h
      refine r_iald C0 hH (n := 10) (kf_12_22 hk0) b4 dX12_areHandsSo_40 ?_
      refine lv_aload_n hx hb dX12_areHandsSo_41 rfl (lv_at hl 0 rfl) ?_
      refine gf_X12_16 C0 hH hk0 dX12_areHandsSo_42 ?_
      refine lv_iload_n hx hb dX12_areHandsSo_45 rfl (lv_at hl 1 rfl) ?_
      refine lv_iload hx hb dX12_areHandsSo_46 (lv_at hl 4 rfl) ?_
      refine lv_iadd hx hb dX12_areHandsSo_48 ?_
      obtain ⟨b5, h⟩ := gdx_s h
      refine r_iald C0 hH (n := 320) (kf_12_3 hk0) b5 dX12_areHandsSo_49 ?_
      refine lv_icmp_ne (tgt := 57) hx hb dX12_areHandsSo_50 (by decide) (fun c6 => ?_) (fun c6 => ?_)
      · replace h := if_f h c6
        exact w_X12_areHandsSo_b57 C0 K23 hK23 k0 v1 v2 v5 hk0 hH (lv_sub hl [0, 1, 2, 4] rfl) h
      · replace h := if_t h c6
        refine lv_iconst (v := 1) hx hb dX12_areHandsSo_53 (by decide) ?_
        refine lv_goto (tgt := 58) hx hb dX12_areHandsSo_54 (by decide) ?_
        exact w_X12_areHandsSo_b58 C0 K23 hK23 k0 v1 v2 v5 1 hk0 hH (lv_sub hl [0, 1, 2, 4] rfl) h
set_option maxRecDepth 100000 in
set_option maxHeartbeats 4000000 in
theorem w_X12_areHandsSo_l23 {r : Int32} {σ' : Mem} (C0 : Cx E p m c cX12_areHandsSo 6 s args RX12 meth (some .boolean))  (n : Nat) : ∀ (k0 : Nat) (v1 : Int32) (v2 : Int32) (v4 : Int32) (v5 : Int32) (hk0 : kd k0 = 12) (σ : Mem) (H : Heap) (locs : List Loc) (ls : Array Slot), Hs E s σ H locs → lv_has ls 6 [(0, .ref (ea E k0)), (1, .int v1), (2, .int v2), (4, .int v4), (5, .int v5)] → X12_areHandsSo_l23 n k0 v1 v2 v4 v5 σ = some (r, σ') → W p l e (rmD 6) s m args below meth c H locs 0 0 (MQ below (QiM E r σ') args s 0 0 (eA E)) (F0 m 23 ls []) := by
  induction n with
  | zero =>
    intro k0 v1 v2 v4 v5 hk0 σ H locs ls hH hl h
    cases h
  | succ n ih =>
    intro k0 v1 v2 v4 v5 hk0 σ H locs ls hH hl h
    exact w_X12_areHandsSo_b23 C0 (X12_areHandsSo_l23 n)  ih k0 v1 v2 v4 v5 hk0 hH hl h
set_option maxRecDepth 100000 in
set_option maxHeartbeats 4000000 in
theorem w_X12_areHandsSo_b18 {r : Int32} {σ' : Mem} (C0 : Cx E p m c cX12_areHandsSo 6 s args RX12 meth (some .boolean))  (k0 : Nat) (v1 : Int32) (v2 : Int32) (s0 : Int32) (hk0 : kd k0 = 12) {σ : Mem} {H : Heap} {locs : List Loc} {ls : Array Slot} (hH : Hs E s σ H locs) (hl : lv_has ls 6 [(0, .ref (ea E k0)), (1, .int v1), (2, .int v2)]) (h : X12_areHandsSo_b18 k0 v1 v2 s0 σ = some (r, σ')) : W p l e (rmD 6) s m args below meth c H locs 0 0 (MQ below (QiM E r σ') args s 0 0 (eA E)) (F0 m 18 ls [.int s0]) := by
  obtain ⟨⟨hx, hb, hml, hown, hts⟩, hr, hlocks, hF, hAd⟩ := id C0
  unfold X12_areHandsSo_b18 at h
  refine lv_istore (lv' := [(4, .int s0), (0, .ref (ea E k0)), (1, .int v1), (2, .int v2)]) hx hb dX12_areHandsSo_18 hl (by decide) rfl (fun ls hl => ?_)
  refine lv_iconst (v := 0) hx hb dX12_areHandsSo_20 (by decide) ?_
  refine lv_istore (lv' := [(5, .int 0), (4, .int s0), (0, .ref (ea E k0)), (1, .int v1), (2, .int v2)]) hx hb dX12_areHandsSo_21 hl (by decide) rfl (fun ls hl => ?_)
  exact w_X12_areHandsSo_l23 C0  FU k0 v1 v2 s0 0 hk0 _ _ _ _ hH (lv_sub hl [2, 3, 4, 1, 0] rfl) h
set_option maxRecDepth 100000 in
set_option maxHeartbeats 4000000 in
theorem w_X12_areHandsSo_b0 {r : Int32} {σ' : Mem} (C0 : Cx E p m c cX12_areHandsSo 6 s args RX12 meth (some .boolean))  (k0 : Nat) (v1 : Int32) (v2 : Int32) (hk0 : kd k0 = 12) {σ : Mem} {H : Heap} {locs : List Loc} {ls : Array Slot} (hH : Hs E s σ H locs) (hl : lv_has ls 6 [(0, .ref (ea E k0)), (1, .int v1), (2, .int v2)]) (h : X12_areHandsSo_b0 k0 v1 v2 σ = some (r, σ')) : W p l e (rmD 6) s m args below meth c H locs 0 0 (MQ below (QiM E r σ') args s 0 0 (eA E)) (F0 m 0 ls []) := by
  obtain ⟨⟨hx, hb, hml, hown, hts⟩, hr, hlocks, hF, hAd⟩ := id C0
  unfold X12_areHandsSo_b0 at h
  refine lv_aload_n hx hb dX12_areHandsSo_0 rfl (lv_at hl 0 rfl) ?_
  refine lv_aload_n hx hb dX12_areHandsSo_1 rfl (lv_at hl 0 rfl) ?_
  refine gf_X12_25 C0 hH hk0 dX12_areHandsSo_2 ?_
  obtain ⟨r1, σ2, qr1, h⟩ := ob2_s h
  refine go_i hH (va_run_V (As := [.ref (ea E (k0 + 6))]) (rest := []) C0 hH lk_X12_249 (c_X12_layHands hAd k0 (k0 + 6) hk0 (kf_12_6 hk0) σ qr1) (by decide) (ci := 12) hk0 (by decide) (cob_12 _ _ _) rfl rfl hl.1 rfl (Nat.le_of_ble_eq_true rfl) dX12_areHandsSo_5) (fun H locs hH => ?_)
  refine lv_istore_n (lv' := [(3, .int r1), (0, .ref (ea E k0)), (1, .int v1), (2, .int v2)]) hx hb dX12_areHandsSo_8 rfl hl (by decide) rfl (fun ls hl => ?_)
  refine lv_iload_n hx hb dX12_areHandsSo_9 rfl (lv_at hl 0 rfl) ?_
  refine lv_if_le (tgt := 17) hx hb dX12_areHandsSo_10 (by decide) (fun c3 => ?_) (fun c3 => ?_)
  · replace h := if_t h c3
    refine lv_iconst (v := 0) hx hb dX12_areHandsSo_17 (by decide) ?_
    exact w_X12_areHandsSo_b18 C0  k0 v1 v2 0 hk0 hH (lv_sub hl [1, 2, 3] rfl) h
  · replace h := if_f h c3
    refine lv_iconst (v := 1) hx hb dX12_areHandsSo_13 (by decide) ?_
    refine lv_goto (tgt := 18) hx hb dX12_areHandsSo_14 (by decide) ?_
    exact w_X12_areHandsSo_b18 C0  k0 v1 v2 1 hk0 hH (lv_sub hl [1, 2, 3] rfl) h
theorem c_X12_areHandsSo {l : Launch} {E : EnvT} (hAd : Ad E) (k0 : Nat) (v1 : Int32) (v2 : Int32) (hk0 : kd k0 = 12) (σ : Mem) {r : Int32} {σ' : Mem} (h : X12_areHandsSo k0 v1 v2 σ = some (r, σ')) : Met l yX12_areHandsSo (wsM yX12_areHandsSo cX12_areHandsSo 6 (some .boolean)) (rmD 6) (PcM E [.ref (ea E k0), .int v1, .int v2] σ) (QiM E r σ') 0 0 (eA E) :=
  Met.ofM (by decide) (Nat.le_of_ble_eq_true rfl) (fun p e s m below meth c ls C0 hH hl => w_X12_areHandsSo_b0 C0 k0 v1 v2 hk0 hH hl h) hAd
set_option maxRecDepth 100000 in
set_option maxHeartbeats 4000000 in
theorem w_X12_fitting_b45 {r : Int32} {σ' : Mem} (C0 : Cx E p m c cX12_fitting 8 s args RX12 meth (some .int)) (K6 : Nat → Int32 → Int32 → Int32 → Int32 → Int32 → Int32 → Mem → Option (Int32 × Mem)) (hK6 : ∀ (k0 : Nat) (v1 : Int32) (v3 : Int32) (v4 : Int32) (v5 : Int32) (v6 : Int32) (v7 : Int32) (hk0 : kd k0 = 12) (σ : Mem) (H : Heap) (locs : List Loc) (ls : Array Slot), Hs E s σ H locs → lv_has ls 8 [(0, .ref (ea E k0)), (1, .int v1), (3, .int v3), (4, .int v4), (5, .int v5), (6, .int v6), (7, .int v7)] → K6 k0 v1 v3 v4 v5 v6 v7 σ = some (r, σ') → W p l e (rmD 7) s m args below meth c H locs 0 0 (MQ below (QiM E r σ') args s 0 0 (eA E)) (F0 m 6 ls []))  (k0 : Nat) (v1 : Int32) (v3 : Int32) (v4 : Int32) (v5 : Int32) (v7 : Int32) (s0 : Int32) (s1 : Int32) (hk0 : kd k0 = 12) {σ : Mem} {H : Heap} {locs : List Loc} {ls : Array Slot} (hH : Hs E s σ H locs) (hl : lv_has ls 8 [(0, .ref (ea E k0)), (1, .int v1), (3, .int v3), (4, .int v4), (5, .int v5), (7, .int v7)]) (h : X12_fitting_b45 K6 k0 v1 v3 v4 v5 v7 s0 s1 σ = some (r, σ')) : W p l e (rmD 7) s m args below meth c H locs 0 0 (MQ below (QiM E r σ') args s 0 0 (eA E)) (F0 m 45 ls [.int s1, .int s0]) := by
  obtain ⟨⟨hx, hb, hml, hown, hts⟩, hr, hlocks, hF, hAd⟩ := id C0
  unfold X12_fitting_b45 at h
  refine lv_ior hx hb dX12_fitting_45 ?_
  obtain ⟨x1, ex1, h⟩ := letv_s h
  refine topi_of ex1 ?_
  refine lv_istore (lv' := [(6, .int x1), (0, .ref (ea E k0)), (1, .int v1), (3, .int v3), (4, .int v4), (5, .int v5), (7, .int v7)]) hx hb dX12_fitting_46 hl (by decide) rfl (fun ls hl => ?_)
  refine lv_iinc (v := v7 + 1) (lv' := [(7, .int (v7 + 1)), (6, .int x1), (0, .ref (ea E k0)), (1, .int v1), (3, .int v3), (4, .int v4), (5, .int v5)]) hx hb dX12_fitting_48 hl (k := 6) rfl rfl (by decide) rfl (fun ls hl => ?_)
  refine lv_goto (tgt := 6) hx hb dX12_fitting_51 (by decide) ?_
  exact hK6 k0 v1 v3 v4 v5 x1 (v7 + 1) hk0 _ _ _ _ hH (lv_sub hl [2, 3, 4, 5, 6, 1, 0] rfl) h
set_option maxRecDepth 100000 in
set_option maxHeartbeats 4000000 in
theorem w_X12_fitting_b6 {r : Int32} {σ' : Mem} (C0 : Cx E p m c cX12_fitting 8 s args RX12 meth (some .int)) (K6 : Nat → Int32 → Int32 → Int32 → Int32 → Int32 → Int32 → Mem → Option (Int32 × Mem)) (hK6 : ∀ (k0 : Nat) (v1 : Int32) (v3 : Int32) (v4 : Int32) (v5 : Int32) (v6 : Int32) (v7 : Int32) (hk0 : kd k0 = 12) (σ : Mem) (H : Heap) (locs : List Loc) (ls : Array Slot), Hs E s σ H locs → lv_has ls 8 [(0, .ref (ea E k0)), (1, .int v1), (3, .int v3), (4, .int v4), (5, .int v5), (6, .int v6), (7, .int v7)] → K6 k0 v1 v3 v4 v5 v6 v7 σ = some (r, σ') → W p l e (rmD 7) s m args below meth c H locs 0 0 (MQ below (QiM E r σ') args s 0 0 (eA E)) (F0 m 6 ls []))  (k0 : Nat) (v1 : Int32) (v3 : Int32) (v4 : Int32) (v5 : Int32) (v6 : Int32) (v7 : Int32) (hk0 : kd k0 = 12) {σ : Mem} {H : Heap} {locs : List Loc} {ls : Array Slot} (hH : Hs E s σ H locs) (hl : lv_has ls 8 [(0, .ref (ea E k0)), (1, .int v1), (3, .int v3), (4, .int v4), (5, .int v5), (6, .int v6), (7, .int v7)]) (h : X12_fitting_b6 K6 k0 v1 v3 v4 v5 v6 v7 σ = some (r, σ')) : W p l e (rmD 7) s m args below meth c H locs 0 0 (MQ below (QiM E r σ') args s 0 0 (eA E)) (F0 m 6 ls []) := by
  obtain ⟨⟨hx, hb, hml, hown, hts⟩, hr, hlocks, hF, hAd⟩ := id C0
  unfold X12_fitting_b6 at h
  refine lv_iload hx hb dX12_fitting_6 (lv_at hl 6 rfl) ?_
  refine lv_iload_n hx hb dX12_fitting_8 rfl (lv_at hl 2 rfl) ?_
  refine lv_icmp_gt (tgt := 54) hx hb dX12_fitting_9 (by decide) (fun c1 => ?_) (fun c1 => ?_)
  · replace h := if_t h c1
    refine lv_iload hx hb dX12_fitting_54 (lv_at hl 5 rfl) ?_
    exact r_iret C0 hH (pj1 h) (pj2 h) dX12_fitting_56
  · replace h := if_f h c1
    refine lv_aload_n hx hb dX12_fitting_12 rfl (lv_at hl 0 rfl) ?_
    obtain ⟨σ2, qσ2, h⟩ := ob_s h
    refine go_v hH (va_run_V (As := []) (rest := []) C0 hH lk_X12_308 (c_X12_layThen hAd k0 hk0 σ qσ2) (by decide) (ci := 12) hk0 (by decide) (cob_12 _ _ _) rfl rfl hl.1 rfl (Nat.le_of_ble_eq_true rfl) dX12_fitting_13) (fun H locs hH => ?_)
    refine lv_aload_n hx hb dX12_fitting_16 rfl (lv_at hl 0 rfl) ?_
    refine gf_X12_25 C0 hH hk0 dX12_fitting_17 ?_
    refine lv_iload_n hx hb dX12_fitting_20 rfl (lv_at hl 1 rfl) ?_
    refine lv_iload hx hb dX12_fitting_21 (lv_at hl 6 rfl) ?_
    obtain ⟨b3, h⟩ := gdx_s h
    refine r_iast C0 hH (n := 43) (kf_12_6 hk0) b3 dX12_fitting_23 (fun H locs hH => ?_)
    refine lv_iload hx hb dX12_fitting_24 (lv_at hl 5 rfl) ?_
    refine lv_aload_n hx hb dX12_fitting_26 rfl (lv_at hl 0 rfl) ?_
    refine lv_iload hx hb dX12_fitting_27 (lv_at hl 3 rfl) ?_
    refine lv_iload hx hb dX12_fitting_29 (lv_at hl 4 rfl) ?_
    obtain ⟨r4, σ5, qr4, h⟩ := ob2_s h
    refine go_i hH (va_run_V (As := [.int v4, .int v5]) (rest := [.int v6]) C0 hH lk_X12_313 (c_X12_areHandsSo hAd k0 v4 v5 hk0 (wr σ2 (k0 + 6) (nc v1) v7) qr4) (by decide) (ci := 12) hk0 (by decide) (cob_12 _ _ _) rfl rfl hl.1 rfl (Nat.le_of_ble_eq_true rfl) dX12_fitting_31) (fun H locs hH => ?_)
    refine lv_if_eq (tgt := 44) hx hb dX12_fitting_34 (by decide) (fun c6 => ?_) (fun c6 => ?_)
    · replace h := if_t h c6
      refine lv_iconst (v := 0) hx hb dX12_fitting_44 (by decide) ?_
      exact w_X12_fitting_b45 C0 K6 hK6 k0 v1 v3 v4 v5 v7 v6 0 hk0 hH (lv_sub hl [0, 1, 2, 3, 4, 6] rfl) h
    · replace h := if_f h c6
      refine lv_iconst (v := 1) hx hb dX12_fitting_37 (by decide) ?_
      refine lv_iload hx hb dX12_fitting_38 (lv_at hl 6 rfl) ?_
      refine lv_ishl hx hb dX12_fitting_40 ?_
      refine lv_goto (tgt := 45) hx hb dX12_fitting_41 (by decide) ?_
      exact w_X12_fitting_b45 C0 K6 hK6 k0 v1 v3 v4 v5 v7 v6 (shl 1 v7) hk0 hH (lv_sub hl [0, 1, 2, 3, 4, 6] rfl) h
set_option maxRecDepth 100000 in
set_option maxHeartbeats 4000000 in
theorem w_X12_fitting_l6 {r : Int32} {σ' : Mem} (C0 : Cx E p m c cX12_fitting 8 s args RX12 meth (some .int))  (n : Nat) : ∀ (k0 : Nat) (v1 : Int32) (v3 : Int32) (v4 : Int32) (v5 : Int32) (v6 : Int32) (v7 : Int32) (hk0 : kd k0 = 12) (σ : Mem) (H : Heap) (locs : List Loc) (ls : Array Slot), Hs E s σ H locs → lv_has ls 8 [(0, .ref (ea E k0)), (1, .int v1), (3, .int v3), (4, .int v4), (5, .int v5), (6, .int v6), (7, .int v7)] → X12_fitting_l6 n k0 v1 v3 v4 v5 v6 v7 σ = some (r, σ') → W p l e (rmD 7) s m args below meth c H locs 0 0 (MQ below (QiM E r σ') args s 0 0 (eA E)) (F0 m 6 ls []) := by
  induction n with
  | zero =>
    intro k0 v1 v3 v4 v5 v6 v7 hk0 σ H locs ls hH hl h
    cases h
  | succ n ih =>
    intro k0 v1 v3 v4 v5 v6 v7 hk0 σ H locs ls hH hl h
    exact w_X12_fitting_b6 C0 (X12_fitting_l6 n)  ih k0 v1 v3 v4 v5 v6 v7 hk0 hH hl h
set_option maxRecDepth 100000 in
set_option maxHeartbeats 4000000 in
theorem w_X12_fitting_b0 {r : Int32} {σ' : Mem} (C0 : Cx E p m c cX12_fitting 8 s args RX12 meth (some .int))  (k0 : Nat) (v1 : Int32) (v2 : Int32) (v3 : Int32) (v4 : Int32) (v5 : Int32) (hk0 : kd k0 = 12) {σ : Mem} {H : Heap} {locs : List Loc} {ls : Array Slot} (hH : Hs E s σ H locs) (hl : lv_has ls 8 [(0, .ref (ea E k0)), (1, .int v1), (2, .int v2), (3, .int v3), (4, .int v4), (5, .int v5)]) (h : X12_fitting_b0 k0 v1 v2 v3 v4 v5 σ = some (r, σ')) : W p l e (rmD 7) s m args below meth c H locs 0 0 (MQ below (QiM E r σ') args s 0 0 (eA E)) (F0 m 0 ls []) := by
  obtain ⟨⟨hx, hb, hml, hown, hts⟩, hr, hlocks, hF, hAd⟩ := id C0
  unfold X12_fitting_b0 at h
  refine lv_iconst (v := 0) hx hb dX12_fitting_0 (by decide) ?_
  refine lv_istore (lv' := [(6, .int 0), (0, .ref (ea E k0)), (1, .int v1), (2, .int v2), (3, .int v3), (4, .int v4), (5, .int v5)]) hx hb dX12_fitting_1 hl (by decide) rfl (fun ls hl => ?_)
  refine lv_iload_n hx hb dX12_fitting_3 rfl (lv_at hl 3 rfl) ?_
  refine lv_istore (lv' := [(7, .int v2), (6, .int 0), (0, .ref (ea E k0)), (1, .int v1), (2, .int v2), (3, .int v3), (4, .int v4), (5, .int v5)]) hx hb dX12_fitting_4 hl (by decide) rfl (fun ls hl => ?_)
  exact w_X12_fitting_l6 C0  FU k0 v1 v3 v4 v5 0 v2 hk0 _ _ _ _ hH (lv_sub hl [2, 3, 5, 6, 7, 1, 0] rfl) h
theorem c_X12_fitting {l : Launch} {E : EnvT} (hAd : Ad E) (k0 : Nat) (v1 : Int32) (v2 : Int32) (v3 : Int32) (v4 : Int32) (v5 : Int32) (hk0 : kd k0 = 12) (σ : Mem) {r : Int32} {σ' : Mem} (h : X12_fitting k0 v1 v2 v3 v4 v5 σ = some (r, σ')) : Met l yX12_fitting (wsM yX12_fitting cX12_fitting 8 (some .int)) (rmD 7) (PcM E [.ref (ea E k0), .int v1, .int v2, .int v3, .int v4, .int v5] σ) (QiM E r σ') 0 0 (eA E) :=
  Met.ofM (by decide) (Nat.le_of_ble_eq_true rfl) (fun p e s m below meth c ls C0 hH hl => w_X12_fitting_b0 C0 k0 v1 v2 v3 v4 v5 hk0 hH hl h) hAd
set_option maxRecDepth 100000 in
set_option maxHeartbeats 4000000 in
theorem w_X12_fittingLimits_b57 {r : Int32} {σ' : Mem} (C0 : Cx E p m c cX12_fittingLimits 7 s args RX12 meth (some .int)) (K14 : Nat → Int32 → Int32 → Int32 → Int32 → Int32 → Int32 → Mem → Option (Int32 × Mem)) (hK14 : ∀ (k0 : Nat) (v1 : Int32) (v2 : Int32) (v3 : Int32) (v4 : Int32) (v5 : Int32) (v6 : Int32) (hk0 : kd k0 = 12) (σ : Mem) (H : Heap) (locs : List Loc) (ls : Array Slot), Hs E s σ H locs → lv_has ls 7 [(0, .ref (ea E k0)), (1, .int v1), (2, .int v2), (3, .int v3), (4, .int v4), (5, .int v5), (6, .int v6)] → K14 k0 v1 v2 v3 v4 v5 v6 σ = some (r, σ') → W p l e (rmD 7) s m args below meth c H locs 0 0 (MQ below (QiM E r σ') args s 0 0 (eA E)) (F0 m 14 ls []))  (k0 : Nat) (v1 : Int32) (v2 : Int32) (v3 : Int32) (v4 : Int32) (v5 : Int32) (v6 : Int32) (hk0 : kd k0 = 12) {σ : Mem} {H : Heap} {locs : List Loc} {ls : Array Slot} (hH : Hs E s σ H locs) (hl : lv_has ls 7 [(0, .ref (ea E k0)), (1, .int v1), (2, .int v2), (3, .int v3), (4, .int v4), (5, .int v5), (6, .int v6)]) (h : X12_fittingLimits_b57 K14 k0 v1 v2 v3 v4 v5 v6 σ = some (r, σ')) : W p l e (rmD 7) s m args below meth c H locs 0 0 (MQ below (QiM E r σ') args s 0 0 (eA E)) (F0 m 57 ls []) := by
  obtain ⟨⟨hx, hb, hml, hown, hts⟩, hr, hlocks, hF, hAd⟩ := id C0
  unfold X12_fittingLimits_b57 at h
  refine lv_iinc (v := v6 + 1) (lv' := [(6, .int (v6 + 1)), (0, .ref (ea E k0)), (1, .int v1), (2, .int v2), (3, .int v3), (4, .int v4), (5, .int v5)]) hx hb dX12_fittingLimits_57 hl (k := 6) rfl rfl (by decide) rfl (fun ls hl => ?_)
  refine lv_goto (tgt := 14) hx hb dX12_fittingLimits_60 (by decide) ?_
  exact hK14 k0 v1 v2 v3 v4 v5 (v6 + 1) hk0 _ _ _ _ hH (lv_sub hl [1, 2, 3, 4, 5, 6, 0] rfl) h
set_option maxRecDepth 100000 in
set_option maxHeartbeats 4000000 in
theorem w_X12_fittingLimits_b55 {r : Int32} {σ' : Mem} (C0 : Cx E p m c cX12_fittingLimits 7 s args RX12 meth (some .int)) (K14 : Nat → Int32 → Int32 → Int32 → Int32 → Int32 → Int32 → Mem → Option (Int32 × Mem)) (hK14 : ∀ (k0 : Nat) (v1 : Int32) (v2 : Int32) (v3 : Int32) (v4 : Int32) (v5 : Int32) (v6 : Int32) (hk0 : kd k0 = 12) (σ : Mem) (H : Heap) (locs : List Loc) (ls : Array Slot), Hs E s σ H locs → lv_has ls 7 [(0, .ref (ea E k0)), (1, .int v1), (2, .int v2), (3, .int v3), (4, .int v4), (5, .int v5), (6, .int v6)] → K14 k0 v1 v2 v3 v4 v5 v6 σ = some (r, σ') → W p l e (rmD 7) s m args below meth c H locs 0 0 (MQ below (QiM E r σ') args s 0 0 (eA E)) (F0 m 14 ls []))  (k0 : Nat) (v1 : Int32) (v2 : Int32) (v3 : Int32) (v4 : Int32) (v6 : Int32) (s0 : Int32) (hk0 : kd k0 = 12) {σ : Mem} {H : Heap} {locs : List Loc} {ls : Array Slot} (hH : Hs E s σ H locs) (hl : lv_has ls 7 [(0, .ref (ea E k0)), (1, .int v1), (2, .int v2), (3, .int v3), (4, .int v4), (6, .int v6)]) (h : X12_fittingLimits_b55 K14 k0 v1 v2 v3 v4 v6 s0 σ = some (r, σ')) : W p l e (rmD 7) s m args below meth c H locs 0 0 (MQ below (QiM E r σ') args s 0 0 (eA E)) (F0 m 55 ls [.int s0]) := by
  obtain ⟨⟨hx, hb, hml, hown, hts⟩, hr, hlocks, hF, hAd⟩ := id C0
  unfold X12_fittingLimits_b55 at h
  refine lv_istore (lv' := [(5, .int s0), (0, .ref (ea E k0)), (1, .int v1), (2, .int v2), (3, .int v3), (4, .int v4), (6, .int v6)]) hx hb dX12_fittingLimits_55 hl (by decide) rfl (fun ls hl => ?_)
  exact w_X12_fittingLimits_b57 C0 K14 hK14 k0 v1 v2 v3 v4 s0 v6 hk0 hH (lv_sub hl [1, 2, 3, 4, 5, 0, 6] rfl) h
set_option maxRecDepth 100000 in
set_option maxHeartbeats 4000000 in
theorem w_X12_fittingLimits_b14 {r : Int32} {σ' : Mem} (C0 : Cx E p m c cX12_fittingLimits 7 s args RX12 meth (some .int)) (K14 : Nat → Int32 → Int32 → Int32 → Int32 → Int32 → Int32 → Mem → Option (Int32 × Mem)) (hK14 : ∀ (k0 : Nat) (v1 : Int32) (v2 : Int32) (v3 : Int32) (v4 : Int32) (v5 : Int32) (v6 : Int32) (hk0 : kd k0 = 12) (σ : Mem) (H : Heap) (locs : List Loc) (ls : Array Slot), Hs E s σ H locs → lv_has ls 7 [(0, .ref (ea E k0)), (1, .int v1), (2, .int v2), (3, .int v3), (4, .int v4), (5, .int v5), (6, .int v6)] → K14 k0 v1 v2 v3 v4 v5 v6 σ = some (r, σ') → W p l e (rmD 7) s m args below meth c H locs 0 0 (MQ below (QiM E r σ') args s 0 0 (eA E)) (F0 m 14 ls []))  (k0 : Nat) (v1 : Int32) (v2 : Int32) (v3 : Int32) (v4 : Int32) (v5 : Int32) (v6 : Int32) (hk0 : kd k0 = 12) {σ : Mem} {H : Heap} {locs : List Loc} {ls : Array Slot} (hH : Hs E s σ H locs) (hl : lv_has ls 7 [(0, .ref (ea E k0)), (1, .int v1), (2, .int v2), (3, .int v3), (4, .int v4), (5, .int v5), (6, .int v6)]) (h : X12_fittingLimits_b14 K14 k0 v1 v2 v3 v4 v5 v6 σ = some (r, σ')) : W p l e (rmD 7) s m args below meth c H locs 0 0 (MQ below (QiM E r σ') args s 0 0 (eA E)) (F0 m 14 ls []) := by
  obtain ⟨⟨hx, hb, hml, hown, hts⟩, hr, hlocks, hF, hAd⟩ := id C0
  unfold X12_fittingLimits_b14 at h
  refine lv_iload hx hb dX12_fittingLimits_14 (lv_at hl 6 rfl) ?_
  refine lv_bipush (v := 60) hx hb dX12_fittingLimits_16 (by decide) ?_
  refine lv_icmp_gt (tgt := 63) hx hb dX12_fittingLimits_18 (by decide) (fun c1 => ?_) (fun c1 => ?_)
  · replace h := if_t h c1
    refine lv_iload_n hx hb dX12_fittingLimits_63 rfl (lv_at hl 1 rfl) ?_
    refine lv_if_ne (tgt := 72) hx hb dX12_fittingLimits_64 (by decide) (fun c2 => ?_) (fun c2 => ?_)
    · replace h := if_f h c2
      refine lv_iload hx hb dX12_fittingLimits_72 (lv_at hl 5 rfl) ?_
      exact r_iret C0 hH (pj1 h) (pj2 h) dX12_fittingLimits_74
    · replace h := if_t h c2
      refine lv_iload hx hb dX12_fittingLimits_67 (lv_at hl 4 rfl) ?_
      refine lv_goto (tgt := 74) hx hb dX12_fittingLimits_69 (by decide) ?_
      exact r_iret C0 hH (pj1 h) (pj2 h) dX12_fittingLimits_74
  · replace h := if_f h c1
    refine lv_aload_n hx hb dX12_fittingLimits_21 rfl (lv_at hl 0 rfl) ?_
    refine gf_X12_25 C0 hH hk0 dX12_fittingLimits_22 ?_
    refine lv_iconst (v := 1) hx hb dX12_fittingLimits_25 (by decide) ?_
    refine lv_iload hx hb dX12_fittingLimits_26 (lv_at hl 6 rfl) ?_
    refine r_iast C0 hH (n := 43) (kf_12_6 hk0) (vin (by decide)) dX12_fittingLimits_28 (fun H locs hH => ?_)
    refine lv_aload_n hx hb dX12_fittingLimits_29 rfl (lv_at hl 0 rfl) ?_
    refine lv_iload_n hx hb dX12_fittingLimits_30 rfl (lv_at hl 2 rfl) ?_
    refine lv_iload_n hx hb dX12_fittingLimits_31 rfl (lv_at hl 3 rfl) ?_
    obtain ⟨r3, σ4, qr3, h⟩ := ob2_s h
    refine go_i hH (va_run_V (As := [.int v2, .int v3]) (rest := []) C0 hH lk_X12_313 (c_X12_areHandsSo hAd k0 v2 v3 hk0 (wr σ (k0 + 6) (nc 1) v6) qr3) (by decide) (ci := 12) hk0 (by decide) (cob_12 _ _ _) rfl rfl hl.1 rfl (Nat.le_of_ble_eq_true rfl) dX12_fittingLimits_32) (fun H locs hH => ?_)
    refine lv_if_eq (tgt := 57) hx hb dX12_fittingLimits_35 (by decide) (fun c5 => ?_) (fun c5 => ?_)
    · replace h := if_t h c5
      exact w_X12_fittingLimits_b57 C0 K14 hK14 k0 v1 v2 v3 v4 v5 v6 hk0 hH (lv_sub hl [0, 1, 2, 3, 4, 5, 6] rfl) h
    · replace h := if_f h c5
      refine lv_iinc (v := v4 + 1) (lv' := [(4, .int (v4 + 1)), (0, .ref (ea E k0)), (1, .int v1), (2, .int v2), (3, .int v3), (5, .int v5), (6, .int v6)]) hx hb dX12_fittingLimits_38 hl (k := 4) rfl rfl (by decide) rfl (fun ls hl => ?_)
      refine lv_iload hx hb dX12_fittingLimits_41 (lv_at hl 5 rfl) ?_
      refine lv_ldc hx hb hown (hts _ qK_X12_112) dX12_fittingLimits_43 ?_
      refine lv_icmp_ne (tgt := 53) hx hb dX12_fittingLimits_45 (by decide) (fun c6 => ?_) (fun c6 => ?_)
      · replace h := if_f h c6
        refine lv_iload hx hb dX12_fittingLimits_53 (lv_at hl 5 rfl) ?_
        exact w_X12_fittingLimits_b55 C0 K14 hK14 k0 v1 v2 v3 (v4 + 1) v6 v5 hk0 hH (lv_sub hl [1, 2, 3, 4, 0, 6] rfl) h
      · replace h := if_t h c6
        refine lv_iload hx hb dX12_fittingLimits_48 (lv_at hl 6 rfl) ?_
        refine lv_goto (tgt := 55) hx hb dX12_fittingLimits_50 (by decide) ?_
        exact w_X12_fittingLimits_b55 C0 K14 hK14 k0 v1 v2 v3 (v4 + 1) v6 v6 hk0 hH (lv_sub hl [1, 2, 3, 4, 0, 6] rfl) h
set_option maxRecDepth 100000 in
set_option maxHeartbeats 4000000 in
theorem w_X12_fittingLimits_l14 {r : Int32} {σ' : Mem} (C0 : Cx E p m c cX12_fittingLimits 7 s args RX12 meth (some .int))  (n : Nat) : ∀ (k0 : Nat) (v1 : Int32) (v2 : Int32) (v3 : Int32) (v4 : Int32) (v5 : Int32) (v6 : Int32) (hk0 : kd k0 = 12) (σ : Mem) (H : Heap) (locs : List Loc) (ls : Array Slot), Hs E s σ H locs → lv_has ls 7 [(0, .ref (ea E k0)), (1, .int v1), (2, .int v2), (3, .int v3), (4, .int v4), (5, .int v5), (6, .int v6)] → X12_fittingLimits_l14 n k0 v1 v2 v3 v4 v5 v6 σ = some (r, σ') → W p l e (rmD 7) s m args below meth c H locs 0 0 (MQ below (QiM E r σ') args s 0 0 (eA E)) (F0 m 14 ls []) := by
  induction n with
  | zero =>
    intro k0 v1 v2 v3 v4 v5 v6 hk0 σ H locs ls hH hl h
    cases h
  | succ n ih =>
    intro k0 v1 v2 v3 v4 v5 v6 hk0 σ H locs ls hH hl h
    exact w_X12_fittingLimits_b14 C0 (X12_fittingLimits_l14 n)  ih k0 v1 v2 v3 v4 v5 v6 hk0 hH hl h
set_option maxRecDepth 100000 in
set_option maxHeartbeats 4000000 in
theorem w_X12_fittingLimits_b0 {r : Int32} {σ' : Mem} (C0 : Cx E p m c cX12_fittingLimits 7 s args RX12 meth (some .int))  (k0 : Nat) (v1 : Int32) (v2 : Int32) (v3 : Int32) (hk0 : kd k0 = 12) {σ : Mem} {H : Heap} {locs : List Loc} {ls : Array Slot} (hH : Hs E s σ H locs) (hl : lv_has ls 7 [(0, .ref (ea E k0)), (1, .int v1), (2, .int v2), (3, .int v3)]) (h : X12_fittingLimits_b0 k0 v1 v2 v3 σ = some (r, σ')) : W p l e (rmD 7) s m args below meth c H locs 0 0 (MQ below (QiM E r σ') args s 0 0 (eA E)) (F0 m 0 ls []) := by
  obtain ⟨⟨hx, hb, hml, hown, hts⟩, hr, hlocks, hF, hAd⟩ := id C0
  unfold X12_fittingLimits_b0 at h
  refine lv_iconst (v := 0) hx hb dX12_fittingLimits_0 (by decide) ?_
  refine lv_istore (lv' := [(4, .int 0), (0, .ref (ea E k0)), (1, .int v1), (2, .int v2), (3, .int v3)]) hx hb dX12_fittingLimits_1 hl (by decide) rfl (fun ls hl => ?_)
  refine lv_ldc hx hb hown (hts _ qK_X12_112) dX12_fittingLimits_3 ?_
  refine lv_istore (lv' := [(5, .int ((-1000000))), (4, .int 0), (0, .ref (ea E k0)), (1, .int v1), (2, .int v2), (3, .int v3)]) hx hb dX12_fittingLimits_5 hl (by decide) rfl (fun ls hl => ?_)
  refine lv_aload_n hx hb dX12_fittingLimits_7 rfl (lv_at hl 2 rfl) ?_
  obtain ⟨σ1, qσ1, h⟩ := ob_s h
  refine go_v hH (va_run_V (As := []) (rest := []) C0 hH lk_X12_308 (c_X12_layThen hAd k0 hk0 σ qσ1) (by decide) (ci := 12) hk0 (by decide) (cob_12 _ _ _) rfl rfl hl.1 rfl (Nat.le_of_ble_eq_true rfl) dX12_fittingLimits_8) (fun H locs hH => ?_)
  refine lv_iconst (v := 0) hx hb dX12_fittingLimits_11 (by decide) ?_
  refine lv_istore (lv' := [(6, .int 0), (5, .int ((-1000000))), (4, .int 0), (0, .ref (ea E k0)), (1, .int v1), (2, .int v2), (3, .int v3)]) hx hb dX12_fittingLimits_12 hl (by decide) rfl (fun ls hl => ?_)
  exact w_X12_fittingLimits_l14 C0  FU k0 v1 v2 v3 0 (-1000000) 0 hk0 _ _ _ _ hH (lv_sub hl [3, 4, 5, 6, 2, 1, 0] rfl) h
theorem c_X12_fittingLimits {l : Launch} {E : EnvT} (hAd : Ad E) (k0 : Nat) (v1 : Int32) (v2 : Int32) (v3 : Int32) (hk0 : kd k0 = 12) (σ : Mem) {r : Int32} {σ' : Mem} (h : X12_fittingLimits k0 v1 v2 v3 σ = some (r, σ')) : Met l yX12_fittingLimits (wsM yX12_fittingLimits cX12_fittingLimits 7 (some .int)) (rmD 7) (PcM E [.ref (ea E k0), .int v1, .int v2, .int v3] σ) (QiM E r σ') 0 0 (eA E) :=
  Met.ofM (by decide) (Nat.le_of_ble_eq_true rfl) (fun p e s m below meth c ls C0 hH hl => w_X12_fittingLimits_b0 C0 k0 v1 v2 v3 hk0 hH hl h) hAd
set_option maxRecDepth 100000 in
set_option maxHeartbeats 4000000 in
theorem w_X12_who_b90 {r : Int32} {σ' : Mem} (C0 : Cx E p m c cX12_who 8 s args RX12 meth (some .int))  (k0 : Nat) (hk0 : kd k0 = 12) {σ : Mem} {H : Heap} {locs : List Loc} {ls : Array Slot} (hH : Hs E s σ H locs) (hl : lv_has ls 8 [(0, .ref (ea E k0))]) (h : X12_who_b90 k0 σ = some (r, σ')) : W p l e (rmD 8) s m args below meth c H locs 0 0 (MQ below (QiM E r σ') args s 0 0 (eA E)) (F0 m 90 ls []) := by
  obtain ⟨⟨hx, hb, hml, hown, hts⟩, hr, hlocks, hF, hAd⟩ := id C0
  unfold X12_who_b90 at h
  refine lv_aload_n hx hb dX12_who_90 rfl (lv_at hl 0 rfl) ?_
  refine lv_iconst (v := 2) hx hb dX12_who_91 (by decide) ?_
  obtain ⟨r1, σ2, qr1, h⟩ := ob2_s h
  refine go_i hH (va_run_V (As := [.int 2]) (rest := []) C0 hH lk_X12_86 (c_X12_finding hAd k0 2 hk0 σ qr1) (by decide) (ci := 12) hk0 (by decide) (cob_12 _ _ _) rfl rfl hl.1 rfl (Nat.le_of_ble_eq_true rfl) dX12_who_92) (fun H locs hH => ?_)
  exact r_iret C0 hH (pj1 h) (pj2 h) dX12_who_95
set_option maxRecDepth 100000 in
set_option maxHeartbeats 4000000 in
theorem w_X12_who_b0 {r : Int32} {σ' : Mem} (C0 : Cx E p m c cX12_who 8 s args RX12 meth (some .int))  (k0 : Nat) (v1 : Int32) (v2 : Int32) (v3 : Int32) (v4 : Int32) (v5 : Int32) (hk0 : kd k0 = 12) {σ : Mem} {H : Heap} {locs : List Loc} {ls : Array Slot} (hH : Hs E s σ H locs) (hl : lv_has ls 8 [(0, .ref (ea E k0)), (1, .int v1), (2, .int v2), (3, .int v3), (4, .int v4), (5, .int v5)]) (h : X12_who_b0 k0 v1 v2 v3 v4 v5 σ = some (r, σ')) : W p l e (rmD 8) s m args below meth c H locs 0 0 (MQ below (QiM E r σ') args s 0 0 (eA E)) (F0 m 0 ls []) := by
  obtain ⟨⟨hx, hb, hml, hown, hts⟩, hr, hlocks, hF, hAd⟩ := id C0
  unfold X12_who_b0 at h
  refine lv_aload_n hx hb dX12_who_0 rfl (lv_at hl 0 rfl) ?_
  refine lv_iload_n hx hb dX12_who_1 rfl (lv_at hl 1 rfl) ?_
  obtain ⟨r1, qr1, h⟩ := ob_s h
  refine go_i hH (va_run_V (As := [.int v1]) (rest := []) C0 hH lk_X12_178 (c_X12_isPage hAd k0 v1 hk0 σ qr1) (by decide) (ci := 12) hk0 (by decide) (cob_12 _ _ _) rfl rfl hl.1 rfl (Nat.le_of_ble_eq_true rfl) dX12_who_2) (fun H locs hH => ?_)
  refine lv_if_eq (tgt := 44) hx hb dX12_who_5 (by decide) (fun c2 => ?_) (fun c2 => ?_)
  · replace h := if_t h c2
    refine lv_ldc hx hb hown (hts _ qK_X12_85) dX12_who_44 ?_
    exact r_iret C0 hH (pj1 h) (pj2 h) dX12_who_46
  · replace h := if_f h c2
    refine lv_iload_n hx hb dX12_who_8 rfl (lv_at hl 2 rfl) ?_
    refine lv_i2l (v := Int32.toInt64 v2) hx hb dX12_who_9 rfl ?_
    refine lv_lconst (v := 0) hx hb dX12_who_10 (by decide) ?_
    refine lv_ldc2 hx hb hown (hts _ qL_X12_163) dX12_who_11 ?_
    refine go_i hH (va_run_S (As := [.long (Int32.toInt64 v2), .long 0, .long 5]) (rest := []) C0 hH lk_X12_75 (c_X12_in hAd (Int32.toInt64 v2) 0 5  σ rfl) (by decide) rfl hl.1 rfl (Nat.le_of_ble_eq_true rfl) dX12_who_14) (fun H locs hH => ?_)
    refine lv_if_eq (tgt := 44) hx hb dX12_who_17 (by decide) (fun c3 => ?_) (fun c3 => ?_)
    · replace h := if_t h c3
      refine lv_ldc hx hb hown (hts _ qK_X12_85) dX12_who_44 ?_
      exact r_iret C0 hH (pj1 h) (pj2 h) dX12_who_46
    · replace h := if_f h c3
      refine lv_iload_n hx hb dX12_who_20 rfl (lv_at hl 3 rfl) ?_
      refine go_i hH (va_run_S (As := [.int v3]) (rest := []) C0 hH lk_X12_79 (c_X12_isRow hAd v3  σ rfl) (by decide) rfl hl.1 rfl (Nat.le_of_ble_eq_true rfl) dX12_who_21) (fun H locs hH => ?_)
      refine lv_if_eq (tgt := 44) hx hb dX12_who_24 (by decide) (fun c4 => ?_) (fun c4 => ?_)
      · replace h := if_t h c4
        refine lv_ldc hx hb hown (hts _ qK_X12_85) dX12_who_44 ?_
        exact r_iret C0 hH (pj1 h) (pj2 h) dX12_who_46
      · replace h := if_f h c4
        refine lv_iload hx hb dX12_who_27 (lv_at hl 5 rfl) ?_
        refine lv_i2l (v := Int32.toInt64 v5) hx hb dX12_who_29 rfl ?_
        refine lv_lconst (v := 1) hx hb dX12_who_30 (by decide) ?_
        refine lv_aload_n hx hb dX12_who_31 rfl (lv_at hl 0 rfl) ?_
        refine gf_X12_19 C0 hH hk0 dX12_who_32 ?_
        refine lv_iconst (v := 0) hx hb dX12_who_35 (by decide) ?_
        refine r_iald C0 hH (n := 43) (kf_12_4 hk0) (vin (by decide)) dX12_who_36 ?_
        refine lv_i2l (v := Int32.toInt64 (σ (k0 + 4) (nc 0))) hx hb dX12_who_37 rfl ?_
        refine go_i hH (va_run_S (As := [.long (Int32.toInt64 v5), .long 1, .long (Int32.toInt64 (σ (k0 + 4) (nc 0)))]) (rest := []) C0 hH lk_X12_75 (c_X12_in hAd (Int32.toInt64 v5) 1 (Int32.toInt64 (σ (k0 + 4) (nc 0)))  σ rfl) (by decide) rfl hl.1 rfl (Nat.le_of_ble_eq_true rfl) dX12_who_38) (fun H locs hH => ?_)
        refine lv_if_ne (tgt := 47) hx hb dX12_who_41 (by decide) (fun c5 => ?_) (fun c5 => ?_)
        · replace h := if_f h c5
          refine lv_aload_n hx hb dX12_who_47 rfl (lv_at hl 0 rfl) ?_
          refine lv_iconst (v := 0) hx hb dX12_who_48 (by decide) ?_
          refine pf_X12_68 C0 hH hk0 dX12_who_49 (fun H locs hH => ?_)
          refine lv_aload_n hx hb dX12_who_52 rfl (lv_at hl 0 rfl) ?_
          refine gf_X12_7 C0 hH hk0 dX12_who_53 ?_
          refine lv_iload_n hx hb dX12_who_56 rfl (lv_at hl 3 rfl) ?_
          obtain ⟨σ6, eσ6, h⟩ := letv_s h
          replace hH := hs_of eσ6 hH
          obtain ⟨b7, h⟩ := gdx_s h
          refine r_iald C0 hH (n := 8) (kf_12_1 hk0) b7 dX12_who_57 ?_
          refine lv_if_ge (tgt := 67) hx hb dX12_who_58 (by decide) (fun c8 => ?_) (fun c8 => ?_)
          · replace h := if_t h c8
            refine lv_iload hx hb dX12_who_67 (lv_at hl 4 rfl) ?_
            refine lv_if_lt (tgt := 90) hx hb dX12_who_69 (by decide) (fun c9 => ?_) (fun c9 => ?_)
            · replace h := if_t h c9
              exact w_X12_who_b90 C0  k0 hk0 hH (lv_sub hl [0] rfl) h
            · replace h := if_f h c9
              refine lv_iload hx hb dX12_who_72 (lv_at hl 4 rfl) ?_
              refine lv_i2l (v := Int32.toInt64 v4) hx hb dX12_who_74 rfl ?_
              refine lv_iload hx hb dX12_who_75 (lv_at hl 5 rfl) ?_
              refine lv_i2l (v := Int32.toInt64 v5) hx hb dX12_who_77 rfl ?_
              refine lv_ladd hx hb dX12_who_78 ?_
              refine lv_aload_n hx hb dX12_who_79 rfl (lv_at hl 0 rfl) ?_
              refine gf_X12_13 C0 hH hk0 dX12_who_80 ?_
              refine lv_iload_n hx hb dX12_who_83 rfl (lv_at hl 3 rfl) ?_
              obtain ⟨b10, h⟩ := gdx_s h
              refine r_iald C0 hH (n := 8) (kf_12_2 hk0) b10 dX12_who_84 ?_
              refine lv_i2l (v := Int32.toInt64 (σ6 (k0 + 2) (nc v3))) hx hb dX12_who_85 rfl ?_
              refine W.lcmp hx hb dX12_who_86 ?_
              refine lv_if_le (tgt := 96) hx hb dX12_who_87 (by decide) (fun c11 => ?_) (fun c11 => ?_)
              · replace h := if_t h c11
                refine lv_bipush (v := 40) hx hb dX12_who_96 (by decide) ?_
                refine lv_iload_n hx hb dX12_who_98 rfl (lv_at hl 3 rfl) ?_
                refine lv_imul hx hb dX12_who_99 ?_
                refine lv_iload hx hb dX12_who_100 (lv_at hl 4 rfl) ?_
                refine lv_iadd hx hb dX12_who_102 ?_
                obtain ⟨x12, ex12, h⟩ := letv_s h
                refine topi_of ex12 ?_
                refine lv_istore (lv' := [(6, .int x12), (0, .ref (ea E k0)), (1, .int v1), (2, .int v2), (3, .int v3), (4, .int v4), (5, .int v5)]) hx hb dX12_who_103 hl (by decide) rfl (fun ls hl => ?_)
                refine lv_iconst (v := 3) hx hb dX12_who_105 (by decide) ?_
                refine lv_iconst (v := 4) hx hb dX12_who_106 (by decide) ?_
                refine lv_iload_n hx hb dX12_who_107 rfl (lv_at hl 2 rfl) ?_
                refine lv_imul hx hb dX12_who_108 ?_
                refine lv_iadd hx hb dX12_who_109 ?_
                obtain ⟨x13, ex13, h⟩ := letv_s h
                refine topi_of ex13 ?_
                refine lv_istore (lv' := [(7, .int x13), (6, .int x12), (0, .ref (ea E k0)), (1, .int v1), (2, .int v2), (3, .int v3), (4, .int v4), (5, .int v5)]) hx hb dX12_who_110 hl (by decide) rfl (fun ls hl => ?_)
                refine lv_iload_n hx hb dX12_who_112 rfl (lv_at hl 4 rfl) ?_
                refine lv_iconst (v := 2) hx hb dX12_who_113 (by decide) ?_
                refine lv_icmp_ge (tgt := 129) hx hb dX12_who_114 (by decide) (fun c14 => ?_) (fun c14 => ?_)
                · replace h := if_t h c14
                  refine lv_iload_n hx hb dX12_who_129 rfl (lv_at hl 4 rfl) ?_
                  refine lv_iconst (v := 2) hx hb dX12_who_130 (by decide) ?_
                  refine lv_icmp_ne (tgt := 149) hx hb dX12_who_131 (by decide) (fun c15 => ?_) (fun c15 => ?_)
                  · replace h := if_f h c15
                    refine lv_aload_n hx hb dX12_who_149 rfl (lv_at hl 2 rfl) ?_
                    refine lv_iload hx hb dX12_who_150 (lv_at hl 0 rfl) ?_
                    refine lv_iload_n hx hb dX12_who_152 rfl (lv_at hl 4 rfl) ?_
                    refine lv_iadd hx hb dX12_who_153 ?_
                    refine lv_iconst (v := 2) hx hb dX12_who_154 (by decide) ?_
                    refine lv_isub hx hb dX12_who_155 ?_
                    refine lv_iconst (v := 0) hx hb dX12_who_156 (by decide) ?_
                    refine lv_bipush (v := 30) hx hb dX12_who_157 (by decide) ?_
                    refine lv_iload hx hb dX12_who_159 (lv_at hl 1 rfl) ?_
                    refine lv_iload hx hb dX12_who_161 (lv_at hl 7 rfl) ?_
                    obtain ⟨r16, σ17, qr16, h⟩ := ob2_s h
                    refine go_i hH (va_run_V (As := [.int ((x13 + v2) - 2), .int 0, .int 30, .int x12, .int v5]) (rest := []) C0 hH lk_X12_320 (c_X12_fitting hAd k0 ((x13 + v2) - 2) 0 30 x12 v5 hk0 σ6 qr16) (by decide) (ci := 12) hk0 (by decide) (cob_12 _ _ _) rfl rfl hl.1 rfl (Nat.le_of_ble_eq_true rfl) dX12_who_163) (fun H locs hH => ?_)
                    exact r_iret C0 hH (pj1 h) (pj2 h) dX12_who_166
                  · replace h := if_t h c15
                    refine lv_aload_n hx hb dX12_who_134 rfl (lv_at hl 2 rfl) ?_
                    refine lv_iload hx hb dX12_who_135 (lv_at hl 0 rfl) ?_
                    refine lv_iconst (v := 1) hx hb dX12_who_137 (by decide) ?_
                    refine lv_iconst (v := 5) hx hb dX12_who_138 (by decide) ?_
                    refine lv_iload hx hb dX12_who_139 (lv_at hl 1 rfl) ?_
                    refine lv_iload hx hb dX12_who_141 (lv_at hl 7 rfl) ?_
                    obtain ⟨r18, σ19, qr18, h⟩ := ob2_s h
                    refine go_i hH (va_run_V (As := [.int x13, .int 1, .int 5, .int x12, .int v5]) (rest := []) C0 hH lk_X12_320 (c_X12_fitting hAd k0 x13 1 5 x12 v5 hk0 σ6 qr18) (by decide) (ci := 12) hk0 (by decide) (cob_12 _ _ _) rfl rfl hl.1 rfl (Nat.le_of_ble_eq_true rfl) dX12_who_143) (fun H locs hH => ?_)
                    refine lv_goto (tgt := 166) hx hb dX12_who_146 (by decide) ?_
                    exact r_iret C0 hH (pj1 h) (pj2 h) dX12_who_166
                · replace h := if_f h c14
                  refine lv_aload_n hx hb dX12_who_117 rfl (lv_at hl 2 rfl) ?_
                  refine lv_iload_n hx hb dX12_who_118 rfl (lv_at hl 4 rfl) ?_
                  refine lv_iload hx hb dX12_who_119 (lv_at hl 1 rfl) ?_
                  refine lv_iload hx hb dX12_who_121 (lv_at hl 7 rfl) ?_
                  obtain ⟨r20, σ21, qr20, h⟩ := ob2_s h
                  refine go_i hH (va_run_V (As := [.int v2, .int x12, .int v5]) (rest := []) C0 hH lk_X12_316 (c_X12_fittingLimits hAd k0 v2 x12 v5 hk0 σ6 qr20) (by decide) (ci := 12) hk0 (by decide) (cob_12 _ _ _) rfl rfl hl.1 rfl (Nat.le_of_ble_eq_true rfl) dX12_who_123) (fun H locs hH => ?_)
                  refine lv_goto (tgt := 166) hx hb dX12_who_126 (by decide) ?_
                  exact r_iret C0 hH (pj1 h) (pj2 h) dX12_who_166
              · replace h := if_f h c11
                exact w_X12_who_b90 C0  k0 hk0 hH (lv_sub hl [0] rfl) h
          · replace h := if_f h c8
            refine lv_aload_n hx hb dX12_who_61 rfl (lv_at hl 0 rfl) ?_
            refine lv_iconst (v := 1) hx hb dX12_who_62 (by decide) ?_
            obtain ⟨r22, σ23, qr22, h⟩ := ob2_s h
            refine go_i hH (va_run_V (As := [.int 1]) (rest := []) C0 hH lk_X12_86 (c_X12_finding hAd k0 1 hk0 σ6 qr22) (by decide) (ci := 12) hk0 (by decide) (cob_12 _ _ _) rfl rfl hl.1 rfl (Nat.le_of_ble_eq_true rfl) dX12_who_63) (fun H locs hH => ?_)
            exact r_iret C0 hH (pj1 h) (pj2 h) dX12_who_66
        · replace h := if_t h c5
          refine lv_ldc hx hb hown (hts _ qK_X12_85) dX12_who_44 ?_
          exact r_iret C0 hH (pj1 h) (pj2 h) dX12_who_46
theorem c_X12_who {l : Launch} {E : EnvT} (hAd : Ad E) (k0 : Nat) (v1 : Int32) (v2 : Int32) (v3 : Int32) (v4 : Int32) (v5 : Int32) (hk0 : kd k0 = 12) (σ : Mem) {r : Int32} {σ' : Mem} (h : X12_who k0 v1 v2 v3 v4 v5 σ = some (r, σ')) : Met l yX12_who (wsM yX12_who cX12_who 8 (some .int)) (rmD 8) (PcM E [.ref (ea E k0), .int v1, .int v2, .int v3, .int v4, .int v5] σ) (QiM E r σ') 0 0 (eA E) :=
  Met.ofM (by decide) (Nat.le_of_ble_eq_true rfl) (fun p e s m below meth c ls C0 hH hl => w_X12_who_b0 C0 k0 v1 v2 v3 v4 v5 hk0 hH hl h) hAd
set_option maxRecDepth 100000 in
set_option maxHeartbeats 4000000 in
theorem w_X12_lost_b203 {r : Int64} {σ' : Mem} (C0 : Cx E p m c cX12_lost 14 s args RX12 meth (some .long)) (K203 : Int32 → Int64 → Int64 → Int64 → Int64 → Mem → Option (Int64 × Mem)) (hK203 : ∀ (v3 : Int32) (v4 : Int64) (v6 : Int64) (v8 : Int64) (v10 : Int64)  (σ : Mem) (H : Heap) (locs : List Loc) (ls : Array Slot), Hs E s σ H locs → lv_has ls 14 [(3, .int v3), (4, .long v4), (6, .long v6), (8, .long v8), (10, .long v10)] → K203 v3 v4 v6 v8 v10 σ = some (r, σ') → W p l e (rmD 5) s m args below meth c H locs 0 0 (MQ below (QlM E r σ') args s 0 0 (eA E)) (F0 m 203 ls []))  (v3 : Int32) (v4 : Int64) (v6 : Int64) (v8 : Int64) (v10 : Int64)  {σ : Mem} {H : Heap} {locs : List Loc} {ls : Array Slot} (hH : Hs E s σ H locs) (hl : lv_has ls 14 [(3, .int v3), (4, .long v4), (6, .long v6), (8, .long v8), (10, .long v10)]) (h : X12_lost_b203 K203 v3 v4 v6 v8 v10 σ = some (r, σ')) : W p l e (rmD 5) s m args below meth c H locs 0 0 (MQ below (QlM E r σ') args s 0 0 (eA E)) (F0 m 203 ls []) := by
  obtain ⟨⟨hx, hb, hml, hown, hts⟩, hr, hlocks, hF, hAd⟩ := id C0
  unfold X12_lost_b203 at h
  refine lv_lload hx hb dX12_lost_203 (lv_at hl 4 rfl) ?_
  refine lv_lconst (v := 0) hx hb dX12_lost_205 (by decide) ?_
  refine W.lcmp hx hb dX12_lost_206 ?_
  refine lv_if_eq (tgt := 228) hx hb dX12_lost_207 (by decide) (fun c1 => ?_) (fun c1 => ?_)
  · replace h := if_t h c1
    refine lv_iload_n hx hb dX12_lost_228 rfl (lv_at hl 0 rfl) ?_
    refine lv_if_ne (tgt := 237) hx hb dX12_lost_229 (by decide) (fun c2 => ?_) (fun c2 => ?_)
    · replace h := if_f h c2
      refine lv_lload hx hb dX12_lost_237 (lv_at hl 2 rfl) ?_
      refine lv_lload hx hb dX12_lost_239 (lv_at hl 3 rfl) ?_
      obtain ⟨z3, h⟩ := gdl_s h
      refine lv_ldiv hx hb dX12_lost_241 z3 ?_
      exact r_lret C0 hH (pj1 h) (pj2 h) dX12_lost_242
    · replace h := if_t h c2
      refine lv_lload hx hb dX12_lost_232 (lv_at hl 1 rfl) ?_
      refine lv_goto (tgt := 239) hx hb dX12_lost_234 (by decide) ?_
      refine lv_lload hx hb dX12_lost_239 (lv_at hl 3 rfl) ?_
      obtain ⟨z4, h⟩ := gdl_s h
      refine lv_ldiv hx hb dX12_lost_241 z4 ?_
      exact r_lret C0 hH (pj1 h) (pj2 h) dX12_lost_242
  · replace h := if_f h c1
    refine lv_lload hx hb dX12_lost_210 (lv_at hl 3 rfl) ?_
    refine lv_lload hx hb dX12_lost_212 (lv_at hl 4 rfl) ?_
    obtain ⟨z5, h⟩ := gdl_s h
    refine lv_lrem hx hb dX12_lost_214 z5 ?_
    obtain ⟨x6, ex6, h⟩ := letv_s h
    refine topl_of ex6 ?_
    refine lv_lstore (lv' := [(12, .long x6), (3, .int v3), (4, .long v4), (6, .long v6), (8, .long v8), (10, .long v10)]) hx hb dX12_lost_215 hl (by decide) rfl (fun ls hl => ?_)
    refine lv_lload hx hb dX12_lost_217 (lv_at hl 5 rfl) ?_
    refine lv_lstore (lv' := [(8, .long v10), (12, .long x6), (3, .int v3), (4, .long v4), (6, .long v6), (10, .long v10)]) hx hb dX12_lost_219 hl (by decide) rfl (fun ls hl => ?_)
    refine lv_lload hx hb dX12_lost_221 (lv_at hl 1 rfl) ?_
    refine lv_lstore (lv' := [(10, .long x6), (8, .long v10), (12, .long x6), (3, .int v3), (4, .long v4), (6, .long v6)]) hx hb dX12_lost_223 hl (by decide) rfl (fun ls hl => ?_)
    refine lv_goto (tgt := 203) hx hb dX12_lost_225 (by decide) ?_
    exact hK203 v3 v4 v6 v10 x6  _ _ _ _ hH (lv_sub hl [3, 4, 5, 1, 0] rfl) h
set_option maxRecDepth 100000 in
set_option maxHeartbeats 4000000 in
theorem w_X12_lost_l203 {r : Int64} {σ' : Mem} (C0 : Cx E p m c cX12_lost 14 s args RX12 meth (some .long))  (n : Nat) : ∀ (v3 : Int32) (v4 : Int64) (v6 : Int64) (v8 : Int64) (v10 : Int64)  (σ : Mem) (H : Heap) (locs : List Loc) (ls : Array Slot), Hs E s σ H locs → lv_has ls 14 [(3, .int v3), (4, .long v4), (6, .long v6), (8, .long v8), (10, .long v10)] → X12_lost_l203 n v3 v4 v6 v8 v10 σ = some (r, σ') → W p l e (rmD 5) s m args below meth c H locs 0 0 (MQ below (QlM E r σ') args s 0 0 (eA E)) (F0 m 203 ls []) := by
  induction n with
  | zero =>
    intro v3 v4 v6 v8 v10  σ H locs ls hH hl h
    cases h
  | succ n ih =>
    intro v3 v4 v6 v8 v10  σ H locs ls hH hl h
    exact w_X12_lost_b203 C0 (X12_lost_l203 n)  ih v3 v4 v6 v8 v10  hH hl h
set_option maxRecDepth 100000 in
set_option maxHeartbeats 4000000 in
theorem w_X12_lost_b186 {r : Int64} {σ' : Mem} (C0 : Cx E p m c cX12_lost 14 s args RX12 meth (some .long)) (K72 : Nat → Int32 → Int32 → Int32 → Int64 → Int64 → Int32 → Mem → Option (Int64 × Mem)) (hK72 : ∀ (k0 : Nat) (v1 : Int32) (v2 : Int32) (v3 : Int32) (v4 : Int64) (v6 : Int64) (v8 : Int32) (hk0 : kd k0 = 12) (σ : Mem) (H : Heap) (locs : List Loc) (ls : Array Slot), Hs E s σ H locs → lv_has ls 14 [(0, .ref (ea E k0)), (1, .int v1), (2, .int v2), (3, .int v3), (4, .long v4), (6, .long v6), (8, .int v8)] → K72 k0 v1 v2 v3 v4 v6 v8 σ = some (r, σ') → W p l e (rmD 5) s m args below meth c H locs 0 0 (MQ below (QlM E r σ') args s 0 0 (eA E)) (F0 m 72 ls []))  (k0 : Nat) (v1 : Int32) (v2 : Int32) (v3 : Int32) (v6 : Int64) (v8 : Int32) (s0 : Int64) (s1 : Int64) (hk0 : kd k0 = 12) {σ : Mem} {H : Heap} {locs : List Loc} {ls : Array Slot} (hH : Hs E s σ H locs) (hl : lv_has ls 14 [(0, .ref (ea E k0)), (1, .int v1), (2, .int v2), (3, .int v3), (6, .long v6), (8, .int v8)]) (h : X12_lost_b186 K72 k0 v1 v2 v3 v6 v8 s0 s1 σ = some (r, σ')) : W p l e (rmD 5) s m args below meth c H locs 0 0 (MQ below (QlM E r σ') args s 0 0 (eA E)) (F0 m 186 ls [.long s1, .long s0]) := by
  obtain ⟨⟨hx, hb, hml, hown, hts⟩, hr, hlocks, hF, hAd⟩ := id C0
  unfold X12_lost_b186 at h
  refine lv_ladd hx hb dX12_lost_186 ?_
  obtain ⟨x1, ex1, h⟩ := letv_s h
  refine topl_of ex1 ?_
  refine lv_lstore (lv' := [(4, .long x1), (0, .ref (ea E k0)), (1, .int v1), (2, .int v2), (3, .int v3), (6, .long v6), (8, .int v8)]) hx hb dX12_lost_187 hl (by decide) rfl (fun ls hl => ?_)
  refine lv_iinc (v := v8 + 1) (lv' := [(8, .int (v8 + 1)), (4, .long x1), (0, .ref (ea E k0)), (1, .int v1), (2, .int v2), (3, .int v3), (6, .long v6)]) hx hb dX12_lost_189 hl (k := 6) rfl rfl (by decide) rfl (fun ls hl => ?_)
  refine lv_goto (tgt := 72) hx hb dX12_lost_192 (by decide) ?_
  exact hK72 k0 v1 v2 v3 x1 v6 (v8 + 1) hk0 _ _ _ _ hH (lv_sub hl [2, 3, 4, 5, 1, 6, 0] rfl) h
set_option maxRecDepth 100000 in
set_option maxHeartbeats 4000000 in
theorem w_X12_lost_b171 {r : Int64} {σ' : Mem} (C0 : Cx E p m c cX12_lost 14 s args RX12 meth (some .long)) (K72 : Nat → Int32 → Int32 → Int32 → Int64 → Int64 → Int32 → Mem → Option (Int64 × Mem)) (hK72 : ∀ (k0 : Nat) (v1 : Int32) (v2 : Int32) (v3 : Int32) (v4 : Int64) (v6 : Int64) (v8 : Int32) (hk0 : kd k0 = 12) (σ : Mem) (H : Heap) (locs : List Loc) (ls : Array Slot), Hs E s σ H locs → lv_has ls 14 [(0, .ref (ea E k0)), (1, .int v1), (2, .int v2), (3, .int v3), (4, .long v4), (6, .long v6), (8, .int v8)] → K72 k0 v1 v2 v3 v4 v6 v8 σ = some (r, σ') → W p l e (rmD 5) s m args below meth c H locs 0 0 (MQ below (QlM E r σ') args s 0 0 (eA E)) (F0 m 72 ls []))  (k0 : Nat) (v1 : Int32) (v2 : Int32) (v3 : Int32) (v4 : Int64) (v6 : Int64) (v8 : Int32) (v9 : Int64) (s0 : Int32) (hk0 : kd k0 = 12) {σ : Mem} {H : Heap} {locs : List Loc} {ls : Array Slot} (hH : Hs E s σ H locs) (hl : lv_has ls 14 [(0, .ref (ea E k0)), (1, .int v1), (2, .int v2), (3, .int v3), (4, .long v4), (6, .long v6), (8, .int v8), (9, .long v9)]) (h : X12_lost_b171 K72 k0 v1 v2 v3 v4 v6 v8 v9 s0 σ = some (r, σ')) : W p l e (rmD 5) s m args below meth c H locs 0 0 (MQ below (QlM E r σ') args s 0 0 (eA E)) (F0 m 171 ls [.int s0]) := by
  obtain ⟨⟨hx, hb, hml, hown, hts⟩, hr, hlocks, hF, hAd⟩ := id C0
  unfold X12_lost_b171 at h
  refine lv_istore (lv' := [(11, .int s0), (0, .ref (ea E k0)), (1, .int v1), (2, .int v2), (3, .int v3), (4, .long v4), (6, .long v6), (8, .int v8), (9, .long v9)]) hx hb dX12_lost_171 hl (by decide) rfl (fun ls hl => ?_)
  refine lv_lload hx hb dX12_lost_173 (lv_at hl 5 rfl) ?_
  refine lv_iload hx hb dX12_lost_175 (lv_at hl 0 rfl) ?_
  refine lv_if_eq (tgt := 185) hx hb dX12_lost_177 (by decide) (fun c1 => ?_) (fun c1 => ?_)
  · replace h := if_t h c1
    refine lv_lconst (v := 0) hx hb dX12_lost_185 (by decide) ?_
    exact w_X12_lost_b186 C0 K72 hK72 k0 v1 v2 v3 v6 v8 v4 0 hk0 hH (lv_sub hl [1, 2, 3, 4, 6, 7] rfl) h
  · replace h := if_f h c1
    refine lv_lload hx hb dX12_lost_180 (lv_at hl 8 rfl) ?_
    refine lv_goto (tgt := 186) hx hb dX12_lost_182 (by decide) ?_
    exact w_X12_lost_b186 C0 K72 hK72 k0 v1 v2 v3 v6 v8 v4 v9 hk0 hH (lv_sub hl [1, 2, 3, 4, 6, 7] rfl) h
set_option maxRecDepth 100000 in
set_option maxHeartbeats 4000000 in
theorem w_X12_lost_b166 {r : Int64} {σ' : Mem} (C0 : Cx E p m c cX12_lost 14 s args RX12 meth (some .long)) (K72 : Nat → Int32 → Int32 → Int32 → Int64 → Int64 → Int32 → Mem → Option (Int64 × Mem)) (hK72 : ∀ (k0 : Nat) (v1 : Int32) (v2 : Int32) (v3 : Int32) (v4 : Int64) (v6 : Int64) (v8 : Int32) (hk0 : kd k0 = 12) (σ : Mem) (H : Heap) (locs : List Loc) (ls : Array Slot), Hs E s σ H locs → lv_has ls 14 [(0, .ref (ea E k0)), (1, .int v1), (2, .int v2), (3, .int v3), (4, .long v4), (6, .long v6), (8, .int v8)] → K72 k0 v1 v2 v3 v4 v6 v8 σ = some (r, σ') → W p l e (rmD 5) s m args below meth c H locs 0 0 (MQ below (QlM E r σ') args s 0 0 (eA E)) (F0 m 72 ls []))  (k0 : Nat) (v1 : Int32) (v2 : Int32) (v3 : Int32) (v4 : Int64) (v6 : Int64) (v8 : Int32) (v9 : Int64) (hk0 : kd k0 = 12) {σ : Mem} {H : Heap} {locs : List Loc} {ls : Array Slot} (hH : Hs E s σ H locs) (hl : lv_has ls 14 [(0, .ref (ea E k0)), (1, .int v1), (2, .int v2), (3, .int v3), (4, .long v4), (6, .long v6), (8, .int v8), (9, .long v9)]) (h : X12_lost_b166 K72 k0 v1 v2 v3 v4 v6 v8 v9 σ = some (r, σ')) : W p l e (rmD 5) s m args below meth c H locs 0 0 (MQ below (QlM E r σ') args s 0 0 (eA E)) (F0 m 166 ls []) := by
  obtain ⟨⟨hx, hb, hml, hown, hts⟩, hr, hlocks, hF, hAd⟩ := id C0
  unfold X12_lost_b166 at h
  refine lv_iconst (v := 1) hx hb dX12_lost_166 (by decide) ?_
  refine lv_goto (tgt := 171) hx hb dX12_lost_167 (by decide) ?_
  exact w_X12_lost_b171 C0 K72 hK72 k0 v1 v2 v3 v4 v6 v8 v9 1 hk0 hH (lv_sub hl [0, 1, 2, 3, 4, 5, 6, 7] rfl) h
set_option maxRecDepth 100000 in
set_option maxHeartbeats 4000000 in
theorem w_X12_lost_b170 {r : Int64} {σ' : Mem} (C0 : Cx E p m c cX12_lost 14 s args RX12 meth (some .long)) (K72 : Nat → Int32 → Int32 → Int32 → Int64 → Int64 → Int32 → Mem → Option (Int64 × Mem)) (hK72 : ∀ (k0 : Nat) (v1 : Int32) (v2 : Int32) (v3 : Int32) (v4 : Int64) (v6 : Int64) (v8 : Int32) (hk0 : kd k0 = 12) (σ : Mem) (H : Heap) (locs : List Loc) (ls : Array Slot), Hs E s σ H locs → lv_has ls 14 [(0, .ref (ea E k0)), (1, .int v1), (2, .int v2), (3, .int v3), (4, .long v4), (6, .long v6), (8, .int v8)] → K72 k0 v1 v2 v3 v4 v6 v8 σ = some (r, σ') → W p l e (rmD 5) s m args below meth c H locs 0 0 (MQ below (QlM E r σ') args s 0 0 (eA E)) (F0 m 72 ls []))  (k0 : Nat) (v1 : Int32) (v2 : Int32) (v3 : Int32) (v4 : Int64) (v6 : Int64) (v8 : Int32) (v9 : Int64) (hk0 : kd k0 = 12) {σ : Mem} {H : Heap} {locs : List Loc} {ls : Array Slot} (hH : Hs E s σ H locs) (hl : lv_has ls 14 [(0, .ref (ea E k0)), (1, .int v1), (2, .int v2), (3, .int v3), (4, .long v4), (6, .long v6), (8, .int v8), (9, .long v9)]) (h : X12_lost_b170 K72 k0 v1 v2 v3 v4 v6 v8 v9 σ = some (r, σ')) : W p l e (rmD 5) s m args below meth c H locs 0 0 (MQ below (QlM E r σ') args s 0 0 (eA E)) (F0 m 170 ls []) := by
  obtain ⟨⟨hx, hb, hml, hown, hts⟩, hr, hlocks, hF, hAd⟩ := id C0
  unfold X12_lost_b170 at h
  refine lv_iconst (v := 0) hx hb dX12_lost_170 (by decide) ?_
  exact w_X12_lost_b171 C0 K72 hK72 k0 v1 v2 v3 v4 v6 v8 v9 0 hk0 hH (lv_sub hl [0, 1, 2, 3, 4, 5, 6, 7] rfl) h
set_option maxRecDepth 100000 in
set_option maxHeartbeats 4000000 in
theorem w_X12_lost_b123 {r : Int64} {σ' : Mem} (C0 : Cx E p m c cX12_lost 14 s args RX12 meth (some .long)) (K72 : Nat → Int32 → Int32 → Int32 → Int64 → Int64 → Int32 → Mem → Option (Int64 × Mem)) (K90 : Nat → Int32 → Int32 → Int32 → Int64 → Int64 → Int32 → Int64 → Int32 → Mem → Option (Int64 × Mem)) (hK72 : ∀ (k0 : Nat) (v1 : Int32) (v2 : Int32) (v3 : Int32) (v4 : Int64) (v6 : Int64) (v8 : Int32) (hk0 : kd k0 = 12) (σ : Mem) (H : Heap) (locs : List Loc) (ls : Array Slot), Hs E s σ H locs → lv_has ls 14 [(0, .ref (ea E k0)), (1, .int v1), (2, .int v2), (3, .int v3), (4, .long v4), (6, .long v6), (8, .int v8)] → K72 k0 v1 v2 v3 v4 v6 v8 σ = some (r, σ') → W p l e (rmD 5) s m args below meth c H locs 0 0 (MQ below (QlM E r σ') args s 0 0 (eA E)) (F0 m 72 ls [])) (hK90 : ∀ (k0 : Nat) (v1 : Int32) (v2 : Int32) (v3 : Int32) (v4 : Int64) (v6 : Int64) (v8 : Int32) (v9 : Int64) (v11 : Int32) (hk0 : kd k0 = 12) (σ : Mem) (H : Heap) (locs : List Loc) (ls : Array Slot), Hs E s σ H locs → lv_has ls 14 [(0, .ref (ea E k0)), (1, .int v1), (2, .int v2), (3, .int v3), (4, .long v4), (6, .long v6), (8, .int v8), (9, .long v9), (11, .int v11)] → K90 k0 v1 v2 v3 v4 v6 v8 v9 v11 σ = some (r, σ') → W p l e (rmD 5) s m args below meth c H locs 0 0 (MQ below (QlM E r σ') args s 0 0 (eA E)) (F0 m 90 ls []))  (k0 : Nat) (v1 : Int32) (v2 : Int32) (v3 : Int32) (v4 : Int64) (v6 : Int64) (v8 : Int32) (v11 : Int32) (s0 : Int64) (s1 : Int64) (hk0 : kd k0 = 12) {σ : Mem} {H : Heap} {locs : List Loc} {ls : Array Slot} (hH : Hs E s σ H locs) (hl : lv_has ls 14 [(0, .ref (ea E k0)), (1, .int v1), (2, .int v2), (3, .int v3), (4, .long v4), (6, .long v6), (8, .int v8), (11, .int v11)]) (h : X12_lost_b123 K72 K90 k0 v1 v2 v3 v4 v6 v8 v11 s0 s1 σ = some (r, σ')) : W p l e (rmD 5) s m args below meth c H locs 0 0 (MQ below (QlM E r σ') args s 0 0 (eA E)) (F0 m 123 ls [.long s1, .long s0]) := by
  obtain ⟨⟨hx, hb, hml, hown, hts⟩, hr, hlocks, hF, hAd⟩ := id C0
  unfold X12_lost_b123 at h
  refine lv_lmul hx hb dX12_lost_123 ?_
  obtain ⟨x1, ex1, h⟩ := letv_s h
  refine topl_of ex1 ?_
  refine lv_lstore (lv' := [(9, .long x1), (0, .ref (ea E k0)), (1, .int v1), (2, .int v2), (3, .int v3), (4, .long v4), (6, .long v6), (8, .int v8), (11, .int v11)]) hx hb dX12_lost_124 hl (by decide) rfl (fun ls hl => ?_)
  refine lv_iinc (v := v11 + 1) (lv' := [(11, .int (v11 + 1)), (9, .long x1), (0, .ref (ea E k0)), (1, .int v1), (2, .int v2), (3, .int v3), (4, .long v4), (6, .long v6), (8, .int v8)]) hx hb dX12_lost_126 hl (k := 8) rfl rfl (by decide) rfl (fun ls hl => ?_)
  refine lv_goto (tgt := 90) hx hb dX12_lost_129 (by decide) ?_
  exact hK90 k0 v1 v2 v3 v4 v6 v8 x1 (v11 + 1) hk0 _ _ _ _ hH (lv_sub hl [2, 3, 4, 5, 6, 7, 8, 1, 0] rfl) h
set_option maxRecDepth 100000 in
set_option maxHeartbeats 4000000 in
theorem w_X12_lost_b90 {r : Int64} {σ' : Mem} (C0 : Cx E p m c cX12_lost 14 s args RX12 meth (some .long)) (K72 : Nat → Int32 → Int32 → Int32 → Int64 → Int64 → Int32 → Mem → Option (Int64 × Mem)) (K90 : Nat → Int32 → Int32 → Int32 → Int64 → Int64 → Int32 → Int64 → Int32 → Mem → Option (Int64 × Mem)) (hK72 : ∀ (k0 : Nat) (v1 : Int32) (v2 : Int32) (v3 : Int32) (v4 : Int64) (v6 : Int64) (v8 : Int32) (hk0 : kd k0 = 12) (σ : Mem) (H : Heap) (locs : List Loc) (ls : Array Slot), Hs E s σ H locs → lv_has ls 14 [(0, .ref (ea E k0)), (1, .int v1), (2, .int v2), (3, .int v3), (4, .long v4), (6, .long v6), (8, .int v8)] → K72 k0 v1 v2 v3 v4 v6 v8 σ = some (r, σ') → W p l e (rmD 5) s m args below meth c H locs 0 0 (MQ below (QlM E r σ') args s 0 0 (eA E)) (F0 m 72 ls [])) (hK90 : ∀ (k0 : Nat) (v1 : Int32) (v2 : Int32) (v3 : Int32) (v4 : Int64) (v6 : Int64) (v8 : Int32) (v9 : Int64) (v11 : Int32) (hk0 : kd k0 = 12) (σ : Mem) (H : Heap) (locs : List Loc) (ls : Array Slot), Hs E s σ H locs → lv_has ls 14 [(0, .ref (ea E k0)), (1, .int v1), (2, .int v2), (3, .int v3), (4, .long v4), (6, .long v6), (8, .int v8), (9, .long v9), (11, .int v11)] → K90 k0 v1 v2 v3 v4 v6 v8 v9 v11 σ = some (r, σ') → W p l e (rmD 5) s m args below meth c H locs 0 0 (MQ below (QlM E r σ') args s 0 0 (eA E)) (F0 m 90 ls []))  (k0 : Nat) (v1 : Int32) (v2 : Int32) (v3 : Int32) (v4 : Int64) (v6 : Int64) (v8 : Int32) (v9 : Int64) (v11 : Int32) (hk0 : kd k0 = 12) {σ : Mem} {H : Heap} {locs : List Loc} {ls : Array Slot} (hH : Hs E s σ H locs) (hl : lv_has ls 14 [(0, .ref (ea E k0)), (1, .int v1), (2, .int v2), (3, .int v3), (4, .long v4), (6, .long v6), (8, .int v8), (9, .long v9), (11, .int v11)]) (h : X12_lost_b90 K72 K90 k0 v1 v2 v3 v4 v6 v8 v9 v11 σ = some (r, σ')) : W p l e (rmD 5) s m args below meth c H locs 0 0 (MQ below (QlM E r σ') args s 0 0 (eA E)) (F0 m 90 ls []) := by
  obtain ⟨⟨hx, hb, hml, hown, hts⟩, hr, hlocks, hF, hAd⟩ := id C0
  unfold X12_lost_b90 at h
  refine lv_iload hx hb dX12_lost_90 (lv_at hl 8 rfl) ?_
  refine lv_aload_n hx hb dX12_lost_92 rfl (lv_at hl 0 rfl) ?_
  refine gf_X12_19 C0 hH hk0 dX12_lost_93 ?_
  refine lv_iconst (v := 0) hx hb dX12_lost_96 (by decide) ?_
  refine r_iald C0 hH (n := 43) (kf_12_4 hk0) (vin (by decide)) dX12_lost_97 ?_
  refine lv_icmp_ge (tgt := 132) hx hb dX12_lost_98 (by decide) (fun c1 => ?_) (fun c1 => ?_)
  · replace h := if_t h c1
    refine lv_lload hx hb dX12_lost_132 (lv_at hl 5 rfl) ?_
    refine lv_lload hx hb dX12_lost_134 (lv_at hl 7 rfl) ?_
    refine lv_ladd hx hb dX12_lost_136 ?_
    obtain ⟨x2, ex2, h⟩ := letv_s h
    refine topl_of ex2 ?_
    refine lv_lstore (lv' := [(6, .long x2), (0, .ref (ea E k0)), (1, .int v1), (2, .int v2), (3, .int v3), (4, .long v4), (8, .int v8), (9, .long v9), (11, .int v11)]) hx hb dX12_lost_137 hl (by decide) rfl (fun ls hl => ?_)
    refine lv_iload hx hb dX12_lost_139 (lv_at hl 6 rfl) ?_
    refine lv_if_eq (tgt := 166) hx hb dX12_lost_141 (by decide) (fun c3 => ?_) (fun c3 => ?_)
    · replace h := if_t h c3
      exact w_X12_lost_b166 C0 K72 hK72 k0 v1 v2 v3 v4 x2 v8 v9 hk0 hH (lv_sub hl [1, 2, 3, 4, 5, 0, 6, 7] rfl) h
    · replace h := if_f h c3
      refine lv_iload_n hx hb dX12_lost_144 rfl (lv_at hl 2 rfl) ?_
      refine lv_if_le (tgt := 170) hx hb dX12_lost_145 (by decide) (fun c4 => ?_) (fun c4 => ?_)
      · replace h := if_t h c4
        exact w_X12_lost_b170 C0 K72 hK72 k0 v1 v2 v3 v4 x2 v8 v9 hk0 hH (lv_sub hl [1, 2, 3, 4, 5, 0, 6, 7] rfl) h
      · replace h := if_f h c4
        refine lv_lload hx hb dX12_lost_148 (lv_at hl 7 rfl) ?_
        refine lv_lconst (v := 0) hx hb dX12_lost_150 (by decide) ?_
        refine W.lcmp hx hb dX12_lost_151 ?_
        refine lv_if_le (tgt := 170) hx hb dX12_lost_152 (by decide) (fun c5 => ?_) (fun c5 => ?_)
        · replace h := if_t h c5
          exact w_X12_lost_b170 C0 K72 hK72 k0 v1 v2 v3 v4 x2 v8 v9 hk0 hH (lv_sub hl [1, 2, 3, 4, 5, 0, 6, 7] rfl) h
        · replace h := if_f h c5
          refine lv_aload_n hx hb dX12_lost_155 rfl (lv_at hl 1 rfl) ?_
          refine lv_iload hx hb dX12_lost_156 (lv_at hl 6 rfl) ?_
          refine lv_iload_n hx hb dX12_lost_158 rfl (lv_at hl 2 rfl) ?_
          refine lv_iconst (v := 0) hx hb dX12_lost_159 (by decide) ?_
          obtain ⟨r6, σ7, qr6, h⟩ := ob2_s h
          refine go_i hH (va_run_V (As := [.int v8, .int v1, .int 0]) (rest := []) C0 hH lk_X12_239 (c_X12_parts hAd k0 v8 v1 0 hk0 σ qr6) (by decide) (ci := 12) hk0 (by decide) (cob_12 _ _ _) rfl rfl hl.1 rfl (Nat.le_of_ble_eq_true rfl) dX12_lost_160) (fun H locs hH => ?_)
          refine lv_if_eq (tgt := 170) hx hb dX12_lost_163 (by decide) (fun c8 => ?_) (fun c8 => ?_)
          · replace h := if_t h c8
            exact w_X12_lost_b170 C0 K72 hK72 k0 v1 v2 v3 v4 x2 v8 v9 hk0 hH (lv_sub hl [1, 2, 3, 4, 5, 0, 6, 7] rfl) h
          · replace h := if_f h c8
            exact w_X12_lost_b166 C0 K72 hK72 k0 v1 v2 v3 v4 x2 v8 v9 hk0 hH (lv_sub hl [1, 2, 3, 4, 5, 0, 6, 7] rfl) h
  · replace h := if_f h c1
    refine lv_lload hx hb dX12_lost_101 (lv_at hl 7 rfl) ?_
    refine lv_iload hx hb dX12_lost_103 (lv_at hl 6 rfl) ?_
    refine lv_iload hx hb dX12_lost_105 (lv_at hl 8 rfl) ?_
    refine go_i hH (va_run_S (As := [.int v8, .int v11]) (rest := [.long v9]) C0 hH lk_X12_90 (c_X12_has hAd v8 v11  σ rfl) (by decide) rfl hl.1 rfl (Nat.le_of_ble_eq_true rfl) dX12_lost_107) (fun H locs hH => ?_)
    refine lv_if_eq (tgt := 121) hx hb dX12_lost_110 (by decide) (fun c9 => ?_) (fun c9 => ?_)
    · replace h := if_t h c9
      refine lv_iload_n hx hb dX12_lost_121 rfl (lv_at hl 2 rfl) ?_
      refine lv_i2l (v := Int32.toInt64 v2) hx hb dX12_lost_122 rfl ?_
      exact w_X12_lost_b123 C0 K72 K90 hK72 hK90 k0 v1 v2 v3 v4 v6 v8 v11 v9 (Int32.toInt64 v2) hk0 hH (lv_sub hl [0, 1, 2, 3, 4, 5, 6, 8] rfl) h
    · replace h := if_f h c9
      refine lv_bipush (v := 10) hx hb dX12_lost_113 (by decide) ?_
      refine lv_iload_n hx hb dX12_lost_115 rfl (lv_at hl 2 rfl) ?_
      refine lv_isub hx hb dX12_lost_116 ?_
      refine lv_i2l (v := Int32.toInt64 (10 - v2)) hx hb dX12_lost_117 rfl ?_
      refine lv_goto (tgt := 123) hx hb dX12_lost_118 (by decide) ?_
      exact w_X12_lost_b123 C0 K72 K90 hK72 hK90 k0 v1 v2 v3 v4 v6 v8 v11 v9 (Int32.toInt64 (10 - v2)) hk0 hH (lv_sub hl [0, 1, 2, 3, 4, 5, 6, 8] rfl) h
set_option maxRecDepth 100000 in
set_option maxHeartbeats 4000000 in
theorem w_X12_lost_l90 {r : Int64} {σ' : Mem} (C0 : Cx E p m c cX12_lost 14 s args RX12 meth (some .long)) (K72 : Nat → Int32 → Int32 → Int32 → Int64 → Int64 → Int32 → Mem → Option (Int64 × Mem)) (hK72 : ∀ (k0 : Nat) (v1 : Int32) (v2 : Int32) (v3 : Int32) (v4 : Int64) (v6 : Int64) (v8 : Int32) (hk0 : kd k0 = 12) (σ : Mem) (H : Heap) (locs : List Loc) (ls : Array Slot), Hs E s σ H locs → lv_has ls 14 [(0, .ref (ea E k0)), (1, .int v1), (2, .int v2), (3, .int v3), (4, .long v4), (6, .long v6), (8, .int v8)] → K72 k0 v1 v2 v3 v4 v6 v8 σ = some (r, σ') → W p l e (rmD 5) s m args below meth c H locs 0 0 (MQ below (QlM E r σ') args s 0 0 (eA E)) (F0 m 72 ls []))  (n : Nat) : ∀ (k0 : Nat) (v1 : Int32) (v2 : Int32) (v3 : Int32) (v4 : Int64) (v6 : Int64) (v8 : Int32) (v9 : Int64) (v11 : Int32) (hk0 : kd k0 = 12) (σ : Mem) (H : Heap) (locs : List Loc) (ls : Array Slot), Hs E s σ H locs → lv_has ls 14 [(0, .ref (ea E k0)), (1, .int v1), (2, .int v2), (3, .int v3), (4, .long v4), (6, .long v6), (8, .int v8), (9, .long v9), (11, .int v11)] → X12_lost_l90 K72 n k0 v1 v2 v3 v4 v6 v8 v9 v11 σ = some (r, σ') → W p l e (rmD 5) s m args below meth c H locs 0 0 (MQ below (QlM E r σ') args s 0 0 (eA E)) (F0 m 90 ls []) := by
  induction n with
  | zero =>
    intro k0 v1 v2 v3 v4 v6 v8 v9 v11 hk0 σ H locs ls hH hl h
    cases h
  | succ n ih =>
    intro k0 v1 v2 v3 v4 v6 v8 v9 v11 hk0 σ H locs ls hH hl h
    exact w_X12_lost_b90 C0 K72 (X12_lost_l90 K72 n) hK72 ih k0 v1 v2 v3 v4 v6 v8 v9 v11 hk0 hH hl h
set_option maxRecDepth 100000 in
set_option maxHeartbeats 4000000 in
theorem w_X12_lost_b72 {r : Int64} {σ' : Mem} (C0 : Cx E p m c cX12_lost 14 s args RX12 meth (some .long)) (K72 : Nat → Int32 → Int32 → Int32 → Int64 → Int64 → Int32 → Mem → Option (Int64 × Mem)) (hK72 : ∀ (k0 : Nat) (v1 : Int32) (v2 : Int32) (v3 : Int32) (v4 : Int64) (v6 : Int64) (v8 : Int32) (hk0 : kd k0 = 12) (σ : Mem) (H : Heap) (locs : List Loc) (ls : Array Slot), Hs E s σ H locs → lv_has ls 14 [(0, .ref (ea E k0)), (1, .int v1), (2, .int v2), (3, .int v3), (4, .long v4), (6, .long v6), (8, .int v8)] → K72 k0 v1 v2 v3 v4 v6 v8 σ = some (r, σ') → W p l e (rmD 5) s m args below meth c H locs 0 0 (MQ below (QlM E r σ') args s 0 0 (eA E)) (F0 m 72 ls []))  (k0 : Nat) (v1 : Int32) (v2 : Int32) (v3 : Int32) (v4 : Int64) (v6 : Int64) (v8 : Int32) (hk0 : kd k0 = 12) {σ : Mem} {H : Heap} {locs : List Loc} {ls : Array Slot} (hH : Hs E s σ H locs) (hl : lv_has ls 14 [(0, .ref (ea E k0)), (1, .int v1), (2, .int v2), (3, .int v3), (4, .long v4), (6, .long v6), (8, .int v8)]) (h : X12_lost_b72 K72 k0 v1 v2 v3 v4 v6 v8 σ = some (r, σ')) : W p l e (rmD 5) s m args below meth c H locs 0 0 (MQ below (QlM E r σ') args s 0 0 (eA E)) (F0 m 72 ls []) := by
  obtain ⟨⟨hx, hb, hml, hown, hts⟩, hr, hlocks, hF, hAd⟩ := id C0
  unfold X12_lost_b72 at h
  refine lv_iload hx hb dX12_lost_72 (lv_at hl 6 rfl) ?_
  refine lv_aload_n hx hb dX12_lost_74 rfl (lv_at hl 0 rfl) ?_
  refine gf_X12_19 C0 hH hk0 dX12_lost_75 ?_
  obtain ⟨r1, qr1, h⟩ := ob_s h
  refine go_i hH (va_run_S (As := [.ref (ea E (k0 + 4))]) (rest := [.int v8]) C0 hH lk_X12_204 (c_X12_allOf hAd (k0 + 4) (kf_12_4 hk0) σ qr1) (by decide) rfl hl.1 rfl (Nat.le_of_ble_eq_true rfl) dX12_lost_78) (fun H locs hH => ?_)
  refine lv_icmp_gt (tgt := 195) hx hb dX12_lost_81 (by decide) (fun c2 => ?_) (fun c2 => ?_)
  · replace h := if_t h c2
    refine lv_lload hx hb dX12_lost_195 (lv_at hl 4 rfl) ?_
    refine lv_lstore (lv' := [(8, .long v4), (0, .ref (ea E k0)), (1, .int v1), (2, .int v2), (3, .int v3), (4, .long v4), (6, .long v6)]) hx hb dX12_lost_197 hl (by decide) rfl (fun ls hl => ?_)
    refine lv_lload hx hb dX12_lost_199 (lv_at hl 6 rfl) ?_
    refine lv_lstore (lv' := [(10, .long v6), (8, .long v4), (0, .ref (ea E k0)), (1, .int v1), (2, .int v2), (3, .int v3), (4, .long v4), (6, .long v6)]) hx hb dX12_lost_201 hl (by decide) rfl (fun ls hl => ?_)
    exact w_X12_lost_l203 C0  FU v3 v4 v6 v4 v6  _ _ _ _ hH (lv_sub hl [5, 6, 7, 1, 0] rfl) h
  · replace h := if_f h c2
    refine lv_lconst (v := 1) hx hb dX12_lost_84 (by decide) ?_
    refine lv_lstore (lv' := [(9, .long 1), (0, .ref (ea E k0)), (1, .int v1), (2, .int v2), (3, .int v3), (4, .long v4), (6, .long v6), (8, .int v8)]) hx hb dX12_lost_85 hl (by decide) rfl (fun ls hl => ?_)
    refine lv_iconst (v := 0) hx hb dX12_lost_87 (by decide) ?_
    refine lv_istore (lv' := [(11, .int 0), (9, .long 1), (0, .ref (ea E k0)), (1, .int v1), (2, .int v2), (3, .int v3), (4, .long v4), (6, .long v6), (8, .int v8)]) hx hb dX12_lost_88 hl (by decide) rfl (fun ls hl => ?_)
    exact w_X12_lost_l90 C0 K72 hK72 FU k0 v1 v2 v3 v4 v6 v8 1 0 hk0 _ _ _ _ hH (lv_sub hl [2, 3, 4, 5, 6, 7, 8, 1, 0] rfl) h
set_option maxRecDepth 100000 in
set_option maxHeartbeats 4000000 in
theorem w_X12_lost_l72 {r : Int64} {σ' : Mem} (C0 : Cx E p m c cX12_lost 14 s args RX12 meth (some .long))  (n : Nat) : ∀ (k0 : Nat) (v1 : Int32) (v2 : Int32) (v3 : Int32) (v4 : Int64) (v6 : Int64) (v8 : Int32) (hk0 : kd k0 = 12) (σ : Mem) (H : Heap) (locs : List Loc) (ls : Array Slot), Hs E s σ H locs → lv_has ls 14 [(0, .ref (ea E k0)), (1, .int v1), (2, .int v2), (3, .int v3), (4, .long v4), (6, .long v6), (8, .int v8)] → X12_lost_l72 n k0 v1 v2 v3 v4 v6 v8 σ = some (r, σ') → W p l e (rmD 5) s m args below meth c H locs 0 0 (MQ below (QlM E r σ') args s 0 0 (eA E)) (F0 m 72 ls []) := by
  induction n with
  | zero =>
    intro k0 v1 v2 v3 v4 v6 v8 hk0 σ H locs ls hH hl h
    cases h
  | succ n ih =>
    intro k0 v1 v2 v3 v4 v6 v8 hk0 σ H locs ls hH hl h
    exact w_X12_lost_b72 C0 (X12_lost_l72 n)  ih k0 v1 v2 v3 v4 v6 v8 hk0 hH hl h
set_option maxRecDepth 100000 in
set_option maxHeartbeats 4000000 in
theorem w_X12_lost_b0 {r : Int64} {σ' : Mem} (C0 : Cx E p m c cX12_lost 14 s args RX12 meth (some .long))  (k0 : Nat) (v1 : Int32) (v2 : Int32) (v3 : Int32) (hk0 : kd k0 = 12) {σ : Mem} {H : Heap} {locs : List Loc} {ls : Array Slot} (hH : Hs E s σ H locs) (hl : lv_has ls 14 [(0, .ref (ea E k0)), (1, .int v1), (2, .int v2), (3, .int v3)]) (h : X12_lost_b0 k0 v1 v2 v3 σ = some (r, σ')) : W p l e (rmD 5) s m args below meth c H locs 0 0 (MQ below (QlM E r σ') args s 0 0 (eA E)) (F0 m 0 ls []) := by
  obtain ⟨⟨hx, hb, hml, hown, hts⟩, hr, hlocks, hF, hAd⟩ := id C0
  unfold X12_lost_b0 at h
  refine lv_aload_n hx hb dX12_lost_0 rfl (lv_at hl 0 rfl) ?_
  obtain ⟨r1, qr1, h⟩ := ob_s h
  refine go_i hH (va_run_V (As := []) (rest := []) C0 hH lk_X12_159 (c_X12_isThere hAd k0 hk0 σ qr1) (by decide) (ci := 12) hk0 (by decide) (cob_12 _ _ _) rfl rfl hl.1 rfl (Nat.le_of_ble_eq_true rfl) dX12_lost_1) (fun H locs hH => ?_)
  refine lv_if_ne (tgt := 11) hx hb dX12_lost_4 (by decide) (fun c2 => ?_) (fun c2 => ?_)
  · replace h := if_f h c2
    refine lv_iload_n hx hb dX12_lost_11 rfl (lv_at hl 1 rfl) ?_
    refine lv_i2l (v := Int32.toInt64 v1) hx hb dX12_lost_12 rfl ?_
    refine lv_lconst (v := 0) hx hb dX12_lost_13 (by decide) ?_
    refine lv_ldc2 hx hb hown (hts _ qL_X12_311) dX12_lost_14 ?_
    refine go_i hH (va_run_S (As := [.long (Int32.toInt64 v1), .long 0, .long 10]) (rest := []) C0 hH lk_X12_75 (c_X12_in hAd (Int32.toInt64 v1) 0 10  σ rfl) (by decide) rfl hl.1 rfl (Nat.le_of_ble_eq_true rfl) dX12_lost_17) (fun H locs hH => ?_)
    refine lv_if_eq (tgt := 45) hx hb dX12_lost_20 (by decide) (fun c3 => ?_) (fun c3 => ?_)
    · replace h := if_t h c3
      refine lv_ldc2 hx hb hown (hts _ qL_X12_326) dX12_lost_45 ?_
      exact r_lret C0 hH (pj1 h) (pj2 h) dX12_lost_48
    · replace h := if_f h c3
      refine lv_iload_n hx hb dX12_lost_23 rfl (lv_at hl 2 rfl) ?_
      refine lv_i2l (v := Int32.toInt64 v2) hx hb dX12_lost_24 rfl ?_
      refine lv_lconst (v := 0) hx hb dX12_lost_25 (by decide) ?_
      refine lv_ldc2 hx hb hown (hts _ qL_X12_311) dX12_lost_26 ?_
      refine go_i hH (va_run_S (As := [.long (Int32.toInt64 v2), .long 0, .long 10]) (rest := []) C0 hH lk_X12_75 (c_X12_in hAd (Int32.toInt64 v2) 0 10  σ rfl) (by decide) rfl hl.1 rfl (Nat.le_of_ble_eq_true rfl) dX12_lost_29) (fun H locs hH => ?_)
      refine lv_if_eq (tgt := 45) hx hb dX12_lost_32 (by decide) (fun c4 => ?_) (fun c4 => ?_)
      · replace h := if_t h c4
        refine lv_ldc2 hx hb hown (hts _ qL_X12_326) dX12_lost_45 ?_
        exact r_lret C0 hH (pj1 h) (pj2 h) dX12_lost_48
      · replace h := if_f h c4
        refine lv_iload_n hx hb dX12_lost_35 rfl (lv_at hl 3 rfl) ?_
        refine lv_i2l (v := Int32.toInt64 v3) hx hb dX12_lost_36 rfl ?_
        refine lv_lconst (v := 0) hx hb dX12_lost_37 (by decide) ?_
        refine lv_lconst (v := 1) hx hb dX12_lost_38 (by decide) ?_
        refine go_i hH (va_run_S (As := [.long (Int32.toInt64 v3), .long 0, .long 1]) (rest := []) C0 hH lk_X12_75 (c_X12_in hAd (Int32.toInt64 v3) 0 1  σ rfl) (by decide) rfl hl.1 rfl (Nat.le_of_ble_eq_true rfl) dX12_lost_39) (fun H locs hH => ?_)
        refine lv_if_ne (tgt := 49) hx hb dX12_lost_42 (by decide) (fun c5 => ?_) (fun c5 => ?_)
        · replace h := if_f h c5
          refine lv_aload_n hx hb dX12_lost_49 rfl (lv_at hl 0 rfl) ?_
          refine lv_aload_n hx hb dX12_lost_50 rfl (lv_at hl 0 rfl) ?_
          refine gf_X12_19 C0 hH hk0 dX12_lost_51 ?_
          refine lv_aload_n hx hb dX12_lost_54 rfl (lv_at hl 0 rfl) ?_
          refine gf_X12_19 C0 hH hk0 dX12_lost_55 ?_
          refine lv_iconst (v := 1) hx hb dX12_lost_58 (by decide) ?_
          refine r_iald C0 hH (n := 43) (kf_12_4 hk0) (vin (by decide)) dX12_lost_59 ?_
          obtain ⟨σ6, qσ6, h⟩ := ob_s h
          refine go_v hH (va_run_V (As := [.ref (ea E (k0 + 4)), .int (σ (k0 + 4) (nc 1))]) (rest := []) C0 hH lk_X12_236 (c_X12_layNear hAd k0 (k0 + 4) (σ (k0 + 4) (nc 1)) hk0 (kf_12_4 hk0) σ qσ6) (by decide) (ci := 12) hk0 (by decide) (cob_12 _ _ _) rfl rfl hl.1 rfl (Nat.le_of_ble_eq_true rfl) dX12_lost_60) (fun H locs hH => ?_)
          refine lv_lconst (v := 0) hx hb dX12_lost_63 (by decide) ?_
          refine lv_lstore (lv' := [(4, .long 0), (0, .ref (ea E k0)), (1, .int v1), (2, .int v2), (3, .int v3)]) hx hb dX12_lost_64 hl (by decide) rfl (fun ls hl => ?_)
          refine lv_lconst (v := 0) hx hb dX12_lost_66 (by decide) ?_
          refine lv_lstore (lv' := [(6, .long 0), (4, .long 0), (0, .ref (ea E k0)), (1, .int v1), (2, .int v2), (3, .int v3)]) hx hb dX12_lost_67 hl (by decide) rfl (fun ls hl => ?_)
          refine lv_iconst (v := 0) hx hb dX12_lost_69 (by decide) ?_
          refine lv_istore (lv' := [(8, .int 0), (6, .long 0), (4, .long 0), (0, .ref (ea E k0)), (1, .int v1), (2, .int v2), (3, .int v3)]) hx hb dX12_lost_70 hl (by decide) rfl (fun ls hl => ?_)
          exact w_X12_lost_l72 C0  FU k0 v1 v2 v3 0 0 0 hk0 _ _ _ _ hH (lv_sub hl [3, 4, 5, 6, 2, 1, 0] rfl) h
        · replace h := if_t h c5
          refine lv_ldc2 hx hb hown (hts _ qL_X12_326) dX12_lost_45 ?_
          exact r_lret C0 hH (pj1 h) (pj2 h) dX12_lost_48
  · replace h := if_t h c2
    refine lv_ldc2 hx hb hown (hts _ qL_X12_324) dX12_lost_7 ?_
    exact r_lret C0 hH (pj1 h) (pj2 h) dX12_lost_10
theorem c_X12_lost {l : Launch} {E : EnvT} (hAd : Ad E) (k0 : Nat) (v1 : Int32) (v2 : Int32) (v3 : Int32) (hk0 : kd k0 = 12) (σ : Mem) {r : Int64} {σ' : Mem} (h : X12_lost k0 v1 v2 v3 σ = some (r, σ')) : Met l yX12_lost (wsM yX12_lost cX12_lost 14 (some .long)) (rmD 5) (PcM E [.ref (ea E k0), .int v1, .int v2, .int v3] σ) (QlM E r σ') 0 0 (eA E) :=
  Met.ofM (by decide) (Nat.le_of_ble_eq_true rfl) (fun p e s m below meth c ls C0 hH hl => w_X12_lost_b0 C0 k0 v1 v2 v3 hk0 hH hl h) hAd
end
