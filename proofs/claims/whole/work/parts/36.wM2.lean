section
variable {p : Program} {l : Launch} {e : Env} {s : State} {m : MethodId} {args : Array Value} {below : List Frame} {meth : Method} {c : Code} {E : EnvT}
set_option maxRecDepth 100000 in
set_option maxHeartbeats 4000000 in
theorem w_X12_opensSet_b0 {σ' : Mem} (C0 : Cx E p m c cX12_opensSet 3 s args RX12 meth (none))  (k0 : Nat) (v1 : Int32) (v2 : Int32) (hk0 : kd k0 = 12) {σ : Mem} {H : Heap} {locs : List Loc} {ls : Array Slot} (hH : Hs E s σ H locs) (hl : lv_has ls 3 [(0, .ref (ea E k0)), (1, .int v1), (2, .int v2)]) (h : X12_opensSet_b0 k0 v1 v2 σ = some σ') : W p l e (rmD 3) s m args below meth c H locs 0 0 (MQ below (QvM E σ') args s 0 0 (eA E)) (F0 m 0 ls []) := by
  obtain ⟨⟨hx, hb, hml, hown, hts⟩, hr, hlocks, hF, hAd⟩ := id C0
  unfold X12_opensSet_b0 at h
  refine lv_aload_n hx hb dX12_opensSet_0 rfl (lv_at hl 0 rfl) ?_
  refine gf_X12_40 C0 hH hk0 dX12_opensSet_1 ?_
  refine lv_iload_n hx hb dX12_opensSet_4 rfl (lv_at hl 1 rfl) ?_
  refine lv_iload_n hx hb dX12_opensSet_5 rfl (lv_at hl 2 rfl) ?_
  obtain ⟨b1, h⟩ := gdx_s h
  refine r_iast C0 hH (n := 11) (kf_12_20 hk0) b1 dX12_opensSet_6 (fun H locs hH => ?_)
  refine lv_aload_n hx hb dX12_opensSet_7 rfl (lv_at hl 0 rfl) ?_
  refine gf_X12_43 C0 hH hk0 dX12_opensSet_8 ?_
  refine lv_iload_n hx hb dX12_opensSet_11 rfl (lv_at hl 1 rfl) ?_
  refine lv_iload_n hx hb dX12_opensSet_12 rfl (lv_at hl 2 rfl) ?_
  refine lv_aload_n hx hb dX12_opensSet_13 rfl (lv_at hl 0 rfl) ?_
  refine lv_iload_n hx hb dX12_opensSet_14 rfl (lv_at hl 1 rfl) ?_
  obtain ⟨r2, qr2, h⟩ := ob_s h
  refine go_i hH (va_run_V (As := [.int v1]) (rest := [.int v2, .int v1, .ref (ea E (k0 + 12))]) C0 hH lk_X12_218 (c_X12_oneOf hAd k0 v1 hk0 (wr σ (k0 + 11) (nc v1) v2) qr2) (by decide) (ci := 12) hk0 (by decide) (cob_12 _ _ _) rfl rfl hl.1 rfl (Nat.le_of_ble_eq_true rfl) dX12_opensSet_15) (fun H locs hH => ?_)
  refine lv_iconst (v := (-1)) hx hb dX12_opensSet_18 (by decide) ?_
  refine lv_ixor hx hb dX12_opensSet_19 ?_
  refine lv_iand hx hb dX12_opensSet_20 ?_
  obtain ⟨σ3, eσ3, h⟩ := letv_s h
  replace hH := hs_of eσ3 hH
  obtain ⟨b4, h⟩ := gdx_s h
  refine r_iast C0 hH (n := 11) (kf_12_21 hk0) b4 dX12_opensSet_21 (fun H locs hH => ?_)
  exact r_vret C0 hH (Option.some.inj h) dX12_opensSet_22
theorem c_X12_opensSet {l : Launch} {E : EnvT} (hAd : Ad E) (k0 : Nat) (v1 : Int32) (v2 : Int32) (hk0 : kd k0 = 12) (σ : Mem) {σ' : Mem} (h : X12_opensSet k0 v1 v2 σ = some σ') : Met l yX12_opensSet (wsM yX12_opensSet cX12_opensSet 3 (none)) (rmD 3) (PcM E [.ref (ea E k0), .int v1, .int v2] σ) (QvM E σ') 0 0 (eA E) :=
  Met.ofM (by decide) (Nat.le_of_ble_eq_true rfl) (fun p e s m below meth c ls C0 hH hl => w_X12_opensSet_b0 C0 k0 v1 v2 hk0 hH hl h) hAd
set_option maxRecDepth 100000 in
set_option maxHeartbeats 4000000 in
theorem w_X12_tells_b128 {σ' : Mem} (C0 : Cx E p m c cX12_tells 6 s args RX12 meth (none)) (K113 : Nat → Int32 → Int32 → Int32 → Mem → Option Mem) (hK113 : ∀ (k0 : Nat) (v2 : Int32) (v3 : Int32) (v4 : Int32) (hk0 : kd k0 = 12) (σ : Mem) (H : Heap) (locs : List Loc) (ls : Array Slot), Hs E s σ H locs → lv_has ls 6 [(0, .ref (ea E k0)), (2, .int v2), (3, .int v3), (4, .int v4)] → K113 k0 v2 v3 v4 σ = some σ' → W p l e (rmD 3) s m args below meth c H locs 0 0 (MQ below (QvM E σ') args s 0 0 (eA E)) (F0 m 113 ls []))  (k0 : Nat) (v2 : Int32) (v3 : Int32) (v4 : Int32) (hk0 : kd k0 = 12) {σ : Mem} {H : Heap} {locs : List Loc} {ls : Array Slot} (hH : Hs E s σ H locs) (hl : lv_has ls 6 [(0, .ref (ea E k0)), (2, .int v2), (3, .int v3), (4, .int v4)]) (h : X12_tells_b128 K113 k0 v2 v3 v4 σ = some σ') : W p l e (rmD 3) s m args below meth c H locs 0 0 (MQ below (QvM E σ') args s 0 0 (eA E)) (F0 m 128 ls []) := by
  obtain ⟨⟨hx, hb, hml, hown, hts⟩, hr, hlocks, hF, hAd⟩ := id C0
  unfold X12_tells_b128 at h
  refine lv_aload_n hx hb dX12_tells_128 rfl (lv_at hl 0 rfl) ?_
  refine gf_X12_46 C0 hH hk0 dX12_tells_129 ?_
  refine lv_iload hx hb dX12_tells_132 (lv_at hl 3 rfl) ?_
  refine lv_aload_n hx hb dX12_tells_134 rfl (lv_at hl 0 rfl) ?_
  refine gf_X12_49 C0 hH hk0 dX12_tells_135 ?_
  refine lv_iload hx hb dX12_tells_138 (lv_at hl 3 rfl) ?_
  obtain ⟨b1, h⟩ := gdx_s h
  refine r_iald C0 hH (n := 10) (kf_12_23 hk0) b1 dX12_tells_140 ?_
  obtain ⟨b2, h⟩ := gdx_s h
  refine r_iast C0 hH (n := 10) (kf_12_22 hk0) b2 dX12_tells_141 (fun H locs hH => ?_)
  refine lv_iinc (v := v4 + 1) (lv' := [(4, .int (v4 + 1)), (0, .ref (ea E k0)), (2, .int v2), (3, .int v3)]) hx hb dX12_tells_142 hl (k := 3) rfl rfl (by decide) rfl (fun ls hl => ?_)
  refine lv_goto (tgt := 113) hx hb dX12_tells_145 (by decide) ?_
  exact hK113 k0 v2 v3 (v4 + 1) hk0 _ _ _ _ hH (lv_sub hl [1, 2, 3, 0] rfl) h
set_option maxRecDepth 100000 in
set_option maxHeartbeats 4000000 in
theorem w_X12_tells_b113 {σ' : Mem} (C0 : Cx E p m c cX12_tells 6 s args RX12 meth (none)) (K113 : Nat → Int32 → Int32 → Int32 → Mem → Option Mem) (hK113 : ∀ (k0 : Nat) (v2 : Int32) (v3 : Int32) (v4 : Int32) (hk0 : kd k0 = 12) (σ : Mem) (H : Heap) (locs : List Loc) (ls : Array Slot), Hs E s σ H locs → lv_has ls 6 [(0, .ref (ea E k0)), (2, .int v2), (3, .int v3), (4, .int v4)] → K113 k0 v2 v3 v4 σ = some σ' → W p l e (rmD 3) s m args below meth c H locs 0 0 (MQ below (QvM E σ') args s 0 0 (eA E)) (F0 m 113 ls []))  (k0 : Nat) (v2 : Int32) (v3 : Int32) (v4 : Int32) (hk0 : kd k0 = 12) {σ : Mem} {H : Heap} {locs : List Loc} {ls : Array Slot} (hH : Hs E s σ H locs) (hl : lv_has ls 6 [(0, .ref (ea E k0)), (2, .int v2), (3, .int v3), (4, .int v4)]) (h : X12_tells_b113 K113 k0 v2 v3 v4 σ = some σ') : W p l e (rmD 3) s m args below meth c H locs 0 0 (MQ below (QvM E σ') args s 0 0 (eA E)) (F0 m 113 ls []) := by
  obtain ⟨⟨hx, hb, hml, hown, hts⟩, hr, hlocks, hF, hAd⟩ := id C0
  unfold X12_tells_b113 at h
  refine lv_iload hx hb dX12_tells_113 (lv_at hl 3 rfl) ?_
  refine lv_bipush (v := 10) hx hb dX12_tells_115 (by decide) ?_
  refine lv_icmp_ge (tgt := 148) hx hb dX12_tells_117 (by decide) (fun c1 => ?_) (fun c1 => ?_)
  · replace h := if_t h c1
    exact r_vret C0 hH (Option.some.inj h) dX12_tells_148
  · replace h := if_f h c1
    refine lv_iload_n hx hb dX12_tells_120 rfl (lv_at hl 1 rfl) ?_
    refine lv_if_ne (tgt := 128) hx hb dX12_tells_121 (by decide) (fun c2 => ?_) (fun c2 => ?_)
    · replace h := if_f h c2
      exact w_X12_tells_b128 C0 K113 hK113 k0 v2 v3 v4 hk0 hH (lv_sub hl [0, 1, 2, 3] rfl) h
    · replace h := if_t h c2
      refine lv_iload_n hx hb dX12_tells_124 rfl (lv_at hl 2 rfl) ?_
      refine lv_if_ge (tgt := 148) hx hb dX12_tells_125 (by decide) (fun c3 => ?_) (fun c3 => ?_)
      · replace h := if_t h c3
        exact r_vret C0 hH (Option.some.inj h) dX12_tells_148
      · replace h := if_f h c3
        exact w_X12_tells_b128 C0 K113 hK113 k0 v2 v3 v4 hk0 hH (lv_sub hl [0, 1, 2, 3] rfl) h
set_option maxRecDepth 100000 in
set_option maxHeartbeats 4000000 in
theorem w_X12_tells_l113 {σ' : Mem} (C0 : Cx E p m c cX12_tells 6 s args RX12 meth (none))  (n : Nat) : ∀ (k0 : Nat) (v2 : Int32) (v3 : Int32) (v4 : Int32) (hk0 : kd k0 = 12) (σ : Mem) (H : Heap) (locs : List Loc) (ls : Array Slot), Hs E s σ H locs → lv_has ls 6 [(0, .ref (ea E k0)), (2, .int v2), (3, .int v3), (4, .int v4)] → X12_tells_l113 n k0 v2 v3 v4 σ = some σ' → W p l e (rmD 3) s m args below meth c H locs 0 0 (MQ below (QvM E σ') args s 0 0 (eA E)) (F0 m 113 ls []) := by
  induction n with
  | zero =>
    intro k0 v2 v3 v4 hk0 σ H locs ls hH hl h
    cases h
  | succ n ih =>
    intro k0 v2 v3 v4 hk0 σ H locs ls hH hl h
    exact w_X12_tells_b113 C0 (X12_tells_l113 n)  ih k0 v2 v3 v4 hk0 hH hl h
set_option maxRecDepth 100000 in
set_option maxHeartbeats 4000000 in
theorem w_X12_tells_b103 {σ' : Mem} (C0 : Cx E p m c cX12_tells 6 s args RX12 meth (none)) (K5 : Nat → Int32 → Int32 → Int32 → Int32 → Mem → Option Mem) (hK5 : ∀ (k0 : Nat) (v1 : Int32) (v2 : Int32) (v3 : Int32) (v4 : Int32) (hk0 : kd k0 = 12) (σ : Mem) (H : Heap) (locs : List Loc) (ls : Array Slot), Hs E s σ H locs → lv_has ls 6 [(0, .ref (ea E k0)), (1, .int v1), (2, .int v2), (3, .int v3), (4, .int v4)] → K5 k0 v1 v2 v3 v4 σ = some σ' → W p l e (rmD 3) s m args below meth c H locs 0 0 (MQ below (QvM E σ') args s 0 0 (eA E)) (F0 m 5 ls []))  (k0 : Nat) (v1 : Int32) (v2 : Int32) (v4 : Int32) (s0 : Int32) (hk0 : kd k0 = 12) {σ : Mem} {H : Heap} {locs : List Loc} {ls : Array Slot} (hH : Hs E s σ H locs) (hl : lv_has ls 6 [(0, .ref (ea E k0)), (1, .int v1), (2, .int v2), (4, .int v4)]) (h : X12_tells_b103 K5 k0 v1 v2 v4 s0 σ = some σ') : W p l e (rmD 3) s m args below meth c H locs 0 0 (MQ below (QvM E σ') args s 0 0 (eA E)) (F0 m 103 ls [.int s0]) := by
  obtain ⟨⟨hx, hb, hml, hown, hts⟩, hr, hlocks, hF, hAd⟩ := id C0
  unfold X12_tells_b103 at h
  refine lv_istore_n (lv' := [(3, .int s0), (0, .ref (ea E k0)), (1, .int v1), (2, .int v2), (4, .int v4)]) hx hb dX12_tells_103 rfl hl (by decide) rfl (fun ls hl => ?_)
  refine lv_iinc (v := v4 + 1) (lv' := [(4, .int (v4 + 1)), (3, .int s0), (0, .ref (ea E k0)), (1, .int v1), (2, .int v2)]) hx hb dX12_tells_104 hl (k := 4) rfl rfl (by decide) rfl (fun ls hl => ?_)
  refine lv_goto (tgt := 5) hx hb dX12_tells_107 (by decide) ?_
  exact hK5 k0 v1 v2 s0 (v4 + 1) hk0 _ _ _ _ hH (lv_sub hl [2, 3, 4, 1, 0] rfl) h
set_option maxRecDepth 100000 in
set_option maxHeartbeats 4000000 in
theorem w_X12_tells_b102 {σ' : Mem} (C0 : Cx E p m c cX12_tells 6 s args RX12 meth (none)) (K5 : Nat → Int32 → Int32 → Int32 → Int32 → Mem → Option Mem) (hK5 : ∀ (k0 : Nat) (v1 : Int32) (v2 : Int32) (v3 : Int32) (v4 : Int32) (hk0 : kd k0 = 12) (σ : Mem) (H : Heap) (locs : List Loc) (ls : Array Slot), Hs E s σ H locs → lv_has ls 6 [(0, .ref (ea E k0)), (1, .int v1), (2, .int v2), (3, .int v3), (4, .int v4)] → K5 k0 v1 v2 v3 v4 σ = some σ' → W p l e (rmD 3) s m args below meth c H locs 0 0 (MQ below (QvM E σ') args s 0 0 (eA E)) (F0 m 5 ls []))  (k0 : Nat) (v1 : Int32) (v2 : Int32) (v3 : Int32) (v4 : Int32) (hk0 : kd k0 = 12) {σ : Mem} {H : Heap} {locs : List Loc} {ls : Array Slot} (hH : Hs E s σ H locs) (hl : lv_has ls 6 [(0, .ref (ea E k0)), (1, .int v1), (2, .int v2), (3, .int v3), (4, .int v4)]) (h : X12_tells_b102 K5 k0 v1 v2 v3 v4 σ = some σ') : W p l e (rmD 3) s m args below meth c H locs 0 0 (MQ below (QvM E σ') args s 0 0 (eA E)) (F0 m 102 ls []) := by
  obtain ⟨⟨hx, hb, hml, hown, hts⟩, hr, hlocks, hF, hAd⟩ := id C0
  unfold X12_tells_b102 at h
  refine lv_iload_n hx hb dX12_tells_102 rfl (lv_at hl 3 rfl) ?_
  exact w_X12_tells_b103 C0 K5 hK5 k0 v1 v2 v4 v3 hk0 hH (lv_sub hl [0, 1, 2, 4] rfl) h
set_option maxRecDepth 100000 in
set_option maxHeartbeats 4000000 in
theorem w_X12_tells_b69 {σ' : Mem} (C0 : Cx E p m c cX12_tells 6 s args RX12 meth (none)) (K5 : Nat → Int32 → Int32 → Int32 → Int32 → Mem → Option Mem) (K23 : Nat → Int32 → Int32 → Int32 → Int32 → Int32 → Mem → Option Mem) (hK5 : ∀ (k0 : Nat) (v1 : Int32) (v2 : Int32) (v3 : Int32) (v4 : Int32) (hk0 : kd k0 = 12) (σ : Mem) (H : Heap) (locs : List Loc) (ls : Array Slot), Hs E s σ H locs → lv_has ls 6 [(0, .ref (ea E k0)), (1, .int v1), (2, .int v2), (3, .int v3), (4, .int v4)] → K5 k0 v1 v2 v3 v4 σ = some σ' → W p l e (rmD 3) s m args below meth c H locs 0 0 (MQ below (QvM E σ') args s 0 0 (eA E)) (F0 m 5 ls [])) (hK23 : ∀ (k0 : Nat) (v1 : Int32) (v2 : Int32) (v3 : Int32) (v4 : Int32) (v5 : Int32) (hk0 : kd k0 = 12) (σ : Mem) (H : Heap) (locs : List Loc) (ls : Array Slot), Hs E s σ H locs → lv_has ls 6 [(0, .ref (ea E k0)), (1, .int v1), (2, .int v2), (3, .int v3), (4, .int v4), (5, .int v5)] → K23 k0 v1 v2 v3 v4 v5 σ = some σ' → W p l e (rmD 3) s m args below meth c H locs 0 0 (MQ below (QvM E σ') args s 0 0 (eA E)) (F0 m 23 ls []))  (k0 : Nat) (v1 : Int32) (v2 : Int32) (v3 : Int32) (v4 : Int32) (v5 : Int32) (s0 : Nat) (s1 : Int32) (s2 : Int32) (hk0 : kd k0 = 12) (hs0 : kd s0 = 110) {σ : Mem} {H : Heap} {locs : List Loc} {ls : Array Slot} (hH : Hs E s σ H locs) (hl : lv_has ls 6 [(0, .ref (ea E k0)), (1, .int v1), (2, .int v2), (3, .int v3), (4, .int v4), (5, .int v5)]) (h : X12_tells_b69 K5 K23 k0 v1 v2 v3 v4 v5 s0 s1 s2 σ = some σ') : W p l e (rmD 3) s m args below meth c H locs 0 0 (MQ below (QvM E σ') args s 0 0 (eA E)) (F0 m 69 ls [.int s2, .int s1, .ref (ea E s0)]) := by
  obtain ⟨⟨hx, hb, hml, hown, hts⟩, hr, hlocks, hF, hAd⟩ := id C0
  unfold X12_tells_b69 at h
  obtain ⟨b1, h⟩ := gdx_s h
  refine r_iast C0 hH (n := 10) hs0 b1 dX12_tells_69 (fun H locs hH => ?_)
  refine lv_iinc (v := v5 + 1) (lv' := [(5, .int (v5 + 1)), (0, .ref (ea E k0)), (1, .int v1), (2, .int v2), (3, .int v3), (4, .int v4)]) hx hb dX12_tells_70 hl (k := 5) rfl rfl (by decide) rfl (fun ls hl => ?_)
  refine lv_goto (tgt := 23) hx hb dX12_tells_73 (by decide) ?_
  exact hK23 k0 v1 v2 v3 v4 (v5 + 1) hk0 _ _ _ _ hH (lv_sub hl [1, 2, 3, 4, 5, 0] rfl) h
set_option maxRecDepth 100000 in
set_option maxHeartbeats 4000000 in
theorem w_X12_tells_b23 {σ' : Mem} (C0 : Cx E p m c cX12_tells 6 s args RX12 meth (none)) (K5 : Nat → Int32 → Int32 → Int32 → Int32 → Mem → Option Mem) (K23 : Nat → Int32 → Int32 → Int32 → Int32 → Int32 → Mem → Option Mem) (hK5 : ∀ (k0 : Nat) (v1 : Int32) (v2 : Int32) (v3 : Int32) (v4 : Int32) (hk0 : kd k0 = 12) (σ : Mem) (H : Heap) (locs : List Loc) (ls : Array Slot), Hs E s σ H locs → lv_has ls 6 [(0, .ref (ea E k0)), (1, .int v1), (2, .int v2), (3, .int v3), (4, .int v4)] → K5 k0 v1 v2 v3 v4 σ = some σ' → W p l e (rmD 3) s m args below meth c H locs 0 0 (MQ below (QvM E σ') args s 0 0 (eA E)) (F0 m 5 ls [])) (hK23 : ∀ (k0 : Nat) (v1 : Int32) (v2 : Int32) (v3 : Int32) (v4 : Int32) (v5 : Int32) (hk0 : kd k0 = 12) (σ : Mem) (H : Heap) (locs : List Loc) (ls : Array Slot), Hs E s σ H locs → lv_has ls 6 [(0, .ref (ea E k0)), (1, .int v1), (2, .int v2), (3, .int v3), (4, .int v4), (5, .int v5)] → K23 k0 v1 v2 v3 v4 v5 σ = some σ' → W p l e (rmD 3) s m args below meth c H locs 0 0 (MQ below (QvM E σ') args s 0 0 (eA E)) (F0 m 23 ls []))  (k0 : Nat) (v1 : Int32) (v2 : Int32) (v3 : Int32) (v4 : Int32) (v5 : Int32) (hk0 : kd k0 = 12) {σ : Mem} {H : Heap} {locs : List Loc} {ls : Array Slot} (hH : Hs E s σ H locs) (hl : lv_has ls 6 [(0, .ref (ea E k0)), (1, .int v1), (2, .int v2), (3, .int v3), (4, .int v4), (5, .int v5)]) (h : X12_tells_b23 K5 K23 k0 v1 v2 v3 v4 v5 σ = some σ') : W p l e (rmD 3) s m args below meth c H locs 0 0 (MQ below (QvM E σ') args s 0 0 (eA E)) (F0 m 23 ls []) := by
  obtain ⟨⟨hx, hb, hml, hown, hts⟩, hr, hlocks, hF, hAd⟩ := id C0
  unfold X12_tells_b23 at h
  refine lv_iload hx hb dX12_tells_23 (lv_at hl 5 rfl) ?_
  refine lv_iload_n hx hb dX12_tells_25 rfl (lv_at hl 1 rfl) ?_
  refine lv_icmp_gt (tgt := 76) hx hb dX12_tells_26 (by decide) (fun c1 => ?_) (fun c1 => ?_)
  · replace h := if_t h c1
    refine lv_iload_n hx hb dX12_tells_76 rfl (lv_at hl 3 rfl) ?_
    refine lv_if_ne (tgt := 102) hx hb dX12_tells_77 (by decide) (fun c2 => ?_) (fun c2 => ?_)
    · replace h := if_f h c2
      exact w_X12_tells_b102 C0 K5 hK5 k0 v1 v2 v3 v4 hk0 hH (lv_sub hl [0, 1, 2, 3, 4] rfl) h
    · replace h := if_t h c2
      refine lv_iload_n hx hb dX12_tells_80 rfl (lv_at hl 2 rfl) ?_
      refine lv_if_ne (tgt := 102) hx hb dX12_tells_81 (by decide) (fun c3 => ?_) (fun c3 => ?_)
      · replace h := if_f h c3
        exact w_X12_tells_b102 C0 K5 hK5 k0 v1 v2 v3 v4 hk0 hH (lv_sub hl [0, 1, 2, 3, 4] rfl) h
      · replace h := if_t h c3
        refine lv_aload_n hx hb dX12_tells_84 rfl (lv_at hl 0 rfl) ?_
        refine gf_X12_49 C0 hH hk0 dX12_tells_85 ?_
        refine lv_iload hx hb dX12_tells_88 (lv_at hl 4 rfl) ?_
        obtain ⟨b4, h⟩ := gdx_s h
        refine r_iald C0 hH (n := 10) (kf_12_23 hk0) b4 dX12_tells_90 ?_
        refine lv_aload_n hx hb dX12_tells_91 rfl (lv_at hl 0 rfl) ?_
        refine gf_X12_46 C0 hH hk0 dX12_tells_92 ?_
        refine lv_iload hx hb dX12_tells_95 (lv_at hl 4 rfl) ?_
        obtain ⟨b5, h⟩ := gdx_s h
        refine r_iald C0 hH (n := 10) (kf_12_22 hk0) b5 dX12_tells_97 ?_
        refine lv_isub hx hb dX12_tells_98 ?_
        refine lv_goto (tgt := 103) hx hb dX12_tells_99 (by decide) ?_
        exact w_X12_tells_b103 C0 K5 hK5 k0 v1 v2 v4 ((σ (k0 + 14) (nc v4)) - (σ (k0 + 13) (nc v4))) hk0 hH (lv_sub hl [0, 1, 2, 4] rfl) h
  · replace h := if_f h c1
    refine lv_aload_n hx hb dX12_tells_29 rfl (lv_at hl 0 rfl) ?_
    refine gf_X12_49 C0 hH hk0 dX12_tells_30 ?_
    refine lv_iload hx hb dX12_tells_33 (lv_at hl 4 rfl) ?_
    refine lv_aload_n hx hb dX12_tells_35 rfl (lv_at hl 0 rfl) ?_
    refine lv_iload hx hb dX12_tells_36 (lv_at hl 5 rfl) ?_
    obtain ⟨r6, qr6, h⟩ := ob_s h
    refine go_i hH (va_run_V (As := [.int v5]) (rest := [.int v4, .ref (ea E (k0 + 14))]) C0 hH lk_X12_218 (c_X12_oneOf hAd k0 v5 hk0 σ qr6) (by decide) (ci := 12) hk0 (by decide) (cob_12 _ _ _) rfl rfl hl.1 rfl (Nat.le_of_ble_eq_true rfl) dX12_tells_38) (fun H locs hH => ?_)
    refine lv_aload_n hx hb dX12_tells_41 rfl (lv_at hl 0 rfl) ?_
    refine gf_X12_43 C0 hH hk0 dX12_tells_42 ?_
    refine lv_iload hx hb dX12_tells_45 (lv_at hl 5 rfl) ?_
    obtain ⟨b7, h⟩ := gdx_s h
    refine r_iald C0 hH (n := 11) (kf_12_21 hk0) b7 dX12_tells_47 ?_
    refine lv_ior hx hb dX12_tells_48 ?_
    refine lv_iload hx hb dX12_tells_49 (lv_at hl 4 rfl) ?_
    refine go_i hH (va_run_S (As := [.int (r6 ||| (σ (k0 + 12) (nc v5))), .int v4]) (rest := [.int v4, .ref (ea E (k0 + 14))]) C0 hH lk_X12_90 (c_X12_has hAd (r6 ||| (σ (k0 + 12) (nc v5))) v4  σ rfl) (by decide) rfl hl.1 rfl (Nat.le_of_ble_eq_true rfl) dX12_tells_51) (fun H locs hH => ?_)
    refine lv_if_eq (tgt := 62) hx hb dX12_tells_54 (by decide) (fun c8 => ?_) (fun c8 => ?_)
    · replace h := if_t h c8
      refine lv_aload_n hx hb dX12_tells_62 rfl (lv_at hl 0 rfl) ?_
      refine gf_X12_49 C0 hH hk0 dX12_tells_63 ?_
      refine lv_iload hx hb dX12_tells_66 (lv_at hl 4 rfl) ?_
      obtain ⟨b9, h⟩ := gdx_s h
      refine r_iald C0 hH (n := 10) (kf_12_23 hk0) b9 dX12_tells_68 ?_
      exact w_X12_tells_b69 C0 K5 K23 hK5 hK23 k0 v1 v2 v3 v4 v5 (k0 + 14) v4 (σ (k0 + 14) (nc v4)) hk0 (kf_12_23 hk0) hH (lv_sub hl [0, 1, 2, 3, 4, 5] rfl) h
    · replace h := if_f h c8
      refine lv_iload hx hb dX12_tells_57 (lv_at hl 5 rfl) ?_
      refine lv_goto (tgt := 69) hx hb dX12_tells_59 (by decide) ?_
      exact w_X12_tells_b69 C0 K5 K23 hK5 hK23 k0 v1 v2 v3 v4 v5 (k0 + 14) v4 v5 hk0 (kf_12_23 hk0) hH (lv_sub hl [0, 1, 2, 3, 4, 5] rfl) h
set_option maxRecDepth 100000 in
set_option maxHeartbeats 4000000 in
theorem w_X12_tells_l23 {σ' : Mem} (C0 : Cx E p m c cX12_tells 6 s args RX12 meth (none)) (K5 : Nat → Int32 → Int32 → Int32 → Int32 → Mem → Option Mem) (hK5 : ∀ (k0 : Nat) (v1 : Int32) (v2 : Int32) (v3 : Int32) (v4 : Int32) (hk0 : kd k0 = 12) (σ : Mem) (H : Heap) (locs : List Loc) (ls : Array Slot), Hs E s σ H locs → lv_has ls 6 [(0, .ref (ea E k0)), (1, .int v1), (2, .int v2), (3, .int v3), (4, .int v4)] → K5 k0 v1 v2 v3 v4 σ = some σ' → W p l e (rmD 3) s m args below meth c H locs 0 0 (MQ below (QvM E σ') args s 0 0 (eA E)) (F0 m 5 ls []))  (n : Nat) : ∀ (k0 : Nat) (v1 : Int32) (v2 : Int32) (v3 : Int32) (v4 : Int32) (v5 : Int32) (hk0 : kd k0 = 12) (σ : Mem) (H : Heap) (locs : List Loc) (ls : Array Slot), Hs E s σ H locs → lv_has ls 6 [(0, .ref (ea E k0)), (1, .int v1), (2, .int v2), (3, .int v3), (4, .int v4), (5, .int v5)] → X12_tells_l23 K5 n k0 v1 v2 v3 v4 v5 σ = some σ' → W p l e (rmD 3) s m args below meth c H locs 0 0 (MQ below (QvM E σ') args s 0 0 (eA E)) (F0 m 23 ls []) := by
  induction n with
  | zero =>
    intro k0 v1 v2 v3 v4 v5 hk0 σ H locs ls hH hl h
    cases h
  | succ n ih =>
    intro k0 v1 v2 v3 v4 v5 hk0 σ H locs ls hH hl h
    exact w_X12_tells_b23 C0 K5 (X12_tells_l23 K5 n) hK5 ih k0 v1 v2 v3 v4 v5 hk0 hH hl h
set_option maxRecDepth 100000 in
set_option maxHeartbeats 4000000 in
theorem w_X12_tells_b5 {σ' : Mem} (C0 : Cx E p m c cX12_tells 6 s args RX12 meth (none)) (K5 : Nat → Int32 → Int32 → Int32 → Int32 → Mem → Option Mem) (hK5 : ∀ (k0 : Nat) (v1 : Int32) (v2 : Int32) (v3 : Int32) (v4 : Int32) (hk0 : kd k0 = 12) (σ : Mem) (H : Heap) (locs : List Loc) (ls : Array Slot), Hs E s σ H locs → lv_has ls 6 [(0, .ref (ea E k0)), (1, .int v1), (2, .int v2), (3, .int v3), (4, .int v4)] → K5 k0 v1 v2 v3 v4 σ = some σ' → W p l e (rmD 3) s m args below meth c H locs 0 0 (MQ below (QvM E σ') args s 0 0 (eA E)) (F0 m 5 ls []))  (k0 : Nat) (v1 : Int32) (v2 : Int32) (v3 : Int32) (v4 : Int32) (hk0 : kd k0 = 12) {σ : Mem} {H : Heap} {locs : List Loc} {ls : Array Slot} (hH : Hs E s σ H locs) (hl : lv_has ls 6 [(0, .ref (ea E k0)), (1, .int v1), (2, .int v2), (3, .int v3), (4, .int v4)]) (h : X12_tells_b5 K5 k0 v1 v2 v3 v4 σ = some σ') : W p l e (rmD 3) s m args below meth c H locs 0 0 (MQ below (QvM E σ') args s 0 0 (eA E)) (F0 m 5 ls []) := by
  obtain ⟨⟨hx, hb, hml, hown, hts⟩, hr, hlocks, hF, hAd⟩ := id C0
  unfold X12_tells_b5 at h
  refine lv_iload hx hb dX12_tells_5 (lv_at hl 4 rfl) ?_
  refine lv_bipush (v := 10) hx hb dX12_tells_7 (by decide) ?_
  refine lv_icmp_ge (tgt := 110) hx hb dX12_tells_9 (by decide) (fun c1 => ?_) (fun c1 => ?_)
  · replace h := if_t h c1
    refine lv_iconst (v := 0) hx hb dX12_tells_110 (by decide) ?_
    refine lv_istore (lv' := [(4, .int 0), (0, .ref (ea E k0)), (1, .int v1), (2, .int v2), (3, .int v3)]) hx hb dX12_tells_111 hl (by decide) rfl (fun ls hl => ?_)
    exact w_X12_tells_l113 C0  FU k0 v2 v3 0 hk0 _ _ _ _ hH (lv_sub hl [1, 3, 4, 0] rfl) h
  · replace h := if_f h c1
    refine lv_aload_n hx hb dX12_tells_12 rfl (lv_at hl 0 rfl) ?_
    refine gf_X12_49 C0 hH hk0 dX12_tells_13 ?_
    refine lv_iload hx hb dX12_tells_16 (lv_at hl 4 rfl) ?_
    refine lv_iconst (v := 0) hx hb dX12_tells_18 (by decide) ?_
    obtain ⟨b2, h⟩ := gdx_s h
    refine r_iast C0 hH (n := 10) (kf_12_23 hk0) b2 dX12_tells_19 (fun H locs hH => ?_)
    refine lv_iconst (v := 0) hx hb dX12_tells_20 (by decide) ?_
    refine lv_istore (lv' := [(5, .int 0), (0, .ref (ea E k0)), (1, .int v1), (2, .int v2), (3, .int v3), (4, .int v4)]) hx hb dX12_tells_21 hl (by decide) rfl (fun ls hl => ?_)
    exact w_X12_tells_l23 C0 K5 hK5 FU k0 v1 v2 v3 v4 0 hk0 _ _ _ _ hH (lv_sub hl [1, 2, 3, 4, 5, 0] rfl) h
set_option maxRecDepth 100000 in
set_option maxHeartbeats 4000000 in
theorem w_X12_tells_l5 {σ' : Mem} (C0 : Cx E p m c cX12_tells 6 s args RX12 meth (none))  (n : Nat) : ∀ (k0 : Nat) (v1 : Int32) (v2 : Int32) (v3 : Int32) (v4 : Int32) (hk0 : kd k0 = 12) (σ : Mem) (H : Heap) (locs : List Loc) (ls : Array Slot), Hs E s σ H locs → lv_has ls 6 [(0, .ref (ea E k0)), (1, .int v1), (2, .int v2), (3, .int v3), (4, .int v4)] → X12_tells_l5 n k0 v1 v2 v3 v4 σ = some σ' → W p l e (rmD 3) s m args below meth c H locs 0 0 (MQ below (QvM E σ') args s 0 0 (eA E)) (F0 m 5 ls []) := by
  induction n with
  | zero =>
    intro k0 v1 v2 v3 v4 hk0 σ H locs ls hH hl h
    cases h
  | succ n ih =>
    intro k0 v1 v2 v3 v4 hk0 σ H locs ls hH hl h
    exact w_X12_tells_b5 C0 (X12_tells_l5 n)  ih k0 v1 v2 v3 v4 hk0 hH hl h
set_option maxRecDepth 100000 in
set_option maxHeartbeats 4000000 in
theorem w_X12_tells_b0 {σ' : Mem} (C0 : Cx E p m c cX12_tells 6 s args RX12 meth (none))  (k0 : Nat) (v1 : Int32) (v2 : Int32) (hk0 : kd k0 = 12) {σ : Mem} {H : Heap} {locs : List Loc} {ls : Array Slot} (hH : Hs E s σ H locs) (hl : lv_has ls 6 [(0, .ref (ea E k0)), (1, .int v1), (2, .int v2)]) (h : X12_tells_b0 k0 v1 v2 σ = some σ') : W p l e (rmD 3) s m args below meth c H locs 0 0 (MQ below (QvM E σ') args s 0 0 (eA E)) (F0 m 0 ls []) := by
  obtain ⟨⟨hx, hb, hml, hown, hts⟩, hr, hlocks, hF, hAd⟩ := id C0
  unfold X12_tells_b0 at h
  refine lv_iconst (v := 0) hx hb dX12_tells_0 (by decide) ?_
  refine lv_istore_n (lv' := [(3, .int 0), (0, .ref (ea E k0)), (1, .int v1), (2, .int v2)]) hx hb dX12_tells_1 rfl hl (by decide) rfl (fun ls hl => ?_)
  refine lv_iconst (v := 0) hx hb dX12_tells_2 (by decide) ?_
  refine lv_istore (lv' := [(4, .int 0), (3, .int 0), (0, .ref (ea E k0)), (1, .int v1), (2, .int v2)]) hx hb dX12_tells_3 hl (by decide) rfl (fun ls hl => ?_)
  exact w_X12_tells_l5 C0  FU k0 v1 v2 0 0 hk0 _ _ _ _ hH (lv_sub hl [2, 3, 4, 1, 0] rfl) h
theorem c_X12_tells {l : Launch} {E : EnvT} (hAd : Ad E) (k0 : Nat) (v1 : Int32) (v2 : Int32) (hk0 : kd k0 = 12) (σ : Mem) {σ' : Mem} (h : X12_tells k0 v1 v2 σ = some σ') : Met l yX12_tells (wsM yX12_tells cX12_tells 6 (none)) (rmD 3) (PcM E [.ref (ea E k0), .int v1, .int v2] σ) (QvM E σ') 0 0 (eA E) :=
  Met.ofM (by decide) (Nat.le_of_ble_eq_true rfl) (fun p e s m below meth c ls C0 hH hl => w_X12_tells_b0 C0 k0 v1 v2 hk0 hH hl h) hAd
set_option maxRecDepth 100000 in
set_option maxHeartbeats 4000000 in
theorem w_X12_parts_b185 {r : Int32} {σ' : Mem} (C0 : Cx E p m c cX12_parts 9 s args RX12 meth (some .boolean)) (K15 : Nat → Int32 → Int32 → Int32 → Int32 → Int32 → Mem → Option (Int32 × Mem)) (hK15 : ∀ (k0 : Nat) (v2 : Int32) (v3 : Int32) (v4 : Int32) (v5 : Int32) (v6 : Int32) (hk0 : kd k0 = 12) (σ : Mem) (H : Heap) (locs : List Loc) (ls : Array Slot), Hs E s σ H locs → lv_has ls 9 [(0, .ref (ea E k0)), (2, .int v2), (3, .int v3), (4, .int v4), (5, .int v5), (6, .int v6)] → K15 k0 v2 v3 v4 v5 v6 σ = some (r, σ') → W p l e (rmD 4) s m args below meth c H locs 0 0 (MQ below (QiM E r σ') args s 0 0 (eA E)) (F0 m 15 ls []))  (k0 : Nat) (v2 : Int32) (v3 : Int32) (v4 : Int32) (v5 : Int32) (v6 : Int32) (hk0 : kd k0 = 12) {σ : Mem} {H : Heap} {locs : List Loc} {ls : Array Slot} (hH : Hs E s σ H locs) (hl : lv_has ls 9 [(0, .ref (ea E k0)), (2, .int v2), (3, .int v3), (4, .int v4), (5, .int v5), (6, .int v6)]) (h : X12_parts_b185 K15 k0 v2 v3 v4 v5 v6 σ = some (r, σ')) : W p l e (rmD 4) s m args below meth c H locs 0 0 (MQ below (QiM E r σ') args s 0 0 (eA E)) (F0 m 185 ls []) := by
  obtain ⟨⟨hx, hb, hml, hown, hts⟩, hr, hlocks, hF, hAd⟩ := id C0
  unfold X12_parts_b185 at h
  refine lv_iinc (v := v6 + 1) (lv' := [(6, .int (v6 + 1)), (0, .ref (ea E k0)), (2, .int v2), (3, .int v3), (4, .int v4), (5, .int v5)]) hx hb dX12_parts_185 hl (k := 5) rfl rfl (by decide) rfl (fun ls hl => ?_)
  refine lv_goto (tgt := 15) hx hb dX12_parts_188 (by decide) ?_
  exact hK15 k0 v2 v3 v4 v5 (v6 + 1) hk0 _ _ _ _ hH (lv_sub hl [1, 2, 3, 4, 5, 0] rfl) h
set_option maxRecDepth 100000 in
set_option maxHeartbeats 4000000 in
theorem w_X12_parts_b130 {r : Int32} {σ' : Mem} (C0 : Cx E p m c cX12_parts 9 s args RX12 meth (some .boolean)) (K15 : Nat → Int32 → Int32 → Int32 → Int32 → Int32 → Mem → Option (Int32 × Mem)) (hK15 : ∀ (k0 : Nat) (v2 : Int32) (v3 : Int32) (v4 : Int32) (v5 : Int32) (v6 : Int32) (hk0 : kd k0 = 12) (σ : Mem) (H : Heap) (locs : List Loc) (ls : Array Slot), Hs E s σ H locs → lv_has ls 9 [(0, .ref (ea E k0)), (2, .int v2), (3, .int v3), (4, .int v4), (5, .int v5), (6, .int v6)] → K15 k0 v2 v3 v4 v5 v6 σ = some (r, σ') → W p l e (rmD 4) s m args below meth c H locs 0 0 (MQ below (QiM E r σ') args s 0 0 (eA E)) (F0 m 15 ls []))  (k0 : Nat) (v2 : Int32) (v3 : Int32) (v4 : Int32) (v5 : Int32) (v6 : Int32) (hk0 : kd k0 = 12) {σ : Mem} {H : Heap} {locs : List Loc} {ls : Array Slot} (hH : Hs E s σ H locs) (hl : lv_has ls 9 [(0, .ref (ea E k0)), (2, .int v2), (3, .int v3), (4, .int v4), (5, .int v5), (6, .int v6)]) (h : X12_parts_b130 K15 k0 v2 v3 v4 v5 v6 σ = some (r, σ')) : W p l e (rmD 4) s m args below meth c H locs 0 0 (MQ below (QiM E r σ') args s 0 0 (eA E)) (F0 m 130 ls []) := by
  obtain ⟨⟨hx, hb, hml, hown, hts⟩, hr, hlocks, hF, hAd⟩ := id C0
  unfold X12_parts_b130 at h
  refine lv_aload_n hx hb dX12_parts_130 rfl (lv_at hl 0 rfl) ?_
  refine lv_iload hx hb dX12_parts_131 (lv_at hl 4 rfl) ?_
  refine lv_iload_n hx hb dX12_parts_133 rfl (lv_at hl 1 rfl) ?_
  obtain ⟨σ1, qσ1, h⟩ := ob_s h
  refine go_v hH (va_run_V (As := [.int v5, .int v2]) (rest := []) C0 hH lk_X12_226 (c_X12_turns hAd k0 v5 v2 hk0 σ qσ1) (by decide) (ci := 12) hk0 (by decide) (cob_12 _ _ _) rfl rfl hl.1 rfl (Nat.le_of_ble_eq_true rfl) dX12_parts_134) (fun H locs hH => ?_)
  refine lv_goto (tgt := 185) hx hb dX12_parts_137 (by decide) ?_
  exact w_X12_parts_b185 C0 K15 hK15 k0 v2 v3 v4 v5 v6 hk0 hH (lv_sub hl [0, 1, 2, 3, 4, 5] rfl) h
set_option maxRecDepth 100000 in
set_option maxHeartbeats 4000000 in
theorem w_X12_parts_b172 {r : Int32} {σ' : Mem} (C0 : Cx E p m c cX12_parts 9 s args RX12 meth (some .boolean)) (K15 : Nat → Int32 → Int32 → Int32 → Int32 → Int32 → Mem → Option (Int32 × Mem)) (hK15 : ∀ (k0 : Nat) (v2 : Int32) (v3 : Int32) (v4 : Int32) (v5 : Int32) (v6 : Int32) (hk0 : kd k0 = 12) (σ : Mem) (H : Heap) (locs : List Loc) (ls : Array Slot), Hs E s σ H locs → lv_has ls 9 [(0, .ref (ea E k0)), (2, .int v2), (3, .int v3), (4, .int v4), (5, .int v5), (6, .int v6)] → K15 k0 v2 v3 v4 v5 v6 σ = some (r, σ') → W p l e (rmD 4) s m args below meth c H locs 0 0 (MQ below (QiM E r σ') args s 0 0 (eA E)) (F0 m 15 ls []))  (k0 : Nat) (v2 : Int32) (v3 : Int32) (v5 : Int32) (v6 : Int32) (s0 : Nat) (s1 : Int32) (s2 : Int32) (hk0 : kd k0 = 12) (hs0 : kd s0 = 12) {σ : Mem} {H : Heap} {locs : List Loc} {ls : Array Slot} (hH : Hs E s σ H locs) (hl : lv_has ls 9 [(0, .ref (ea E k0)), (2, .int v2), (3, .int v3), (5, .int v5), (6, .int v6)]) (h : X12_parts_b172 K15 k0 v2 v3 v5 v6 s0 s1 s2 σ = some (r, σ')) : W p l e (rmD 4) s m args below meth c H locs 0 0 (MQ below (QiM E r σ') args s 0 0 (eA E)) (F0 m 172 ls [.int s2, .int s1, .ref (ea E s0)]) := by
  obtain ⟨⟨hx, hb, hml, hown, hts⟩, hr, hlocks, hF, hAd⟩ := id C0
  unfold X12_parts_b172 at h
  obtain ⟨σ1, qσ1, h⟩ := ob_s h
  refine go_v hH (va_run_V (As := [.int s1, .int s2]) (rest := []) C0 hH lk_X12_232 (c_X12_tells hAd s0 s1 s2 hs0 σ qσ1) (by decide) (ci := 12) hs0 (by decide) (cob_12 _ _ _) rfl rfl hl.1 rfl (Nat.le_of_ble_eq_true rfl) dX12_parts_172) (fun H locs hH => ?_)
  refine lv_iconst (v := 1) hx hb dX12_parts_175 (by decide) ?_
  refine lv_istore (lv' := [(4, .int 1), (0, .ref (ea E k0)), (2, .int v2), (3, .int v3), (5, .int v5), (6, .int v6)]) hx hb dX12_parts_176 hl (by decide) rfl (fun ls hl => ?_)
  refine lv_aload_n hx hb dX12_parts_178 rfl (lv_at hl 1 rfl) ?_
  refine lv_iload hx hb dX12_parts_179 (lv_at hl 4 rfl) ?_
  refine lv_iload_n hx hb dX12_parts_181 rfl (lv_at hl 2 rfl) ?_
  obtain ⟨σ2, qσ2, h⟩ := ob_s h
  refine go_v hH (va_run_V (As := [.int v5, .int v2]) (rest := []) C0 hH lk_X12_226 (c_X12_turns hAd k0 v5 v2 hk0 σ1 qσ2) (by decide) (ci := 12) hk0 (by decide) (cob_12 _ _ _) rfl rfl hl.1 rfl (Nat.le_of_ble_eq_true rfl) dX12_parts_182) (fun H locs hH => ?_)
  exact w_X12_parts_b185 C0 K15 hK15 k0 v2 v3 1 v5 v6 hk0 hH (lv_sub hl [1, 2, 3, 0, 4, 5] rfl) h
set_option maxRecDepth 100000 in
set_option maxHeartbeats 4000000 in
theorem w_X12_parts_b140 {r : Int32} {σ' : Mem} (C0 : Cx E p m c cX12_parts 9 s args RX12 meth (some .boolean)) (K15 : Nat → Int32 → Int32 → Int32 → Int32 → Int32 → Mem → Option (Int32 × Mem)) (hK15 : ∀ (k0 : Nat) (v2 : Int32) (v3 : Int32) (v4 : Int32) (v5 : Int32) (v6 : Int32) (hk0 : kd k0 = 12) (σ : Mem) (H : Heap) (locs : List Loc) (ls : Array Slot), Hs E s σ H locs → lv_has ls 9 [(0, .ref (ea E k0)), (2, .int v2), (3, .int v3), (4, .int v4), (5, .int v5), (6, .int v6)] → K15 k0 v2 v3 v4 v5 v6 σ = some (r, σ') → W p l e (rmD 4) s m args below meth c H locs 0 0 (MQ below (QiM E r σ') args s 0 0 (eA E)) (F0 m 15 ls []))  (k0 : Nat) (v2 : Int32) (v3 : Int32) (v4 : Int32) (v5 : Int32) (v6 : Int32) (v8 : Int32) (hk0 : kd k0 = 12) {σ : Mem} {H : Heap} {locs : List Loc} {ls : Array Slot} (hH : Hs E s σ H locs) (hl : lv_has ls 9 [(0, .ref (ea E k0)), (2, .int v2), (3, .int v3), (4, .int v4), (5, .int v5), (6, .int v6), (8, .int v8)]) (h : X12_parts_b140 K15 k0 v2 v3 v4 v5 v6 v8 σ = some (r, σ')) : W p l e (rmD 4) s m args below meth c H locs 0 0 (MQ below (QiM E r σ') args s 0 0 (eA E)) (F0 m 140 ls []) := by
  obtain ⟨⟨hx, hb, hml, hown, hts⟩, hr, hlocks, hF, hAd⟩ := id C0
  unfold X12_parts_b140 at h
  refine lv_iload hx hb dX12_parts_140 (lv_at hl 6 rfl) ?_
  refine lv_if_le (tgt := 159) hx hb dX12_parts_142 (by decide) (fun c1 => ?_) (fun c1 => ?_)
  · replace h := if_t h c1
    refine lv_aload_n hx hb dX12_parts_159 rfl (lv_at hl 0 rfl) ?_
    refine lv_iload hx hb dX12_parts_160 (lv_at hl 4 rfl) ?_
    refine lv_iload hx hb dX12_parts_162 (lv_at hl 3 rfl) ?_
    refine lv_if_ne (tgt := 171) hx hb dX12_parts_164 (by decide) (fun c2 => ?_) (fun c2 => ?_)
    · replace h := if_f h c2
      refine lv_iconst (v := 0) hx hb dX12_parts_171 (by decide) ?_
      exact w_X12_parts_b172 C0 K15 hK15 k0 v2 v3 v5 v6 k0 v5 0 hk0 hk0 hH (lv_sub hl [0, 1, 2, 4, 5] rfl) h
    · replace h := if_t h c2
      refine lv_iconst (v := 1) hx hb dX12_parts_167 (by decide) ?_
      refine lv_goto (tgt := 172) hx hb dX12_parts_168 (by decide) ?_
      exact w_X12_parts_b172 C0 K15 hK15 k0 v2 v3 v5 v6 k0 v5 1 hk0 hk0 hH (lv_sub hl [0, 1, 2, 4, 5] rfl) h
  · replace h := if_f h c1
    refine lv_iinc (v := v5 + 1) (lv' := [(5, .int (v5 + 1)), (0, .ref (ea E k0)), (2, .int v2), (3, .int v3), (4, .int v4), (6, .int v6), (8, .int v8)]) hx hb dX12_parts_145 hl (k := 4) rfl rfl (by decide) rfl (fun ls hl => ?_)
    refine lv_aload_n hx hb dX12_parts_148 rfl (lv_at hl 1 rfl) ?_
    refine lv_iload hx hb dX12_parts_149 (lv_at hl 0 rfl) ?_
    refine lv_iload hx hb dX12_parts_151 (lv_at hl 6 rfl) ?_
    obtain ⟨σ3, qσ3, h⟩ := ob_s h
    refine go_v hH (va_run_V (As := [.int (v5 + 1), .int v8]) (rest := []) C0 hH lk_X12_221 (c_X12_opensSet hAd k0 (v5 + 1) v8 hk0 σ qσ3) (by decide) (ci := 12) hk0 (by decide) (cob_12 _ _ _) rfl rfl hl.1 rfl (Nat.le_of_ble_eq_true rfl) dX12_parts_153) (fun H locs hH => ?_)
    refine lv_goto (tgt := 185) hx hb dX12_parts_156 (by decide) ?_
    exact w_X12_parts_b185 C0 K15 hK15 k0 v2 v3 v4 (v5 + 1) v6 hk0 hH (lv_sub hl [1, 2, 3, 4, 0, 5] rfl) h
set_option maxRecDepth 100000 in
set_option maxHeartbeats 4000000 in
theorem w_X12_parts_b64 {r : Int32} {σ' : Mem} (C0 : Cx E p m c cX12_parts 9 s args RX12 meth (some .boolean)) (K15 : Nat → Int32 → Int32 → Int32 → Int32 → Int32 → Mem → Option (Int32 × Mem)) (hK15 : ∀ (k0 : Nat) (v2 : Int32) (v3 : Int32) (v4 : Int32) (v5 : Int32) (v6 : Int32) (hk0 : kd k0 = 12) (σ : Mem) (H : Heap) (locs : List Loc) (ls : Array Slot), Hs E s σ H locs → lv_has ls 9 [(0, .ref (ea E k0)), (2, .int v2), (3, .int v3), (4, .int v4), (5, .int v5), (6, .int v6)] → K15 k0 v2 v3 v4 v5 v6 σ = some (r, σ') → W p l e (rmD 4) s m args below meth c H locs 0 0 (MQ below (QiM E r σ') args s 0 0 (eA E)) (F0 m 15 ls []))  (k0 : Nat) (v2 : Int32) (v3 : Int32) (v4 : Int32) (v5 : Int32) (v6 : Int32) (s0 : Int32) (hk0 : kd k0 = 12) {σ : Mem} {H : Heap} {locs : List Loc} {ls : Array Slot} (hH : Hs E s σ H locs) (hl : lv_has ls 9 [(0, .ref (ea E k0)), (2, .int v2), (3, .int v3), (4, .int v4), (5, .int v5), (6, .int v6)]) (h : X12_parts_b64 K15 k0 v2 v3 v4 v5 v6 s0 σ = some (r, σ')) : W p l e (rmD 4) s m args below meth c H locs 0 0 (MQ below (QiM E r σ') args s 0 0 (eA E)) (F0 m 64 ls [.int s0]) := by
  obtain ⟨⟨hx, hb, hml, hown, hts⟩, hr, hlocks, hF, hAd⟩ := id C0
  unfold X12_parts_b64 at h
  refine lv_istore (lv' := [(7, .int s0), (0, .ref (ea E k0)), (2, .int v2), (3, .int v3), (4, .int v4), (5, .int v5), (6, .int v6)]) hx hb dX12_parts_64 hl (by decide) rfl (fun ls hl => ?_)
  refine lv_aload_n hx hb dX12_parts_66 rfl (lv_at hl 1 rfl) ?_
  refine gf_X12_40 C0 hH hk0 dX12_parts_67 ?_
  refine lv_iload hx hb dX12_parts_70 (lv_at hl 5 rfl) ?_
  obtain ⟨b1, h⟩ := gdx_s h
  refine r_iald C0 hH (n := 11) (kf_12_20 hk0) b1 dX12_parts_72 ?_
  refine lv_iload hx hb dX12_parts_73 (lv_at hl 0 rfl) ?_
  refine lv_iconst (v := (-1)) hx hb dX12_parts_75 (by decide) ?_
  refine lv_ixor hx hb dX12_parts_76 ?_
  refine lv_iand hx hb dX12_parts_77 ?_
  obtain ⟨x2, ex2, h⟩ := letv_s h
  refine topi_of ex2 ?_
  refine lv_istore (lv' := [(8, .int x2), (7, .int s0), (0, .ref (ea E k0)), (2, .int v2), (3, .int v3), (4, .int v4), (5, .int v5), (6, .int v6)]) hx hb dX12_parts_78 hl (by decide) rfl (fun ls hl => ?_)
  refine lv_aload_n hx hb dX12_parts_80 rfl (lv_at hl 2 rfl) ?_
  refine gf_X12_43 C0 hH hk0 dX12_parts_81 ?_
  refine lv_iload hx hb dX12_parts_84 (lv_at hl 6 rfl) ?_
  obtain ⟨b3, h⟩ := gdx_s h
  refine r_iald C0 hH (n := 11) (kf_12_21 hk0) b3 dX12_parts_86 ?_
  refine lv_if_ge (tgt := 108) hx hb dX12_parts_87 (by decide) (fun c4 => ?_) (fun c4 => ?_)
  · replace h := if_t h c4
    refine lv_aload_n hx hb dX12_parts_108 rfl (lv_at hl 2 rfl) ?_
    refine lv_iload hx hb dX12_parts_109 (lv_at hl 1 rfl) ?_
    obtain ⟨r5, qr5, h⟩ := ob_s h
    refine go_i hH (va_run_V (As := [.int s0]) (rest := []) C0 hH lk_X12_229 (c_X12_isNear hAd k0 s0 hk0 σ qr5) (by decide) (ci := 12) hk0 (by decide) (cob_12 _ _ _) rfl rfl hl.1 rfl (Nat.le_of_ble_eq_true rfl) dX12_parts_111) (fun H locs hH => ?_)
    refine lv_if_eq (tgt := 130) hx hb dX12_parts_114 (by decide) (fun c6 => ?_) (fun c6 => ?_)
    · replace h := if_t h c6
      exact w_X12_parts_b130 C0 K15 hK15 k0 v2 v3 v4 v5 v6 hk0 hH (lv_sub hl [2, 3, 4, 5, 6, 7] rfl) h
    · replace h := if_f h c6
      refine lv_iload hx hb dX12_parts_117 (lv_at hl 0 rfl) ?_
      refine lv_if_le (tgt := 140) hx hb dX12_parts_119 (by decide) (fun c7 => ?_) (fun c7 => ?_)
      · replace h := if_t h c7
        exact w_X12_parts_b140 C0 K15 hK15 k0 v2 v3 v4 v5 v6 x2 hk0 hH (lv_sub hl [2, 3, 4, 5, 6, 7, 0] rfl) h
      · replace h := if_f h c7
        refine lv_iload hx hb dX12_parts_122 (lv_at hl 6 rfl) ?_
        refine lv_iconst (v := 1) hx hb dX12_parts_124 (by decide) ?_
        refine lv_iadd hx hb dX12_parts_125 ?_
        refine lv_iload_n hx hb dX12_parts_126 rfl (lv_at hl 3 rfl) ?_
        refine lv_icmp_ne (tgt := 140) hx hb dX12_parts_127 (by decide) (fun c8 => ?_) (fun c8 => ?_)
        · replace h := if_f h c8
          exact w_X12_parts_b140 C0 K15 hK15 k0 v2 v3 v4 v5 v6 x2 hk0 hH (lv_sub hl [2, 3, 4, 5, 6, 7, 0] rfl) h
        · replace h := if_t h c8
          exact w_X12_parts_b130 C0 K15 hK15 k0 v2 v3 v4 v5 v6 hk0 hH (lv_sub hl [2, 3, 4, 5, 6, 7] rfl) h
  · replace h := if_f h c4
    refine lv_iinc (v := v5 + (-1)) (lv' := [(5, .int (v5 + (-1))), (8, .int x2), (7, .int s0), (0, .ref (ea E k0)), (2, .int v2), (3, .int v3), (4, .int v4), (6, .int v6)]) hx hb dX12_parts_90 hl (k := 6) rfl rfl (by decide) rfl (fun ls hl => ?_)
    refine lv_iload hx hb dX12_parts_93 (lv_at hl 0 rfl) ?_
    refine lv_if_lt (tgt := 185) hx hb dX12_parts_95 (by decide) (fun c9 => ?_) (fun c9 => ?_)
    · replace h := if_t h c9
      exact w_X12_parts_b185 C0 K15 hK15 k0 v2 v3 v4 (v5 + (-1)) v6 hk0 hH (lv_sub hl [3, 4, 5, 6, 0, 7] rfl) h
    · replace h := if_f h c9
      refine lv_aload_n hx hb dX12_parts_98 rfl (lv_at hl 3 rfl) ?_
      refine lv_iload hx hb dX12_parts_99 (lv_at hl 0 rfl) ?_
      refine lv_iload_n hx hb dX12_parts_101 rfl (lv_at hl 4 rfl) ?_
      obtain ⟨σ10, qσ10, h⟩ := ob_s h
      refine go_v hH (va_run_V (As := [.int (v5 + (-1)), .int v2]) (rest := []) C0 hH lk_X12_226 (c_X12_turns hAd k0 (v5 + (-1)) v2 hk0 σ qσ10) (by decide) (ci := 12) hk0 (by decide) (cob_12 _ _ _) rfl rfl hl.1 rfl (Nat.le_of_ble_eq_true rfl) dX12_parts_102) (fun H locs hH => ?_)
      refine lv_goto (tgt := 185) hx hb dX12_parts_105 (by decide) ?_
      exact w_X12_parts_b185 C0 K15 hK15 k0 v2 v3 v4 (v5 + (-1)) v6 hk0 hH (lv_sub hl [3, 4, 5, 6, 0, 7] rfl) h
set_option maxRecDepth 100000 in
set_option maxHeartbeats 4000000 in
theorem w_X12_parts_b36 {r : Int32} {σ' : Mem} (C0 : Cx E p m c cX12_parts 9 s args RX12 meth (some .boolean)) (K15 : Nat → Int32 → Int32 → Int32 → Int32 → Int32 → Mem → Option (Int32 × Mem)) (hK15 : ∀ (k0 : Nat) (v2 : Int32) (v3 : Int32) (v4 : Int32) (v5 : Int32) (v6 : Int32) (hk0 : kd k0 = 12) (σ : Mem) (H : Heap) (locs : List Loc) (ls : Array Slot), Hs E s σ H locs → lv_has ls 9 [(0, .ref (ea E k0)), (2, .int v2), (3, .int v3), (4, .int v4), (5, .int v5), (6, .int v6)] → K15 k0 v2 v3 v4 v5 v6 σ = some (r, σ') → W p l e (rmD 4) s m args below meth c H locs 0 0 (MQ below (QiM E r σ') args s 0 0 (eA E)) (F0 m 15 ls []))  (k0 : Nat) (v2 : Int32) (v3 : Int32) (v4 : Int32) (v5 : Int32) (v6 : Int32) (hk0 : kd k0 = 12) {σ : Mem} {H : Heap} {locs : List Loc} {ls : Array Slot} (hH : Hs E s σ H locs) (hl : lv_has ls 9 [(0, .ref (ea E k0)), (2, .int v2), (3, .int v3), (4, .int v4), (5, .int v5), (6, .int v6)]) (h : X12_parts_b36 K15 k0 v2 v3 v4 v5 v6 σ = some (r, σ')) : W p l e (rmD 4) s m args below meth c H locs 0 0 (MQ below (QiM E r σ') args s 0 0 (eA E)) (F0 m 36 ls []) := by
  obtain ⟨⟨hx, hb, hml, hown, hts⟩, hr, hlocks, hF, hAd⟩ := id C0
  unfold X12_parts_b36 at h
  refine lv_aload_n hx hb dX12_parts_36 rfl (lv_at hl 0 rfl) ?_
  refine gf_X12_43 C0 hH hk0 dX12_parts_37 ?_
  refine lv_iload hx hb dX12_parts_40 (lv_at hl 4 rfl) ?_
  obtain ⟨b1, h⟩ := gdx_s h
  refine r_iald C0 hH (n := 11) (kf_12_21 hk0) b1 dX12_parts_42 ?_
  refine lv_if_ge (tgt := 50) hx hb dX12_parts_43 (by decide) (fun c2 => ?_) (fun c2 => ?_)
  · replace h := if_t h c2
    refine lv_aload_n hx hb dX12_parts_50 rfl (lv_at hl 0 rfl) ?_
    refine lv_iload hx hb dX12_parts_51 (lv_at hl 4 rfl) ?_
    obtain ⟨r3, qr3, h⟩ := ob_s h
    refine go_i hH (va_run_V (As := [.int v5]) (rest := []) C0 hH lk_X12_218 (c_X12_oneOf hAd k0 v5 hk0 σ qr3) (by decide) (ci := 12) hk0 (by decide) (cob_12 _ _ _) rfl rfl hl.1 rfl (Nat.le_of_ble_eq_true rfl) dX12_parts_53) (fun H locs hH => ?_)
    refine lv_aload_n hx hb dX12_parts_56 rfl (lv_at hl 0 rfl) ?_
    refine gf_X12_43 C0 hH hk0 dX12_parts_57 ?_
    refine lv_iload hx hb dX12_parts_60 (lv_at hl 4 rfl) ?_
    obtain ⟨b4, h⟩ := gdx_s h
    refine r_iald C0 hH (n := 11) (kf_12_21 hk0) b4 dX12_parts_62 ?_
    refine lv_ior hx hb dX12_parts_63 ?_
    exact w_X12_parts_b64 C0 K15 hK15 k0 v2 v3 v4 v5 v6 (r3 ||| (σ (k0 + 12) (nc v5))) hk0 hH (lv_sub hl [0, 1, 2, 3, 4, 5] rfl) h
  · replace h := if_f h c2
    refine lv_iconst (v := 0) hx hb dX12_parts_46 (by decide) ?_
    refine lv_goto (tgt := 64) hx hb dX12_parts_47 (by decide) ?_
    exact w_X12_parts_b64 C0 K15 hK15 k0 v2 v3 v4 v5 v6 0 hk0 hH (lv_sub hl [0, 1, 2, 3, 4, 5] rfl) h
set_option maxRecDepth 100000 in
set_option maxHeartbeats 4000000 in
theorem w_X12_parts_b15 {r : Int32} {σ' : Mem} (C0 : Cx E p m c cX12_parts 9 s args RX12 meth (some .boolean)) (K15 : Nat → Int32 → Int32 → Int32 → Int32 → Int32 → Mem → Option (Int32 × Mem)) (hK15 : ∀ (k0 : Nat) (v2 : Int32) (v3 : Int32) (v4 : Int32) (v5 : Int32) (v6 : Int32) (hk0 : kd k0 = 12) (σ : Mem) (H : Heap) (locs : List Loc) (ls : Array Slot), Hs E s σ H locs → lv_has ls 9 [(0, .ref (ea E k0)), (2, .int v2), (3, .int v3), (4, .int v4), (5, .int v5), (6, .int v6)] → K15 k0 v2 v3 v4 v5 v6 σ = some (r, σ') → W p l e (rmD 4) s m args below meth c H locs 0 0 (MQ below (QiM E r σ') args s 0 0 (eA E)) (F0 m 15 ls []))  (k0 : Nat) (v2 : Int32) (v3 : Int32) (v4 : Int32) (v5 : Int32) (v6 : Int32) (hk0 : kd k0 = 12) {σ : Mem} {H : Heap} {locs : List Loc} {ls : Array Slot} (hH : Hs E s σ H locs) (hl : lv_has ls 9 [(0, .ref (ea E k0)), (2, .int v2), (3, .int v3), (4, .int v4), (5, .int v5), (6, .int v6)]) (h : X12_parts_b15 K15 k0 v2 v3 v4 v5 v6 σ = some (r, σ')) : W p l e (rmD 4) s m args below meth c H locs 0 0 (MQ below (QiM E r σ') args s 0 0 (eA E)) (F0 m 15 ls []) := by
  obtain ⟨⟨hx, hb, hml, hown, hts⟩, hr, hlocks, hF, hAd⟩ := id C0
  unfold X12_parts_b15 at h
  refine lv_iload hx hb dX12_parts_15 (lv_at hl 5 rfl) ?_
  refine lv_ldc hx hb hown (hts _ qK_X12_225) dX12_parts_17 ?_
  refine lv_icmp_ge (tgt := 191) hx hb dX12_parts_19 (by decide) (fun c1 => ?_) (fun c1 => ?_)
  · replace h := if_t h c1
    refine lv_iload hx hb dX12_parts_191 (lv_at hl 3 rfl) ?_
    obtain ⟨z2, h⟩ := gdb_s h
    exact r_zret C0 (bit_nar z2) hH (pj1 h) (pj2 h) dX12_parts_193
  · replace h := if_f h c1
    refine lv_iload hx hb dX12_parts_22 (lv_at hl 4 rfl) ?_
    refine lv_if_lt (tgt := 191) hx hb dX12_parts_24 (by decide) (fun c3 => ?_) (fun c3 => ?_)
    · replace h := if_t h c3
      refine lv_iload hx hb dX12_parts_191 (lv_at hl 3 rfl) ?_
      obtain ⟨z4, h⟩ := gdb_s h
      exact r_zret C0 (bit_nar z4) hH (pj1 h) (pj2 h) dX12_parts_193
    · replace h := if_f h c3
      refine lv_iload_n hx hb dX12_parts_27 rfl (lv_at hl 2 rfl) ?_
      refine lv_if_ne (tgt := 36) hx hb dX12_parts_28 (by decide) (fun c5 => ?_) (fun c5 => ?_)
      · replace h := if_f h c5
        exact w_X12_parts_b36 C0 K15 hK15 k0 v2 v3 v4 v5 v6 hk0 hH (lv_sub hl [0, 1, 2, 3, 4, 5] rfl) h
      · replace h := if_t h c5
        refine lv_iload hx hb dX12_parts_31 (lv_at hl 3 rfl) ?_
        refine lv_if_ne (tgt := 191) hx hb dX12_parts_33 (by decide) (fun c6 => ?_) (fun c6 => ?_)
        · replace h := if_f h c6
          refine lv_iload hx hb dX12_parts_191 (lv_at hl 3 rfl) ?_
          obtain ⟨z7, h⟩ := gdb_s h
          exact r_zret C0 (bit_nar z7) hH (pj1 h) (pj2 h) dX12_parts_193
        · replace h := if_t h c6
          exact w_X12_parts_b36 C0 K15 hK15 k0 v2 v3 v4 v5 v6 hk0 hH (lv_sub hl [0, 1, 2, 3, 4, 5] rfl) h
set_option maxRecDepth 100000 in
set_option maxHeartbeats 4000000 in
theorem w_X12_parts_l15 {r : Int32} {σ' : Mem} (C0 : Cx E p m c cX12_parts 9 s args RX12 meth (some .boolean))  (n : Nat) : ∀ (k0 : Nat) (v2 : Int32) (v3 : Int32) (v4 : Int32) (v5 : Int32) (v6 : Int32) (hk0 : kd k0 = 12) (σ : Mem) (H : Heap) (locs : List Loc) (ls : Array Slot), Hs E s σ H locs → lv_has ls 9 [(0, .ref (ea E k0)), (2, .int v2), (3, .int v3), (4, .int v4), (5, .int v5), (6, .int v6)] → X12_parts_l15 n k0 v2 v3 v4 v5 v6 σ = some (r, σ') → W p l e (rmD 4) s m args below meth c H locs 0 0 (MQ below (QiM E r σ') args s 0 0 (eA E)) (F0 m 15 ls []) := by
  induction n with
  | zero =>
    intro k0 v2 v3 v4 v5 v6 hk0 σ H locs ls hH hl h
    cases h
  | succ n ih =>
    intro k0 v2 v3 v4 v5 v6 hk0 σ H locs ls hH hl h
    exact w_X12_parts_b15 C0 (X12_parts_l15 n)  ih k0 v2 v3 v4 v5 v6 hk0 hH hl h
set_option maxRecDepth 100000 in
set_option maxHeartbeats 4000000 in
theorem w_X12_parts_b0 {r : Int32} {σ' : Mem} (C0 : Cx E p m c cX12_parts 9 s args RX12 meth (some .boolean))  (k0 : Nat) (v1 : Int32) (v2 : Int32) (v3 : Int32) (hk0 : kd k0 = 12) {σ : Mem} {H : Heap} {locs : List Loc} {ls : Array Slot} (hH : Hs E s σ H locs) (hl : lv_has ls 9 [(0, .ref (ea E k0)), (1, .int v1), (2, .int v2), (3, .int v3)]) (h : X12_parts_b0 k0 v1 v2 v3 σ = some (r, σ')) : W p l e (rmD 4) s m args below meth c H locs 0 0 (MQ below (QiM E r σ') args s 0 0 (eA E)) (F0 m 0 ls []) := by
  obtain ⟨⟨hx, hb, hml, hown, hts⟩, hr, hlocks, hF, hAd⟩ := id C0
  unfold X12_parts_b0 at h
  refine lv_iconst (v := 0) hx hb dX12_parts_0 (by decide) ?_
  refine lv_istore (lv' := [(4, .int 0), (0, .ref (ea E k0)), (1, .int v1), (2, .int v2), (3, .int v3)]) hx hb dX12_parts_1 hl (by decide) rfl (fun ls hl => ?_)
  refine lv_iconst (v := 0) hx hb dX12_parts_3 (by decide) ?_
  refine lv_istore (lv' := [(5, .int 0), (4, .int 0), (0, .ref (ea E k0)), (1, .int v1), (2, .int v2), (3, .int v3)]) hx hb dX12_parts_4 hl (by decide) rfl (fun ls hl => ?_)
  refine lv_aload_n hx hb dX12_parts_6 rfl (lv_at hl 2 rfl) ?_
  refine lv_iconst (v := 0) hx hb dX12_parts_7 (by decide) ?_
  refine lv_iload_n hx hb dX12_parts_8 rfl (lv_at hl 3 rfl) ?_
  obtain ⟨σ1, qσ1, h⟩ := ob_s h
  refine go_v hH (va_run_V (As := [.int 0, .int v1]) (rest := []) C0 hH lk_X12_221 (c_X12_opensSet hAd k0 0 v1 hk0 σ qσ1) (by decide) (ci := 12) hk0 (by decide) (cob_12 _ _ _) rfl rfl hl.1 rfl (Nat.le_of_ble_eq_true rfl) dX12_parts_9) (fun H locs hH => ?_)
  refine lv_iconst (v := 0) hx hb dX12_parts_12 (by decide) ?_
  refine lv_istore (lv' := [(6, .int 0), (5, .int 0), (4, .int 0), (0, .ref (ea E k0)), (1, .int v1), (2, .int v2), (3, .int v3)]) hx hb dX12_parts_13 hl (by decide) rfl (fun ls hl => ?_)
  exact w_X12_parts_l15 C0  FU k0 v2 v3 0 0 0 hk0 _ _ _ _ hH (lv_sub hl [3, 5, 6, 2, 1, 0] rfl) h
theorem c_X12_parts {l : Launch} {E : EnvT} (hAd : Ad E) (k0 : Nat) (v1 : Int32) (v2 : Int32) (v3 : Int32) (hk0 : kd k0 = 12) (σ : Mem) {r : Int32} {σ' : Mem} (h : X12_parts k0 v1 v2 v3 σ = some (r, σ')) : Met l yX12_parts (wsM yX12_parts cX12_parts 9 (some .boolean)) (rmD 4) (PcM E [.ref (ea E k0), .int v1, .int v2, .int v3] σ) (QiM E r σ') 0 0 (eA E) :=
  Met.ofM (by decide) (Nat.le_of_ble_eq_true rfl) (fun p e s m below meth c ls C0 hH hl => w_X12_parts_b0 C0 k0 v1 v2 v3 hk0 hH hl h) hAd
set_option maxRecDepth 100000 in
set_option maxHeartbeats 4000000 in
theorem w_X12_layHands_b38 {r : Int32} {σ' : Mem} (C0 : Cx E p m c cX12_layHands 4 s args RX12 meth (some .int)) (K38 : Nat → Nat → Int32 → Int32 → Mem → Option (Int32 × Mem)) (hK38 : ∀ (k0 : Nat) (k1 : Nat) (v2 : Int32) (v3 : Int32) (hk0 : kd k0 = 12) (hk1 : kd k1 = 143) (σ : Mem) (H : Heap) (locs : List Loc) (ls : Array Slot), Hs E s σ H locs → lv_has ls 4 [(0, .ref (ea E k0)), (1, .ref (ea E k1)), (2, .int v2), (3, .int v3)] → K38 k0 k1 v2 v3 σ = some (r, σ') → W p l e (rmD 5) s m args below meth c H locs 0 0 (MQ below (QiM E r σ') args s 0 0 (eA E)) (F0 m 38 ls []))  (k0 : Nat) (k1 : Nat) (v2 : Int32) (v3 : Int32) (hk0 : kd k0 = 12) (hk1 : kd k1 = 143) {σ : Mem} {H : Heap} {locs : List Loc} {ls : Array Slot} (hH : Hs E s σ H locs) (hl : lv_has ls 4 [(0, .ref (ea E k0)), (1, .ref (ea E k1)), (2, .int v2), (3, .int v3)]) (h : X12_layHands_b38 K38 k0 k1 v2 v3 σ = some (r, σ')) : W p l e (rmD 5) s m args below meth c H locs 0 0 (MQ below (QiM E r σ') args s 0 0 (eA E)) (F0 m 38 ls []) := by
  obtain ⟨⟨hx, hb, hml, hown, hts⟩, hr, hlocks, hF, hAd⟩ := id C0
  unfold X12_layHands_b38 at h
  refine lv_iload_n hx hb dX12_layHands_38 rfl (lv_at hl 3 rfl) ?_
  refine lv_bipush (v := 10) hx hb dX12_layHands_39 (by decide) ?_
  refine lv_icmp_ge (tgt := 64) hx hb dX12_layHands_41 (by decide) (fun c1 => ?_) (fun c1 => ?_)
  · replace h := if_t h c1
    refine lv_iload_n hx hb dX12_layHands_64 rfl (lv_at hl 2 rfl) ?_
    exact r_iret C0 hH (pj1 h) (pj2 h) dX12_layHands_65
  · replace h := if_f h c1
    refine lv_iload_n hx hb dX12_layHands_44 rfl (lv_at hl 2 rfl) ?_
    refine lv_aload_n hx hb dX12_layHands_45 rfl (lv_at hl 1 rfl) ?_
    refine lv_iconst (v := 0) hx hb dX12_layHands_46 (by decide) ?_
    refine r_iald C0 hH (n := 43) hk1 (vin (by decide)) dX12_layHands_47 ?_
    refine lv_icmp_ne (tgt := 64) hx hb dX12_layHands_48 (by decide) (fun c2 => ?_) (fun c2 => ?_)
    · replace h := if_f h c2
      refine lv_iload_n hx hb dX12_layHands_64 rfl (lv_at hl 2 rfl) ?_
      exact r_iret C0 hH (pj1 h) (pj2 h) dX12_layHands_65
    · replace h := if_t h c2
      refine lv_aload_n hx hb dX12_layHands_51 rfl (lv_at hl 0 rfl) ?_
      refine gf_X12_46 C0 hH hk0 dX12_layHands_52 ?_
      refine lv_iload_n hx hb dX12_layHands_55 rfl (lv_at hl 3 rfl) ?_
      refine lv_iload_n hx hb dX12_layHands_56 rfl (lv_at hl 3 rfl) ?_
      obtain ⟨b3, h⟩ := gdx_s h
      refine r_iast C0 hH (n := 10) (kf_12_22 hk0) b3 dX12_layHands_57 (fun H locs hH => ?_)
      refine lv_iinc (v := v3 + 1) (lv' := [(3, .int (v3 + 1)), (0, .ref (ea E k0)), (1, .ref (ea E k1)), (2, .int v2)]) hx hb dX12_layHands_58 hl (k := 3) rfl rfl (by decide) rfl (fun ls hl => ?_)
      refine lv_goto (tgt := 38) hx hb dX12_layHands_61 (by decide) ?_
      exact hK38 k0 k1 v2 (v3 + 1) hk0 hk1 _ _ _ _ hH (lv_sub hl [1, 2, 3, 0] rfl) h
set_option maxRecDepth 100000 in
set_option maxHeartbeats 4000000 in
theorem w_X12_layHands_l38 {r : Int32} {σ' : Mem} (C0 : Cx E p m c cX12_layHands 4 s args RX12 meth (some .int))  (n : Nat) : ∀ (k0 : Nat) (k1 : Nat) (v2 : Int32) (v3 : Int32) (hk0 : kd k0 = 12) (hk1 : kd k1 = 143) (σ : Mem) (H : Heap) (locs : List Loc) (ls : Array Slot), Hs E s σ H locs → lv_has ls 4 [(0, .ref (ea E k0)), (1, .ref (ea E k1)), (2, .int v2), (3, .int v3)] → X12_layHands_l38 n k0 k1 v2 v3 σ = some (r, σ') → W p l e (rmD 5) s m args below meth c H locs 0 0 (MQ below (QiM E r σ') args s 0 0 (eA E)) (F0 m 38 ls []) := by
  induction n with
  | zero =>
    intro k0 k1 v2 v3 hk0 hk1 σ H locs ls hH hl h
    cases h
  | succ n ih =>
    intro k0 k1 v2 v3 hk0 hk1 σ H locs ls hH hl h
    exact w_X12_layHands_b38 C0 (X12_layHands_l38 n)  ih k0 k1 v2 v3 hk0 hk1 hH hl h
set_option maxRecDepth 100000 in
set_option maxHeartbeats 4000000 in
theorem w_X12_layHands_b36 {r : Int32} {σ' : Mem} (C0 : Cx E p m c cX12_layHands 4 s args RX12 meth (some .int))  (k0 : Nat) (k1 : Nat) (v2 : Int32) (hk0 : kd k0 = 12) (hk1 : kd k1 = 143) {σ : Mem} {H : Heap} {locs : List Loc} {ls : Array Slot} (hH : Hs E s σ H locs) (hl : lv_has ls 4 [(0, .ref (ea E k0)), (1, .ref (ea E k1)), (2, .int v2)]) (h : X12_layHands_b36 k0 k1 v2 σ = some (r, σ')) : W p l e (rmD 5) s m args below meth c H locs 0 0 (MQ below (QiM E r σ') args s 0 0 (eA E)) (F0 m 36 ls []) := by
  obtain ⟨⟨hx, hb, hml, hown, hts⟩, hr, hlocks, hF, hAd⟩ := id C0
  unfold X12_layHands_b36 at h
  refine lv_iconst (v := 0) hx hb dX12_layHands_36 (by decide) ?_
  refine lv_istore_n (lv' := [(3, .int 0), (0, .ref (ea E k0)), (1, .ref (ea E k1)), (2, .int v2)]) hx hb dX12_layHands_37 rfl hl (by decide) rfl (fun ls hl => ?_)
  exact w_X12_layHands_l38 C0  FU k0 k1 v2 0 hk0 hk1 _ _ _ _ hH (lv_sub hl [1, 2, 3, 0] rfl) h
set_option maxRecDepth 100000 in
set_option maxHeartbeats 4000000 in
theorem w_X12_layHands_b10 {r : Int32} {σ' : Mem} (C0 : Cx E p m c cX12_layHands 4 s args RX12 meth (some .int)) (K10 : Nat → Nat → Int32 → Mem → Option (Int32 × Mem)) (hK10 : ∀ (k0 : Nat) (k1 : Nat) (v2 : Int32) (hk0 : kd k0 = 12) (hk1 : kd k1 = 143) (σ : Mem) (H : Heap) (locs : List Loc) (ls : Array Slot), Hs E s σ H locs → lv_has ls 4 [(0, .ref (ea E k0)), (1, .ref (ea E k1)), (2, .int v2)] → K10 k0 k1 v2 σ = some (r, σ') → W p l e (rmD 5) s m args below meth c H locs 0 0 (MQ below (QiM E r σ') args s 0 0 (eA E)) (F0 m 10 ls []))  (k0 : Nat) (k1 : Nat) (v2 : Int32) (hk0 : kd k0 = 12) (hk1 : kd k1 = 143) {σ : Mem} {H : Heap} {locs : List Loc} {ls : Array Slot} (hH : Hs E s σ H locs) (hl : lv_has ls 4 [(0, .ref (ea E k0)), (1, .ref (ea E k1)), (2, .int v2)]) (h : X12_layHands_b10 K10 k0 k1 v2 σ = some (r, σ')) : W p l e (rmD 5) s m args below meth c H locs 0 0 (MQ below (QiM E r σ') args s 0 0 (eA E)) (F0 m 10 ls []) := by
  obtain ⟨⟨hx, hb, hml, hown, hts⟩, hr, hlocks, hF, hAd⟩ := id C0
  unfold X12_layHands_b10 at h
  refine lv_iload_n hx hb dX12_layHands_10 rfl (lv_at hl 2 rfl) ?_
  refine lv_aload_n hx hb dX12_layHands_11 rfl (lv_at hl 1 rfl) ?_
  refine lv_iconst (v := 0) hx hb dX12_layHands_12 (by decide) ?_
  refine r_iald C0 hH (n := 43) hk1 (vin (by decide)) dX12_layHands_13 ?_
  refine lv_icmp_ge (tgt := 36) hx hb dX12_layHands_14 (by decide) (fun c1 => ?_) (fun c1 => ?_)
  · replace h := if_t h c1
    exact w_X12_layHands_b36 C0  k0 k1 v2 hk0 hk1 hH (lv_sub hl [0, 1, 2] rfl) h
  · replace h := if_f h c1
    refine lv_aload_n hx hb dX12_layHands_17 rfl (lv_at hl 0 rfl) ?_
    refine lv_aload_n hx hb dX12_layHands_18 rfl (lv_at hl 1 rfl) ?_
    obtain ⟨r2, qr2, h⟩ := ob_s h
    refine go_i hH (va_run_S (As := [.ref (ea E k1)]) (rest := [.ref (ea E k0)]) C0 hH lk_X12_204 (c_X12_allOf hAd k1 hk1 σ qr2) (by decide) rfl hl.1 rfl (Nat.le_of_ble_eq_true rfl) dX12_layHands_19) (fun H locs hH => ?_)
    refine lv_iload_n hx hb dX12_layHands_22 rfl (lv_at hl 2 rfl) ?_
    refine lv_iconst (v := 1) hx hb dX12_layHands_23 (by decide) ?_
    obtain ⟨r3, σ4, qr3, h⟩ := ob2_s h
    refine go_i hH (va_run_V (As := [.int r2, .int v2, .int 1]) (rest := []) C0 hH lk_X12_239 (c_X12_parts hAd k0 r2 v2 1 hk0 σ qr3) (by decide) (ci := 12) hk0 (by decide) (cob_12 _ _ _) rfl rfl hl.1 rfl (Nat.le_of_ble_eq_true rfl) dX12_layHands_24) (fun H locs hH => ?_)
    refine lv_if_ne (tgt := 36) hx hb dX12_layHands_27 (by decide) (fun c5 => ?_) (fun c5 => ?_)
    · replace h := if_f h c5
      exact w_X12_layHands_b36 C0  k0 k1 v2 hk0 hk1 hH (lv_sub hl [0, 1, 2] rfl) h
    · replace h := if_t h c5
      refine lv_iinc (v := v2 + 1) (lv' := [(2, .int (v2 + 1)), (0, .ref (ea E k0)), (1, .ref (ea E k1))]) hx hb dX12_layHands_30 hl (k := 2) rfl rfl (by decide) rfl (fun ls hl => ?_)
      refine lv_goto (tgt := 10) hx hb dX12_layHands_33 (by decide) ?_
      exact hK10 k0 k1 (v2 + 1) hk0 hk1 _ _ _ _ hH (lv_sub hl [1, 2, 0] rfl) h
set_option maxRecDepth 100000 in
set_option maxHeartbeats 4000000 in
theorem w_X12_layHands_l10 {r : Int32} {σ' : Mem} (C0 : Cx E p m c cX12_layHands 4 s args RX12 meth (some .int))  (n : Nat) : ∀ (k0 : Nat) (k1 : Nat) (v2 : Int32) (hk0 : kd k0 = 12) (hk1 : kd k1 = 143) (σ : Mem) (H : Heap) (locs : List Loc) (ls : Array Slot), Hs E s σ H locs → lv_has ls 4 [(0, .ref (ea E k0)), (1, .ref (ea E k1)), (2, .int v2)] → X12_layHands_l10 n k0 k1 v2 σ = some (r, σ') → W p l e (rmD 5) s m args below meth c H locs 0 0 (MQ below (QiM E r σ') args s 0 0 (eA E)) (F0 m 10 ls []) := by
  induction n with
  | zero =>
    intro k0 k1 v2 hk0 hk1 σ H locs ls hH hl h
    cases h
  | succ n ih =>
    intro k0 k1 v2 hk0 hk1 σ H locs ls hH hl h
    exact w_X12_layHands_b10 C0 (X12_layHands_l10 n)  ih k0 k1 v2 hk0 hk1 hH hl h
set_option maxRecDepth 100000 in
set_option maxHeartbeats 4000000 in
theorem w_X12_layHands_b0 {r : Int32} {σ' : Mem} (C0 : Cx E p m c cX12_layHands 4 s args RX12 meth (some .int))  (k0 : Nat) (k1 : Nat) (hk0 : kd k0 = 12) (hk1 : kd k1 = 143) {σ : Mem} {H : Heap} {locs : List Loc} {ls : Array Slot} (hH : Hs E s σ H locs) (hl : lv_has ls 4 [(0, .ref (ea E k0)), (1, .ref (ea E k1))]) (h : X12_layHands_b0 k0 k1 σ = some (r, σ')) : W p l e (rmD 5) s m args below meth c H locs 0 0 (MQ below (QiM E r σ') args s 0 0 (eA E)) (F0 m 0 ls []) := by
  obtain ⟨⟨hx, hb, hml, hown, hts⟩, hr, hlocks, hF, hAd⟩ := id C0
  unfold X12_layHands_b0 at h
  refine lv_aload_n hx hb dX12_layHands_0 rfl (lv_at hl 0 rfl) ?_
  refine lv_aload_n hx hb dX12_layHands_1 rfl (lv_at hl 1 rfl) ?_
  refine lv_aload_n hx hb dX12_layHands_2 rfl (lv_at hl 1 rfl) ?_
  refine lv_iconst (v := 1) hx hb dX12_layHands_3 (by decide) ?_
  refine r_iald C0 hH (n := 43) hk1 (vin (by decide)) dX12_layHands_4 ?_
  obtain ⟨σ1, qσ1, h⟩ := ob_s h
  refine go_v hH (va_run_V (As := [.ref (ea E k1), .int (σ k1 (nc 1))]) (rest := []) C0 hH lk_X12_236 (c_X12_layNear hAd k0 k1 (σ k1 (nc 1)) hk0 hk1 σ qσ1) (by decide) (ci := 12) hk0 (by decide) (cob_12 _ _ _) rfl rfl hl.1 rfl (Nat.le_of_ble_eq_true rfl) dX12_layHands_5) (fun H locs hH => ?_)
  refine lv_iconst (v := 1) hx hb dX12_layHands_8 (by decide) ?_
  refine lv_istore_n (lv' := [(2, .int 1), (0, .ref (ea E k0)), (1, .ref (ea E k1))]) hx hb dX12_layHands_9 rfl hl (by decide) rfl (fun ls hl => ?_)
  exact w_X12_layHands_l10 C0  FU k0 k1 1 hk0 hk1 _ _ _ _ hH (lv_sub hl [1, 2, 0] rfl) h
theorem c_X12_layHands {l : Launch} {E : EnvT} (hAd : Ad E) (k0 : Nat) (k1 : Nat) (hk0 : kd k0 = 12) (hk1 : kd k1 = 143) (σ : Mem) {r : Int32} {σ' : Mem} (h : X12_layHands k0 k1 σ = some (r, σ')) : Met l yX12_layHands (wsM yX12_layHands cX12_layHands 4 (some .int)) (rmD 5) (PcM E [.ref (ea E k0), .ref (ea E k1)] σ) (QiM E r σ') 0 0 (eA E) :=
  Met.ofM (by decide) (Nat.le_of_ble_eq_true rfl) (fun p e s m below meth c ls C0 hH hl => w_X12_layHands_b0 C0 k0 k1 hk0 hk1 hH hl h) hAd
set_option maxRecDepth 100000 in
set_option maxHeartbeats 4000000 in
theorem w_X12_pagesOf_b32 {r : Int32} (C0 : Cx E p m c cX12_pagesOf 4 s args RX12 meth (some .int)) (K4 : Nat → Int32 → Int32 → Int32 → Mem → Option Int32) (hK4 : ∀ (k0 : Nat) (v1 : Int32) (v2 : Int32) (v3 : Int32) (hk0 : kd k0 = 12) (σ : Mem) (H : Heap) (locs : List Loc) (ls : Array Slot), Hs E s σ H locs → lv_has ls 4 [(0, .ref (ea E k0)), (1, .int v1), (2, .int v2), (3, .int v3)] → K4 k0 v1 v2 v3 σ = some r → W p l e (rmD 0) s m args below meth c H locs 0 0 (MQ below (QiM E r σ) args s 0 0 (eA E)) (F0 m 4 ls []))  (k0 : Nat) (v1 : Int32) (v3 : Int32) (s0 : Int32) (s1 : Int32) (hk0 : kd k0 = 12) {σ : Mem} {H : Heap} {locs : List Loc} {ls : Array Slot} (hH : Hs E s σ H locs) (hl : lv_has ls 4 [(0, .ref (ea E k0)), (1, .int v1), (3, .int v3)]) (h : X12_pagesOf_b32 K4 k0 v1 v3 s0 s1 σ = some r) : W p l e (rmD 0) s m args below meth c H locs 0 0 (MQ below (QiM E r σ) args s 0 0 (eA E)) (F0 m 32 ls [.int s1, .int s0]) := by
  obtain ⟨⟨hx, hb, hml, hown, hts⟩, hr, hlocks, hF, hAd⟩ := id C0
  unfold X12_pagesOf_b32 at h
  refine lv_ior hx hb dX12_pagesOf_32 ?_
  obtain ⟨x1, ex1, h⟩ := letv_s h
  refine topi_of ex1 ?_
  refine lv_istore_n (lv' := [(2, .int x1), (0, .ref (ea E k0)), (1, .int v1), (3, .int v3)]) hx hb dX12_pagesOf_33 rfl hl (by decide) rfl (fun ls hl => ?_)
  refine lv_iinc (v := v3 + 1) (lv' := [(3, .int (v3 + 1)), (2, .int x1), (0, .ref (ea E k0)), (1, .int v1)]) hx hb dX12_pagesOf_34 hl (k := 3) rfl rfl (by decide) rfl (fun ls hl => ?_)
  refine lv_goto (tgt := 4) hx hb dX12_pagesOf_37 (by decide) ?_
  exact hK4 k0 v1 x1 (v3 + 1) hk0 _ _ _ _ hH (lv_sub hl [2, 3, 1, 0] rfl) h
set_option maxRecDepth 100000 in
set_option maxHeartbeats 4000000 in
theorem w_X12_pagesOf_b4 {r : Int32} (C0 : Cx E p m c cX12_pagesOf 4 s args RX12 meth (some .int)) (K4 : Nat → Int32 → Int32 → Int32 → Mem → Option Int32) (hK4 : ∀ (k0 : Nat) (v1 : Int32) (v2 : Int32) (v3 : Int32) (hk0 : kd k0 = 12) (σ : Mem) (H : Heap) (locs : List Loc) (ls : Array Slot), Hs E s σ H locs → lv_has ls 4 [(0, .ref (ea E k0)), (1, .int v1), (2, .int v2), (3, .int v3)] → K4 k0 v1 v2 v3 σ = some r → W p l e (rmD 0) s m args below meth c H locs 0 0 (MQ below (QiM E r σ) args s 0 0 (eA E)) (F0 m 4 ls []))  (k0 : Nat) (v1 : Int32) (v2 : Int32) (v3 : Int32) (hk0 : kd k0 = 12) {σ : Mem} {H : Heap} {locs : List Loc} {ls : Array Slot} (hH : Hs E s σ H locs) (hl : lv_has ls 4 [(0, .ref (ea E k0)), (1, .int v1), (2, .int v2), (3, .int v3)]) (h : X12_pagesOf_b4 K4 k0 v1 v2 v3 σ = some r) : W p l e (rmD 0) s m args below meth c H locs 0 0 (MQ below (QiM E r σ) args s 0 0 (eA E)) (F0 m 4 ls []) := by
  obtain ⟨⟨hx, hb, hml, hown, hts⟩, hr, hlocks, hF, hAd⟩ := id C0
  unfold X12_pagesOf_b4 at h
  refine lv_iload_n hx hb dX12_pagesOf_4 rfl (lv_at hl 3 rfl) ?_
  refine lv_aload_n hx hb dX12_pagesOf_5 rfl (lv_at hl 0 rfl) ?_
  refine gf_X12_19 C0 hH hk0 dX12_pagesOf_6 ?_
  refine lv_iconst (v := 0) hx hb dX12_pagesOf_9 (by decide) ?_
  refine r_iald C0 hH (n := 43) (kf_12_4 hk0) (vin (by decide)) dX12_pagesOf_10 ?_
  refine lv_icmp_ge (tgt := 40) hx hb dX12_pagesOf_11 (by decide) (fun c1 => ?_) (fun c1 => ?_)
  · replace h := if_t h c1
    refine lv_iload_n hx hb dX12_pagesOf_40 rfl (lv_at hl 2 rfl) ?_
    exact r_iret C0 hH (Option.some.inj h) rfl dX12_pagesOf_41
  · replace h := if_f h c1
    refine lv_iload_n hx hb dX12_pagesOf_14 rfl (lv_at hl 2 rfl) ?_
    refine lv_aload_n hx hb dX12_pagesOf_15 rfl (lv_at hl 0 rfl) ?_
    refine gf_X12_46 C0 hH hk0 dX12_pagesOf_16 ?_
    refine lv_iload_n hx hb dX12_pagesOf_19 rfl (lv_at hl 3 rfl) ?_
    obtain ⟨b2, h⟩ := gdx_s h
    refine r_iald C0 hH (n := 10) (kf_12_22 hk0) b2 dX12_pagesOf_20 ?_
    refine lv_iload_n hx hb dX12_pagesOf_21 rfl (lv_at hl 1 rfl) ?_
    refine lv_icmp_ne (tgt := 31) hx hb dX12_pagesOf_22 (by decide) (fun c3 => ?_) (fun c3 => ?_)
    · replace h := if_f h c3
      refine lv_iconst (v := 0) hx hb dX12_pagesOf_31 (by decide) ?_
      exact w_X12_pagesOf_b32 C0 K4 hK4 k0 v1 v3 v2 0 hk0 hH (lv_sub hl [0, 1, 3] rfl) h
    · replace h := if_t h c3
      refine lv_iconst (v := 1) hx hb dX12_pagesOf_25 (by decide) ?_
      refine lv_iload_n hx hb dX12_pagesOf_26 rfl (lv_at hl 3 rfl) ?_
      refine lv_ishl hx hb dX12_pagesOf_27 ?_
      refine lv_goto (tgt := 32) hx hb dX12_pagesOf_28 (by decide) ?_
      exact w_X12_pagesOf_b32 C0 K4 hK4 k0 v1 v3 v2 (shl 1 v3) hk0 hH (lv_sub hl [0, 1, 3] rfl) h
set_option maxRecDepth 100000 in
set_option maxHeartbeats 4000000 in
theorem w_X12_pagesOf_l4 {r : Int32} (C0 : Cx E p m c cX12_pagesOf 4 s args RX12 meth (some .int))  (n : Nat) : ∀ (k0 : Nat) (v1 : Int32) (v2 : Int32) (v3 : Int32) (hk0 : kd k0 = 12) (σ : Mem) (H : Heap) (locs : List Loc) (ls : Array Slot), Hs E s σ H locs → lv_has ls 4 [(0, .ref (ea E k0)), (1, .int v1), (2, .int v2), (3, .int v3)] → X12_pagesOf_l4 n k0 v1 v2 v3 σ = some r → W p l e (rmD 0) s m args below meth c H locs 0 0 (MQ below (QiM E r σ) args s 0 0 (eA E)) (F0 m 4 ls []) := by
  induction n with
  | zero =>
    intro k0 v1 v2 v3 hk0 σ H locs ls hH hl h
    cases h
  | succ n ih =>
    intro k0 v1 v2 v3 hk0 σ H locs ls hH hl h
    exact w_X12_pagesOf_b4 C0 (X12_pagesOf_l4 n)  ih k0 v1 v2 v3 hk0 hH hl h
set_option maxRecDepth 100000 in
set_option maxHeartbeats 4000000 in
theorem w_X12_pagesOf_b0 {r : Int32} (C0 : Cx E p m c cX12_pagesOf 4 s args RX12 meth (some .int))  (k0 : Nat) (v1 : Int32) (hk0 : kd k0 = 12) {σ : Mem} {H : Heap} {locs : List Loc} {ls : Array Slot} (hH : Hs E s σ H locs) (hl : lv_has ls 4 [(0, .ref (ea E k0)), (1, .int v1)]) (h : X12_pagesOf_b0 k0 v1 σ = some r) : W p l e (rmD 0) s m args below meth c H locs 0 0 (MQ below (QiM E r σ) args s 0 0 (eA E)) (F0 m 0 ls []) := by
  obtain ⟨⟨hx, hb, hml, hown, hts⟩, hr, hlocks, hF, hAd⟩ := id C0
  unfold X12_pagesOf_b0 at h
  refine lv_iconst (v := 0) hx hb dX12_pagesOf_0 (by decide) ?_
  refine lv_istore_n (lv' := [(2, .int 0), (0, .ref (ea E k0)), (1, .int v1)]) hx hb dX12_pagesOf_1 rfl hl (by decide) rfl (fun ls hl => ?_)
  refine lv_iconst (v := 0) hx hb dX12_pagesOf_2 (by decide) ?_
  refine lv_istore_n (lv' := [(3, .int 0), (2, .int 0), (0, .ref (ea E k0)), (1, .int v1)]) hx hb dX12_pagesOf_3 rfl hl (by decide) rfl (fun ls hl => ?_)
  exact w_X12_pagesOf_l4 C0  FU k0 v1 0 0 hk0 _ _ _ _ hH (lv_sub hl [2, 3, 1, 0] rfl) h
theorem c_X12_pagesOf {l : Launch} {E : EnvT} (hAd : Ad E) (k0 : Nat) (v1 : Int32) (hk0 : kd k0 = 12) (σ : Mem) {r : Int32} (h : X12_pagesOf k0 v1 σ = some r) : Met l yX12_pagesOf (wsM yX12_pagesOf cX12_pagesOf 4 (some .int)) (rmD 0) (PcM E [.ref (ea E k0), .int v1] σ) (QiM E r σ) 0 0 (eA E) :=
  Met.ofM (by decide) (Nat.le_of_ble_eq_true rfl) (fun p e s m below meth c ls C0 hH hl => w_X12_pagesOf_b0 C0 k0 v1 hk0 hH hl h) hAd
set_option maxRecDepth 100000 in
set_option maxHeartbeats 4000000 in
theorem w_X12_isInDoubt_b49 {r : Int32} (C0 : Cx E p m c cX12_isInDoubt 5 s args RX12 meth (some .boolean)) (K5 : Nat → Int32 → Int32 → Int32 → Int32 → Mem → Option Int32) (hK5 : ∀ (k0 : Nat) (v1 : Int32) (v2 : Int32) (v3 : Int32) (v4 : Int32) (hk0 : kd k0 = 12) (σ : Mem) (H : Heap) (locs : List Loc) (ls : Array Slot), Hs E s σ H locs → lv_has ls 5 [(0, .ref (ea E k0)), (1, .int v1), (2, .int v2), (3, .int v3), (4, .int v4)] → K5 k0 v1 v2 v3 v4 σ = some r → W p l e (rmD 1) s m args below meth c H locs 0 0 (MQ below (QiM E r σ) args s 0 0 (eA E)) (F0 m 5 ls []))  (k0 : Nat) (v1 : Int32) (v2 : Int32) (v4 : Int32) (s0 : Int32) (hk0 : kd k0 = 12) {σ : Mem} {H : Heap} {locs : List Loc} {ls : Array Slot} (hH : Hs E s σ H locs) (hl : lv_has ls 5 [(0, .ref (ea E k0)), (1, .int v1), (2, .int v2), (4, .int v4)]) (h : X12_isInDoubt_b49 K5 k0 v1 v2 v4 s0 σ = some r) : W p l e (rmD 1) s m args below meth c H locs 0 0 (MQ below (QiM E r σ) args s 0 0 (eA E)) (F0 m 49 ls [.int s0]) := by
  obtain ⟨⟨hx, hb, hml, hown, hts⟩, hr, hlocks, hF, hAd⟩ := id C0
  unfold X12_isInDoubt_b49 at h
  refine lv_istore_n (lv' := [(3, .int s0), (0, .ref (ea E k0)), (1, .int v1), (2, .int v2), (4, .int v4)]) hx hb dX12_isInDoubt_49 rfl hl (by decide) rfl (fun ls hl => ?_)
  refine lv_iinc (v := v4 + 1) (lv' := [(4, .int (v4 + 1)), (3, .int s0), (0, .ref (ea E k0)), (1, .int v1), (2, .int v2)]) hx hb dX12_isInDoubt_50 hl (k := 4) rfl rfl (by decide) rfl (fun ls hl => ?_)
  refine lv_goto (tgt := 5) hx hb dX12_isInDoubt_53 (by decide) ?_
  exact hK5 k0 v1 v2 s0 (v4 + 1) hk0 _ _ _ _ hH (lv_sub hl [2, 3, 4, 1, 0] rfl) h
set_option maxRecDepth 100000 in
set_option maxHeartbeats 4000000 in
theorem w_X12_isInDoubt_b44 {r : Int32} (C0 : Cx E p m c cX12_isInDoubt 5 s args RX12 meth (some .boolean)) (K5 : Nat → Int32 → Int32 → Int32 → Int32 → Mem → Option Int32) (hK5 : ∀ (k0 : Nat) (v1 : Int32) (v2 : Int32) (v3 : Int32) (v4 : Int32) (hk0 : kd k0 = 12) (σ : Mem) (H : Heap) (locs : List Loc) (ls : Array Slot), Hs E s σ H locs → lv_has ls 5 [(0, .ref (ea E k0)), (1, .int v1), (2, .int v2), (3, .int v3), (4, .int v4)] → K5 k0 v1 v2 v3 v4 σ = some r → W p l e (rmD 1) s m args below meth c H locs 0 0 (MQ below (QiM E r σ) args s 0 0 (eA E)) (F0 m 5 ls []))  (k0 : Nat) (v1 : Int32) (v2 : Int32) (v4 : Int32) (hk0 : kd k0 = 12) {σ : Mem} {H : Heap} {locs : List Loc} {ls : Array Slot} (hH : Hs E s σ H locs) (hl : lv_has ls 5 [(0, .ref (ea E k0)), (1, .int v1), (2, .int v2), (4, .int v4)]) (h : X12_isInDoubt_b44 K5 k0 v1 v2 v4 σ = some r) : W p l e (rmD 1) s m args below meth c H locs 0 0 (MQ below (QiM E r σ) args s 0 0 (eA E)) (F0 m 44 ls []) := by
  obtain ⟨⟨hx, hb, hml, hown, hts⟩, hr, hlocks, hF, hAd⟩ := id C0
  unfold X12_isInDoubt_b44 at h
  refine lv_iconst (v := 1) hx hb dX12_isInDoubt_44 (by decide) ?_
  refine lv_goto (tgt := 49) hx hb dX12_isInDoubt_45 (by decide) ?_
  exact w_X12_isInDoubt_b49 C0 K5 hK5 k0 v1 v2 v4 1 hk0 hH (lv_sub hl [0, 1, 2, 3] rfl) h
set_option maxRecDepth 100000 in
set_option maxHeartbeats 4000000 in
theorem w_X12_isInDoubt_b48 {r : Int32} (C0 : Cx E p m c cX12_isInDoubt 5 s args RX12 meth (some .boolean)) (K5 : Nat → Int32 → Int32 → Int32 → Int32 → Mem → Option Int32) (hK5 : ∀ (k0 : Nat) (v1 : Int32) (v2 : Int32) (v3 : Int32) (v4 : Int32) (hk0 : kd k0 = 12) (σ : Mem) (H : Heap) (locs : List Loc) (ls : Array Slot), Hs E s σ H locs → lv_has ls 5 [(0, .ref (ea E k0)), (1, .int v1), (2, .int v2), (3, .int v3), (4, .int v4)] → K5 k0 v1 v2 v3 v4 σ = some r → W p l e (rmD 1) s m args below meth c H locs 0 0 (MQ below (QiM E r σ) args s 0 0 (eA E)) (F0 m 5 ls []))  (k0 : Nat) (v1 : Int32) (v2 : Int32) (v4 : Int32) (hk0 : kd k0 = 12) {σ : Mem} {H : Heap} {locs : List Loc} {ls : Array Slot} (hH : Hs E s σ H locs) (hl : lv_has ls 5 [(0, .ref (ea E k0)), (1, .int v1), (2, .int v2), (4, .int v4)]) (h : X12_isInDoubt_b48 K5 k0 v1 v2 v4 σ = some r) : W p l e (rmD 1) s m args below meth c H locs 0 0 (MQ below (QiM E r σ) args s 0 0 (eA E)) (F0 m 48 ls []) := by
  obtain ⟨⟨hx, hb, hml, hown, hts⟩, hr, hlocks, hF, hAd⟩ := id C0
  unfold X12_isInDoubt_b48 at h
  refine lv_iconst (v := 0) hx hb dX12_isInDoubt_48 (by decide) ?_
  exact w_X12_isInDoubt_b49 C0 K5 hK5 k0 v1 v2 v4 0 hk0 hH (lv_sub hl [0, 1, 2, 3] rfl) h
set_option maxRecDepth 100000 in
set_option maxHeartbeats 4000000 in
theorem w_X12_isInDoubt_b5 {r : Int32} (C0 : Cx E p m c cX12_isInDoubt 5 s args RX12 meth (some .boolean)) (K5 : Nat → Int32 → Int32 → Int32 → Int32 → Mem → Option Int32) (hK5 : ∀ (k0 : Nat) (v1 : Int32) (v2 : Int32) (v3 : Int32) (v4 : Int32) (hk0 : kd k0 = 12) (σ : Mem) (H : Heap) (locs : List Loc) (ls : Array Slot), Hs E s σ H locs → lv_has ls 5 [(0, .ref (ea E k0)), (1, .int v1), (2, .int v2), (3, .int v3), (4, .int v4)] → K5 k0 v1 v2 v3 v4 σ = some r → W p l e (rmD 1) s m args below meth c H locs 0 0 (MQ below (QiM E r σ) args s 0 0 (eA E)) (F0 m 5 ls []))  (k0 : Nat) (v1 : Int32) (v2 : Int32) (v3 : Int32) (v4 : Int32) (hk0 : kd k0 = 12) {σ : Mem} {H : Heap} {locs : List Loc} {ls : Array Slot} (hH : Hs E s σ H locs) (hl : lv_has ls 5 [(0, .ref (ea E k0)), (1, .int v1), (2, .int v2), (3, .int v3), (4, .int v4)]) (h : X12_isInDoubt_b5 K5 k0 v1 v2 v3 v4 σ = some r) : W p l e (rmD 1) s m args below meth c H locs 0 0 (MQ below (QiM E r σ) args s 0 0 (eA E)) (F0 m 5 ls []) := by
  obtain ⟨⟨hx, hb, hml, hown, hts⟩, hr, hlocks, hF, hAd⟩ := id C0
  unfold X12_isInDoubt_b5 at h
  refine lv_iload hx hb dX12_isInDoubt_5 (lv_at hl 4 rfl) ?_
  refine lv_iload_n hx hb dX12_isInDoubt_7 rfl (lv_at hl 2 rfl) ?_
  refine lv_icmp_ge (tgt := 56) hx hb dX12_isInDoubt_8 (by decide) (fun c1 => ?_) (fun c1 => ?_)
  · replace h := if_t h c1
    refine lv_iload_n hx hb dX12_isInDoubt_56 rfl (lv_at hl 3 rfl) ?_
    obtain ⟨z2, h⟩ := gdb_s h
    exact r_zret C0 (bit_nar z2) hH (Option.some.inj h) rfl dX12_isInDoubt_57
  · replace h := if_f h c1
    refine lv_iload_n hx hb dX12_isInDoubt_11 rfl (lv_at hl 3 rfl) ?_
    refine lv_if_ne (tgt := 44) hx hb dX12_isInDoubt_12 (by decide) (fun c3 => ?_) (fun c3 => ?_)
    · replace h := if_f h c3
      exact w_X12_isInDoubt_b44 C0 K5 hK5 k0 v1 v2 v4 hk0 hH (lv_sub hl [0, 1, 2, 4] rfl) h
    · replace h := if_t h c3
      refine lv_iload hx hb dX12_isInDoubt_15 (lv_at hl 4 rfl) ?_
      refine lv_aload_n hx hb dX12_isInDoubt_17 rfl (lv_at hl 0 rfl) ?_
      refine gf_X12_46 C0 hH hk0 dX12_isInDoubt_18 ?_
      refine lv_iload_n hx hb dX12_isInDoubt_21 rfl (lv_at hl 1 rfl) ?_
      obtain ⟨b4, h⟩ := gdx_s h
      refine r_iald C0 hH (n := 10) (kf_12_22 hk0) b4 dX12_isInDoubt_22 ?_
      refine lv_icmp_eq (tgt := 48) hx hb dX12_isInDoubt_23 (by decide) (fun c5 => ?_) (fun c5 => ?_)
      · replace h := if_t h c5
        exact w_X12_isInDoubt_b48 C0 K5 hK5 k0 v1 v2 v4 hk0 hH (lv_sub hl [0, 1, 2, 4] rfl) h
      · replace h := if_f h c5
        refine lv_aload_n hx hb dX12_isInDoubt_26 rfl (lv_at hl 0 rfl) ?_
        refine lv_iload hx hb dX12_isInDoubt_27 (lv_at hl 4 rfl) ?_
        obtain ⟨r6, qr6, h⟩ := ob_s h
        refine go_i hH (va_run_V (As := [.int v4]) (rest := []) C0 hH lk_X12_243 (c_X12_pagesOf hAd k0 v4 hk0 σ qr6) (by decide) (ci := 12) hk0 (by decide) (cob_12 _ _ _) rfl rfl hl.1 rfl (Nat.le_of_ble_eq_true rfl) dX12_isInDoubt_29) (fun H locs hH => ?_)
        refine lv_aload_n hx hb dX12_isInDoubt_32 rfl (lv_at hl 0 rfl) ?_
        refine gf_X12_37 C0 hH hk0 dX12_isInDoubt_33 ?_
        refine lv_iload_n hx hb dX12_isInDoubt_36 rfl (lv_at hl 1 rfl) ?_
        obtain ⟨b7, h⟩ := gdx_s h
        refine r_iald C0 hH (n := 10) (kf_12_19 hk0) b7 dX12_isInDoubt_37 ?_
        refine lv_iconst (v := (-1)) hx hb dX12_isInDoubt_38 (by decide) ?_
        refine lv_ixor hx hb dX12_isInDoubt_39 ?_
        refine lv_iand hx hb dX12_isInDoubt_40 ?_
        refine lv_if_ne (tgt := 48) hx hb dX12_isInDoubt_41 (by decide) (fun c8 => ?_) (fun c8 => ?_)
        · replace h := if_f h c8
          exact w_X12_isInDoubt_b48 C0 K5 hK5 k0 v1 v2 v4 hk0 hH (lv_sub hl [0, 1, 2, 4] rfl) h
        · replace h := if_t h c8
          exact w_X12_isInDoubt_b44 C0 K5 hK5 k0 v1 v2 v4 hk0 hH (lv_sub hl [0, 1, 2, 4] rfl) h
set_option maxRecDepth 100000 in
set_option maxHeartbeats 4000000 in
theorem w_X12_isInDoubt_l5 {r : Int32} (C0 : Cx E p m c cX12_isInDoubt 5 s args RX12 meth (some .boolean))  (n : Nat) : ∀ (k0 : Nat) (v1 : Int32) (v2 : Int32) (v3 : Int32) (v4 : Int32) (hk0 : kd k0 = 12) (σ : Mem) (H : Heap) (locs : List Loc) (ls : Array Slot), Hs E s σ H locs → lv_has ls 5 [(0, .ref (ea E k0)), (1, .int v1), (2, .int v2), (3, .int v3), (4, .int v4)] → X12_isInDoubt_l5 n k0 v1 v2 v3 v4 σ = some r → W p l e (rmD 1) s m args below meth c H locs 0 0 (MQ below (QiM E r σ) args s 0 0 (eA E)) (F0 m 5 ls []) := by
  induction n with
  | zero =>
    intro k0 v1 v2 v3 v4 hk0 σ H locs ls hH hl h
    cases h
  | succ n ih =>
    intro k0 v1 v2 v3 v4 hk0 σ H locs ls hH hl h
    exact w_X12_isInDoubt_b5 C0 (X12_isInDoubt_l5 n)  ih k0 v1 v2 v3 v4 hk0 hH hl h
set_option maxRecDepth 100000 in
set_option maxHeartbeats 4000000 in
theorem w_X12_isInDoubt_b0 {r : Int32} (C0 : Cx E p m c cX12_isInDoubt 5 s args RX12 meth (some .boolean))  (k0 : Nat) (v1 : Int32) (v2 : Int32) (hk0 : kd k0 = 12) {σ : Mem} {H : Heap} {locs : List Loc} {ls : Array Slot} (hH : Hs E s σ H locs) (hl : lv_has ls 5 [(0, .ref (ea E k0)), (1, .int v1), (2, .int v2)]) (h : X12_isInDoubt_b0 k0 v1 v2 σ = some r) : W p l e (rmD 1) s m args below meth c H locs 0 0 (MQ below (QiM E r σ) args s 0 0 (eA E)) (F0 m 0 ls []) := by
  obtain ⟨⟨hx, hb, hml, hown, hts⟩, hr, hlocks, hF, hAd⟩ := id C0
  unfold X12_isInDoubt_b0 at h
  refine lv_iconst (v := 0) hx hb dX12_isInDoubt_0 (by decide) ?_
  refine lv_istore_n (lv' := [(3, .int 0), (0, .ref (ea E k0)), (1, .int v1), (2, .int v2)]) hx hb dX12_isInDoubt_1 rfl hl (by decide) rfl (fun ls hl => ?_)
  refine lv_iconst (v := 0) hx hb dX12_isInDoubt_2 (by decide) ?_
  refine lv_istore (lv' := [(4, .int 0), (3, .int 0), (0, .ref (ea E k0)), (1, .int v1), (2, .int v2)]) hx hb dX12_isInDoubt_3 hl (by decide) rfl (fun ls hl => ?_)
  exact w_X12_isInDoubt_l5 C0  FU k0 v1 v2 0 0 hk0 _ _ _ _ hH (lv_sub hl [2, 3, 4, 1, 0] rfl) h
theorem c_X12_isInDoubt {l : Launch} {E : EnvT} (hAd : Ad E) (k0 : Nat) (v1 : Int32) (v2 : Int32) (hk0 : kd k0 = 12) (σ : Mem) {r : Int32} (h : X12_isInDoubt k0 v1 v2 σ = some r) : Met l yX12_isInDoubt (wsM yX12_isInDoubt cX12_isInDoubt 5 (some .boolean)) (rmD 1) (PcM E [.ref (ea E k0), .int v1, .int v2] σ) (QiM E r σ) 0 0 (eA E) :=
  Met.ofM (by decide) (Nat.le_of_ble_eq_true rfl) (fun p e s m below meth c ls C0 hH hl => w_X12_isInDoubt_b0 C0 k0 v1 v2 hk0 hH hl h) hAd
set_option maxRecDepth 100000 in
set_option maxHeartbeats 4000000 in
theorem w_X12_doubts_b29 {r : Int32} (C0 : Cx E p m c cX12_doubts 4 s args RX12 meth (some .int)) (K4 : Nat → Int32 → Int32 → Int32 → Mem → Option Int32) (hK4 : ∀ (k0 : Nat) (v1 : Int32) (v2 : Int32) (v3 : Int32) (hk0 : kd k0 = 12) (σ : Mem) (H : Heap) (locs : List Loc) (ls : Array Slot), Hs E s σ H locs → lv_has ls 4 [(0, .ref (ea E k0)), (1, .int v1), (2, .int v2), (3, .int v3)] → K4 k0 v1 v2 v3 σ = some r → W p l e (rmD 2) s m args below meth c H locs 0 0 (MQ below (QiM E r σ) args s 0 0 (eA E)) (F0 m 4 ls []))  (k0 : Nat) (v1 : Int32) (v3 : Int32) (s0 : Int32) (s1 : Int32) (hk0 : kd k0 = 12) {σ : Mem} {H : Heap} {locs : List Loc} {ls : Array Slot} (hH : Hs E s σ H locs) (hl : lv_has ls 4 [(0, .ref (ea E k0)), (1, .int v1), (3, .int v3)]) (h : X12_doubts_b29 K4 k0 v1 v3 s0 s1 σ = some r) : W p l e (rmD 2) s m args below meth c H locs 0 0 (MQ below (QiM E r σ) args s 0 0 (eA E)) (F0 m 29 ls [.int s1, .int s0]) := by
  obtain ⟨⟨hx, hb, hml, hown, hts⟩, hr, hlocks, hF, hAd⟩ := id C0
  unfold X12_doubts_b29 at h
  refine lv_iadd hx hb dX12_doubts_29 ?_
  obtain ⟨x1, ex1, h⟩ := letv_s h
  refine topi_of ex1 ?_
  refine lv_istore_n (lv' := [(2, .int x1), (0, .ref (ea E k0)), (1, .int v1), (3, .int v3)]) hx hb dX12_doubts_30 rfl hl (by decide) rfl (fun ls hl => ?_)
  refine lv_iinc (v := v3 + 1) (lv' := [(3, .int (v3 + 1)), (2, .int x1), (0, .ref (ea E k0)), (1, .int v1)]) hx hb dX12_doubts_31 hl (k := 3) rfl rfl (by decide) rfl (fun ls hl => ?_)
  refine lv_goto (tgt := 4) hx hb dX12_doubts_34 (by decide) ?_
  exact hK4 k0 v1 x1 (v3 + 1) hk0 _ _ _ _ hH (lv_sub hl [2, 3, 1, 0] rfl) h
set_option maxRecDepth 100000 in
set_option maxHeartbeats 4000000 in
theorem w_X12_doubts_b4 {r : Int32} (C0 : Cx E p m c cX12_doubts 4 s args RX12 meth (some .int)) (K4 : Nat → Int32 → Int32 → Int32 → Mem → Option Int32) (hK4 : ∀ (k0 : Nat) (v1 : Int32) (v2 : Int32) (v3 : Int32) (hk0 : kd k0 = 12) (σ : Mem) (H : Heap) (locs : List Loc) (ls : Array Slot), Hs E s σ H locs → lv_has ls 4 [(0, .ref (ea E k0)), (1, .int v1), (2, .int v2), (3, .int v3)] → K4 k0 v1 v2 v3 σ = some r → W p l e (rmD 2) s m args below meth c H locs 0 0 (MQ below (QiM E r σ) args s 0 0 (eA E)) (F0 m 4 ls []))  (k0 : Nat) (v1 : Int32) (v2 : Int32) (v3 : Int32) (hk0 : kd k0 = 12) {σ : Mem} {H : Heap} {locs : List Loc} {ls : Array Slot} (hH : Hs E s σ H locs) (hl : lv_has ls 4 [(0, .ref (ea E k0)), (1, .int v1), (2, .int v2), (3, .int v3)]) (h : X12_doubts_b4 K4 k0 v1 v2 v3 σ = some r) : W p l e (rmD 2) s m args below meth c H locs 0 0 (MQ below (QiM E r σ) args s 0 0 (eA E)) (F0 m 4 ls []) := by
  obtain ⟨⟨hx, hb, hml, hown, hts⟩, hr, hlocks, hF, hAd⟩ := id C0
  unfold X12_doubts_b4 at h
  refine lv_iload_n hx hb dX12_doubts_4 rfl (lv_at hl 3 rfl) ?_
  refine lv_aload_n hx hb dX12_doubts_5 rfl (lv_at hl 0 rfl) ?_
  refine gf_X12_19 C0 hH hk0 dX12_doubts_6 ?_
  refine lv_iconst (v := 0) hx hb dX12_doubts_9 (by decide) ?_
  refine r_iald C0 hH (n := 43) (kf_12_4 hk0) (vin (by decide)) dX12_doubts_10 ?_
  refine lv_icmp_ge (tgt := 37) hx hb dX12_doubts_11 (by decide) (fun c1 => ?_) (fun c1 => ?_)
  · replace h := if_t h c1
    refine lv_iload_n hx hb dX12_doubts_37 rfl (lv_at hl 2 rfl) ?_
    exact r_iret C0 hH (Option.some.inj h) rfl dX12_doubts_38
  · replace h := if_f h c1
    refine lv_iload_n hx hb dX12_doubts_14 rfl (lv_at hl 2 rfl) ?_
    refine lv_aload_n hx hb dX12_doubts_15 rfl (lv_at hl 0 rfl) ?_
    refine lv_iload_n hx hb dX12_doubts_16 rfl (lv_at hl 3 rfl) ?_
    refine lv_iload_n hx hb dX12_doubts_17 rfl (lv_at hl 1 rfl) ?_
    obtain ⟨r2, qr2, h⟩ := ob_s h
    refine go_i hH (va_run_V (As := [.int v3, .int v1]) (rest := [.int v2]) C0 hH lk_X12_246 (c_X12_isInDoubt hAd k0 v3 v1 hk0 σ qr2) (by decide) (ci := 12) hk0 (by decide) (cob_12 _ _ _) rfl rfl hl.1 rfl (Nat.le_of_ble_eq_true rfl) dX12_doubts_18) (fun H locs hH => ?_)
    refine lv_if_eq (tgt := 28) hx hb dX12_doubts_21 (by decide) (fun c3 => ?_) (fun c3 => ?_)
    · replace h := if_t h c3
      refine lv_iconst (v := 0) hx hb dX12_doubts_28 (by decide) ?_
      exact w_X12_doubts_b29 C0 K4 hK4 k0 v1 v3 v2 0 hk0 hH (lv_sub hl [0, 1, 3] rfl) h
    · replace h := if_f h c3
      refine lv_iconst (v := 1) hx hb dX12_doubts_24 (by decide) ?_
      refine lv_goto (tgt := 29) hx hb dX12_doubts_25 (by decide) ?_
      exact w_X12_doubts_b29 C0 K4 hK4 k0 v1 v3 v2 1 hk0 hH (lv_sub hl [0, 1, 3] rfl) h
set_option maxRecDepth 100000 in
set_option maxHeartbeats 4000000 in
theorem w_X12_doubts_l4 {r : Int32} (C0 : Cx E p m c cX12_doubts 4 s args RX12 meth (some .int))  (n : Nat) : ∀ (k0 : Nat) (v1 : Int32) (v2 : Int32) (v3 : Int32) (hk0 : kd k0 = 12) (σ : Mem) (H : Heap) (locs : List Loc) (ls : Array Slot), Hs E s σ H locs → lv_has ls 4 [(0, .ref (ea E k0)), (1, .int v1), (2, .int v2), (3, .int v3)] → X12_doubts_l4 n k0 v1 v2 v3 σ = some r → W p l e (rmD 2) s m args below meth c H locs 0 0 (MQ below (QiM E r σ) args s 0 0 (eA E)) (F0 m 4 ls []) := by
  induction n with
  | zero =>
    intro k0 v1 v2 v3 hk0 σ H locs ls hH hl h
    cases h
  | succ n ih =>
    intro k0 v1 v2 v3 hk0 σ H locs ls hH hl h
    exact w_X12_doubts_b4 C0 (X12_doubts_l4 n)  ih k0 v1 v2 v3 hk0 hH hl h
set_option maxRecDepth 100000 in
set_option maxHeartbeats 4000000 in
theorem w_X12_doubts_b0 {r : Int32} (C0 : Cx E p m c cX12_doubts 4 s args RX12 meth (some .int))  (k0 : Nat) (v1 : Int32) (hk0 : kd k0 = 12) {σ : Mem} {H : Heap} {locs : List Loc} {ls : Array Slot} (hH : Hs E s σ H locs) (hl : lv_has ls 4 [(0, .ref (ea E k0)), (1, .int v1)]) (h : X12_doubts_b0 k0 v1 σ = some r) : W p l e (rmD 2) s m args below meth c H locs 0 0 (MQ below (QiM E r σ) args s 0 0 (eA E)) (F0 m 0 ls []) := by
  obtain ⟨⟨hx, hb, hml, hown, hts⟩, hr, hlocks, hF, hAd⟩ := id C0
  unfold X12_doubts_b0 at h
  refine lv_iconst (v := 0) hx hb dX12_doubts_0 (by decide) ?_
  refine lv_istore_n (lv' := [(2, .int 0), (0, .ref (ea E k0)), (1, .int v1)]) hx hb dX12_doubts_1 rfl hl (by decide) rfl (fun ls hl => ?_)
  refine lv_iconst (v := 0) hx hb dX12_doubts_2 (by decide) ?_
  refine lv_istore_n (lv' := [(3, .int 0), (2, .int 0), (0, .ref (ea E k0)), (1, .int v1)]) hx hb dX12_doubts_3 rfl hl (by decide) rfl (fun ls hl => ?_)
  exact w_X12_doubts_l4 C0  FU k0 v1 0 0 hk0 _ _ _ _ hH (lv_sub hl [2, 3, 1, 0] rfl) h
theorem c_X12_doubts {l : Launch} {E : EnvT} (hAd : Ad E) (k0 : Nat) (v1 : Int32) (hk0 : kd k0 = 12) (σ : Mem) {r : Int32} (h : X12_doubts k0 v1 σ = some r) : Met l yX12_doubts (wsM yX12_doubts cX12_doubts 4 (some .int)) (rmD 2) (PcM E [.ref (ea E k0), .int v1] σ) (QiM E r σ) 0 0 (eA E) :=
  Met.ofM (by decide) (Nat.le_of_ble_eq_true rfl) (fun p e s m below meth c ls C0 hH hl => w_X12_doubts_b0 C0 k0 v1 hk0 hH hl h) hAd
set_option maxRecDepth 100000 in
set_option maxHeartbeats 4000000 in
theorem w_X12_middleOf_b127 {r : Int32} (C0 : Cx E p m c cX12_middleOf 8 s args RX12 meth (some .int)) (K8 : Nat → Int32 → Int32 → Int32 → Int32 → Mem → Option Int32) (hK8 : ∀ (k0 : Nat) (v1 : Int32) (v2 : Int32) (v3 : Int32) (v4 : Int32) (hk0 : kd k0 = 12) (σ : Mem) (H : Heap) (locs : List Loc) (ls : Array Slot), Hs E s σ H locs → lv_has ls 8 [(0, .ref (ea E k0)), (1, .int v1), (2, .int v2), (3, .int v3), (4, .int v4)] → K8 k0 v1 v2 v3 v4 σ = some r → W p l e (rmD 2) s m args below meth c H locs 0 0 (MQ below (QiM E r σ) args s 0 0 (eA E)) (F0 m 8 ls []))  (k0 : Nat) (v1 : Int32) (v2 : Int32) (v3 : Int32) (v4 : Int32) (hk0 : kd k0 = 12) {σ : Mem} {H : Heap} {locs : List Loc} {ls : Array Slot} (hH : Hs E s σ H locs) (hl : lv_has ls 8 [(0, .ref (ea E k0)), (1, .int v1), (2, .int v2), (3, .int v3), (4, .int v4)]) (h : X12_middleOf_b127 K8 k0 v1 v2 v3 v4 σ = some r) : W p l e (rmD 2) s m args below meth c H locs 0 0 (MQ below (QiM E r σ) args s 0 0 (eA E)) (F0 m 127 ls []) := by
  obtain ⟨⟨hx, hb, hml, hown, hts⟩, hr, hlocks, hF, hAd⟩ := id C0
  unfold X12_middleOf_b127 at h
  refine lv_iinc (v := v4 + 1) (lv' := [(4, .int (v4 + 1)), (0, .ref (ea E k0)), (1, .int v1), (2, .int v2), (3, .int v3)]) hx hb dX12_middleOf_127 hl (k := 4) rfl rfl (by decide) rfl (fun ls hl => ?_)
  refine lv_goto (tgt := 8) hx hb dX12_middleOf_130 (by decide) ?_
  exact hK8 k0 v1 v2 v3 (v4 + 1) hk0 _ _ _ _ hH (lv_sub hl [1, 2, 3, 4, 0] rfl) h
set_option maxRecDepth 100000 in
set_option maxHeartbeats 4000000 in
theorem w_X12_middleOf_b121 {r : Int32} (C0 : Cx E p m c cX12_middleOf 8 s args RX12 meth (some .int)) (K8 : Nat → Int32 → Int32 → Int32 → Int32 → Mem → Option Int32) (hK8 : ∀ (k0 : Nat) (v1 : Int32) (v2 : Int32) (v3 : Int32) (v4 : Int32) (hk0 : kd k0 = 12) (σ : Mem) (H : Heap) (locs : List Loc) (ls : Array Slot), Hs E s σ H locs → lv_has ls 8 [(0, .ref (ea E k0)), (1, .int v1), (2, .int v2), (3, .int v3), (4, .int v4)] → K8 k0 v1 v2 v3 v4 σ = some r → W p l e (rmD 2) s m args below meth c H locs 0 0 (MQ below (QiM E r σ) args s 0 0 (eA E)) (F0 m 8 ls []))  (k0 : Nat) (v1 : Int32) (v4 : Int32) (v5 : Int32) (hk0 : kd k0 = 12) {σ : Mem} {H : Heap} {locs : List Loc} {ls : Array Slot} (hH : Hs E s σ H locs) (hl : lv_has ls 8 [(0, .ref (ea E k0)), (1, .int v1), (4, .int v4), (5, .int v5)]) (h : X12_middleOf_b121 K8 k0 v1 v4 v5 σ = some r) : W p l e (rmD 2) s m args below meth c H locs 0 0 (MQ below (QiM E r σ) args s 0 0 (eA E)) (F0 m 121 ls []) := by
  obtain ⟨⟨hx, hb, hml, hown, hts⟩, hr, hlocks, hF, hAd⟩ := id C0
  unfold X12_middleOf_b121 at h
  refine lv_iload hx hb dX12_middleOf_121 (lv_at hl 3 rfl) ?_
  refine lv_istore_n (lv' := [(3, .int v5), (0, .ref (ea E k0)), (1, .int v1), (4, .int v4), (5, .int v5)]) hx hb dX12_middleOf_123 rfl hl (by decide) rfl (fun ls hl => ?_)
  refine lv_iload hx hb dX12_middleOf_124 (lv_at hl 3 rfl) ?_
  refine lv_istore_n (lv' := [(2, .int v4), (3, .int v5), (0, .ref (ea E k0)), (1, .int v1), (4, .int v4), (5, .int v5)]) hx hb dX12_middleOf_126 rfl hl (by decide) rfl (fun ls hl => ?_)
  exact w_X12_middleOf_b127 C0 K8 hK8 k0 v1 v4 v5 v4 hk0 hH (lv_sub hl [2, 3, 0, 1, 4] rfl) h
set_option maxRecDepth 100000 in
set_option maxHeartbeats 4000000 in
theorem w_X12_middleOf_b92 {r : Int32} (C0 : Cx E p m c cX12_middleOf 8 s args RX12 meth (some .int)) (K8 : Nat → Int32 → Int32 → Int32 → Int32 → Mem → Option Int32) (K25 : Nat → Int32 → Int32 → Int32 → Int32 → Int32 → Int32 → Mem → Option Int32) (hK8 : ∀ (k0 : Nat) (v1 : Int32) (v2 : Int32) (v3 : Int32) (v4 : Int32) (hk0 : kd k0 = 12) (σ : Mem) (H : Heap) (locs : List Loc) (ls : Array Slot), Hs E s σ H locs → lv_has ls 8 [(0, .ref (ea E k0)), (1, .int v1), (2, .int v2), (3, .int v3), (4, .int v4)] → K8 k0 v1 v2 v3 v4 σ = some r → W p l e (rmD 2) s m args below meth c H locs 0 0 (MQ below (QiM E r σ) args s 0 0 (eA E)) (F0 m 8 ls [])) (hK25 : ∀ (k0 : Nat) (v1 : Int32) (v2 : Int32) (v3 : Int32) (v4 : Int32) (v5 : Int32) (v6 : Int32) (hk0 : kd k0 = 12) (σ : Mem) (H : Heap) (locs : List Loc) (ls : Array Slot), Hs E s σ H locs → lv_has ls 8 [(0, .ref (ea E k0)), (1, .int v1), (2, .int v2), (3, .int v3), (4, .int v4), (5, .int v5), (6, .int v6)] → K25 k0 v1 v2 v3 v4 v5 v6 σ = some r → W p l e (rmD 2) s m args below meth c H locs 0 0 (MQ below (QiM E r σ) args s 0 0 (eA E)) (F0 m 25 ls []))  (k0 : Nat) (v1 : Int32) (v2 : Int32) (v3 : Int32) (v4 : Int32) (v6 : Int32) (s0 : Int32) (hk0 : kd k0 = 12) {σ : Mem} {H : Heap} {locs : List Loc} {ls : Array Slot} (hH : Hs E s σ H locs) (hl : lv_has ls 8 [(0, .ref (ea E k0)), (1, .int v1), (2, .int v2), (3, .int v3), (4, .int v4), (6, .int v6)]) (h : X12_middleOf_b92 K8 K25 k0 v1 v2 v3 v4 v6 s0 σ = some r) : W p l e (rmD 2) s m args below meth c H locs 0 0 (MQ below (QiM E r σ) args s 0 0 (eA E)) (F0 m 92 ls [.int s0]) := by
  obtain ⟨⟨hx, hb, hml, hown, hts⟩, hr, hlocks, hF, hAd⟩ := id C0
  unfold X12_middleOf_b92 at h
  refine lv_istore (lv' := [(5, .int s0), (0, .ref (ea E k0)), (1, .int v1), (2, .int v2), (3, .int v3), (4, .int v4), (6, .int v6)]) hx hb dX12_middleOf_92 hl (by decide) rfl (fun ls hl => ?_)
  refine lv_iinc (v := v6 + 1) (lv' := [(6, .int (v6 + 1)), (5, .int s0), (0, .ref (ea E k0)), (1, .int v1), (2, .int v2), (3, .int v3), (4, .int v4)]) hx hb dX12_middleOf_94 hl (k := 6) rfl rfl (by decide) rfl (fun ls hl => ?_)
  refine lv_goto (tgt := 25) hx hb dX12_middleOf_97 (by decide) ?_
  exact hK25 k0 v1 v2 v3 v4 s0 (v6 + 1) hk0 _ _ _ _ hH (lv_sub hl [2, 3, 4, 5, 6, 1, 0] rfl) h
set_option maxRecDepth 100000 in
set_option maxHeartbeats 4000000 in
theorem w_X12_middleOf_b76 {r : Int32} (C0 : Cx E p m c cX12_middleOf 8 s args RX12 meth (some .int)) (K8 : Nat → Int32 → Int32 → Int32 → Int32 → Mem → Option Int32) (K25 : Nat → Int32 → Int32 → Int32 → Int32 → Int32 → Int32 → Mem → Option Int32) (hK8 : ∀ (k0 : Nat) (v1 : Int32) (v2 : Int32) (v3 : Int32) (v4 : Int32) (hk0 : kd k0 = 12) (σ : Mem) (H : Heap) (locs : List Loc) (ls : Array Slot), Hs E s σ H locs → lv_has ls 8 [(0, .ref (ea E k0)), (1, .int v1), (2, .int v2), (3, .int v3), (4, .int v4)] → K8 k0 v1 v2 v3 v4 σ = some r → W p l e (rmD 2) s m args below meth c H locs 0 0 (MQ below (QiM E r σ) args s 0 0 (eA E)) (F0 m 8 ls [])) (hK25 : ∀ (k0 : Nat) (v1 : Int32) (v2 : Int32) (v3 : Int32) (v4 : Int32) (v5 : Int32) (v6 : Int32) (hk0 : kd k0 = 12) (σ : Mem) (H : Heap) (locs : List Loc) (ls : Array Slot), Hs E s σ H locs → lv_has ls 8 [(0, .ref (ea E k0)), (1, .int v1), (2, .int v2), (3, .int v3), (4, .int v4), (5, .int v5), (6, .int v6)] → K25 k0 v1 v2 v3 v4 v5 v6 σ = some r → W p l e (rmD 2) s m args below meth c H locs 0 0 (MQ below (QiM E r σ) args s 0 0 (eA E)) (F0 m 25 ls []))  (k0 : Nat) (v1 : Int32) (v2 : Int32) (v3 : Int32) (v4 : Int32) (v5 : Int32) (v6 : Int32) (s0 : Int32) (hk0 : kd k0 = 12) {σ : Mem} {H : Heap} {locs : List Loc} {ls : Array Slot} (hH : Hs E s σ H locs) (hl : lv_has ls 8 [(0, .ref (ea E k0)), (1, .int v1), (2, .int v2), (3, .int v3), (4, .int v4), (5, .int v5), (6, .int v6)]) (h : X12_middleOf_b76 K8 K25 k0 v1 v2 v3 v4 v5 v6 s0 σ = some r) : W p l e (rmD 2) s m args below meth c H locs 0 0 (MQ below (QiM E r σ) args s 0 0 (eA E)) (F0 m 76 ls [.int s0]) := by
  obtain ⟨⟨hx, hb, hml, hown, hts⟩, hr, hlocks, hF, hAd⟩ := id C0
  unfold X12_middleOf_b76 at h
  refine lv_istore (lv' := [(7, .int s0), (0, .ref (ea E k0)), (1, .int v1), (2, .int v2), (3, .int v3), (4, .int v4), (5, .int v5), (6, .int v6)]) hx hb dX12_middleOf_76 hl (by decide) rfl (fun ls hl => ?_)
  refine lv_iload hx hb dX12_middleOf_78 (lv_at hl 0 rfl) ?_
  refine lv_iload hx hb dX12_middleOf_80 (lv_at hl 6 rfl) ?_
  refine lv_icmp_le (tgt := 90) hx hb dX12_middleOf_82 (by decide) (fun c1 => ?_) (fun c1 => ?_)
  · replace h := if_t h c1
    refine lv_iload hx hb dX12_middleOf_90 (lv_at hl 6 rfl) ?_
    exact w_X12_middleOf_b92 C0 K8 K25 hK8 hK25 k0 v1 v2 v3 v4 v6 v5 hk0 hH (lv_sub hl [1, 2, 3, 4, 5, 7] rfl) h
  · replace h := if_f h c1
    refine lv_iload hx hb dX12_middleOf_85 (lv_at hl 0 rfl) ?_
    refine lv_goto (tgt := 92) hx hb dX12_middleOf_87 (by decide) ?_
    exact w_X12_middleOf_b92 C0 K8 K25 hK8 hK25 k0 v1 v2 v3 v4 v6 s0 hk0 hH (lv_sub hl [1, 2, 3, 4, 5, 7] rfl) h
set_option maxRecDepth 100000 in
set_option maxHeartbeats 4000000 in
theorem w_X12_middleOf_b75 {r : Int32} (C0 : Cx E p m c cX12_middleOf 8 s args RX12 meth (some .int)) (K8 : Nat → Int32 → Int32 → Int32 → Int32 → Mem → Option Int32) (K25 : Nat → Int32 → Int32 → Int32 → Int32 → Int32 → Int32 → Mem → Option Int32) (hK8 : ∀ (k0 : Nat) (v1 : Int32) (v2 : Int32) (v3 : Int32) (v4 : Int32) (hk0 : kd k0 = 12) (σ : Mem) (H : Heap) (locs : List Loc) (ls : Array Slot), Hs E s σ H locs → lv_has ls 8 [(0, .ref (ea E k0)), (1, .int v1), (2, .int v2), (3, .int v3), (4, .int v4)] → K8 k0 v1 v2 v3 v4 σ = some r → W p l e (rmD 2) s m args below meth c H locs 0 0 (MQ below (QiM E r σ) args s 0 0 (eA E)) (F0 m 8 ls [])) (hK25 : ∀ (k0 : Nat) (v1 : Int32) (v2 : Int32) (v3 : Int32) (v4 : Int32) (v5 : Int32) (v6 : Int32) (hk0 : kd k0 = 12) (σ : Mem) (H : Heap) (locs : List Loc) (ls : Array Slot), Hs E s σ H locs → lv_has ls 8 [(0, .ref (ea E k0)), (1, .int v1), (2, .int v2), (3, .int v3), (4, .int v4), (5, .int v5), (6, .int v6)] → K25 k0 v1 v2 v3 v4 v5 v6 σ = some r → W p l e (rmD 2) s m args below meth c H locs 0 0 (MQ below (QiM E r σ) args s 0 0 (eA E)) (F0 m 25 ls []))  (k0 : Nat) (v1 : Int32) (v2 : Int32) (v3 : Int32) (v4 : Int32) (v5 : Int32) (v6 : Int32) (hk0 : kd k0 = 12) {σ : Mem} {H : Heap} {locs : List Loc} {ls : Array Slot} (hH : Hs E s σ H locs) (hl : lv_has ls 8 [(0, .ref (ea E k0)), (1, .int v1), (2, .int v2), (3, .int v3), (4, .int v4), (5, .int v5), (6, .int v6)]) (h : X12_middleOf_b75 K8 K25 k0 v1 v2 v3 v4 v5 v6 σ = some r) : W p l e (rmD 2) s m args below meth c H locs 0 0 (MQ below (QiM E r σ) args s 0 0 (eA E)) (F0 m 75 ls []) := by
  obtain ⟨⟨hx, hb, hml, hown, hts⟩, hr, hlocks, hF, hAd⟩ := id C0
  unfold X12_middleOf_b75 at h
  refine lv_iconst (v := 0) hx hb dX12_middleOf_75 (by decide) ?_
  exact w_X12_middleOf_b76 C0 K8 K25 hK8 hK25 k0 v1 v2 v3 v4 v5 v6 0 hk0 hH (lv_sub hl [0, 1, 2, 3, 4, 5, 6] rfl) h
set_option maxRecDepth 100000 in
set_option maxHeartbeats 4000000 in
theorem w_X12_middleOf_b25 {r : Int32} (C0 : Cx E p m c cX12_middleOf 8 s args RX12 meth (some .int)) (K8 : Nat → Int32 → Int32 → Int32 → Int32 → Mem → Option Int32) (K25 : Nat → Int32 → Int32 → Int32 → Int32 → Int32 → Int32 → Mem → Option Int32) (hK8 : ∀ (k0 : Nat) (v1 : Int32) (v2 : Int32) (v3 : Int32) (v4 : Int32) (hk0 : kd k0 = 12) (σ : Mem) (H : Heap) (locs : List Loc) (ls : Array Slot), Hs E s σ H locs → lv_has ls 8 [(0, .ref (ea E k0)), (1, .int v1), (2, .int v2), (3, .int v3), (4, .int v4)] → K8 k0 v1 v2 v3 v4 σ = some r → W p l e (rmD 2) s m args below meth c H locs 0 0 (MQ below (QiM E r σ) args s 0 0 (eA E)) (F0 m 8 ls [])) (hK25 : ∀ (k0 : Nat) (v1 : Int32) (v2 : Int32) (v3 : Int32) (v4 : Int32) (v5 : Int32) (v6 : Int32) (hk0 : kd k0 = 12) (σ : Mem) (H : Heap) (locs : List Loc) (ls : Array Slot), Hs E s σ H locs → lv_has ls 8 [(0, .ref (ea E k0)), (1, .int v1), (2, .int v2), (3, .int v3), (4, .int v4), (5, .int v5), (6, .int v6)] → K25 k0 v1 v2 v3 v4 v5 v6 σ = some r → W p l e (rmD 2) s m args below meth c H locs 0 0 (MQ below (QiM E r σ) args s 0 0 (eA E)) (F0 m 25 ls []))  (k0 : Nat) (v1 : Int32) (v2 : Int32) (v3 : Int32) (v4 : Int32) (v5 : Int32) (v6 : Int32) (hk0 : kd k0 = 12) {σ : Mem} {H : Heap} {locs : List Loc} {ls : Array Slot} (hH : Hs E s σ H locs) (hl : lv_has ls 8 [(0, .ref (ea E k0)), (1, .int v1), (2, .int v2), (3, .int v3), (4, .int v4), (5, .int v5), (6, .int v6)]) (h : X12_middleOf_b25 K8 K25 k0 v1 v2 v3 v4 v5 v6 σ = some r) : W p l e (rmD 2) s m args below meth c H locs 0 0 (MQ below (QiM E r σ) args s 0 0 (eA E)) (F0 m 25 ls []) := by
  obtain ⟨⟨hx, hb, hml, hown, hts⟩, hr, hlocks, hF, hAd⟩ := id C0
  unfold X12_middleOf_b25 at h
  refine lv_iload hx hb dX12_middleOf_25 (lv_at hl 6 rfl) ?_
  refine lv_aload_n hx hb dX12_middleOf_27 rfl (lv_at hl 0 rfl) ?_
  refine gf_X12_19 C0 hH hk0 dX12_middleOf_28 ?_
  refine lv_iconst (v := 0) hx hb dX12_middleOf_31 (by decide) ?_
  refine r_iald C0 hH (n := 43) (kf_12_4 hk0) (vin (by decide)) dX12_middleOf_32 ?_
  refine lv_icmp_ge (tgt := 100) hx hb dX12_middleOf_33 (by decide) (fun c1 => ?_) (fun c1 => ?_)
  · replace h := if_t h c1
    refine lv_iload_n hx hb dX12_middleOf_100 rfl (lv_at hl 1 rfl) ?_
    refine lv_iload hx hb dX12_middleOf_101 (lv_at hl 4 rfl) ?_
    refine go_i hH (va_run_S (As := [.int v1, .int v4]) (rest := []) C0 hH lk_X12_90 (c_X12_has hAd v1 v4  σ rfl) (by decide) rfl hl.1 rfl (Nat.le_of_ble_eq_true rfl) dX12_middleOf_103) (fun H locs hH => ?_)
    refine lv_if_eq (tgt := 127) hx hb dX12_middleOf_106 (by decide) (fun c2 => ?_) (fun c2 => ?_)
    · replace h := if_t h c2
      exact w_X12_middleOf_b127 C0 K8 hK8 k0 v1 v2 v3 v4 hk0 hH (lv_sub hl [0, 1, 2, 3, 4] rfl) h
    · replace h := if_f h c2
      refine lv_iload_n hx hb dX12_middleOf_109 rfl (lv_at hl 3 rfl) ?_
      refine lv_ldc hx hb hown (hts _ qK_X12_112) dX12_middleOf_110 ?_
      refine lv_icmp_eq (tgt := 121) hx hb dX12_middleOf_112 (by decide) (fun c3 => ?_) (fun c3 => ?_)
      · replace h := if_t h c3
        exact w_X12_middleOf_b121 C0 K8 hK8 k0 v1 v4 v5 hk0 hH (lv_sub hl [0, 1, 4, 5] rfl) h
      · replace h := if_f h c3
        refine lv_iload hx hb dX12_middleOf_115 (lv_at hl 5 rfl) ?_
        refine lv_iload_n hx hb dX12_middleOf_117 rfl (lv_at hl 3 rfl) ?_
        refine lv_icmp_ge (tgt := 127) hx hb dX12_middleOf_118 (by decide) (fun c4 => ?_) (fun c4 => ?_)
        · replace h := if_t h c4
          exact w_X12_middleOf_b127 C0 K8 hK8 k0 v1 v2 v3 v4 hk0 hH (lv_sub hl [0, 1, 2, 3, 4] rfl) h
        · replace h := if_f h c4
          exact w_X12_middleOf_b121 C0 K8 hK8 k0 v1 v4 v5 hk0 hH (lv_sub hl [0, 1, 4, 5] rfl) h
  · replace h := if_f h c1
    refine lv_iload hx hb dX12_middleOf_36 (lv_at hl 4 rfl) ?_
    refine lv_iload hx hb dX12_middleOf_38 (lv_at hl 6 rfl) ?_
    refine lv_icmp_eq (tgt := 75) hx hb dX12_middleOf_40 (by decide) (fun c5 => ?_) (fun c5 => ?_)
    · replace h := if_t h c5
      exact w_X12_middleOf_b75 C0 K8 K25 hK8 hK25 k0 v1 v2 v3 v4 v5 v6 hk0 hH (lv_sub hl [0, 1, 2, 3, 4, 5, 6] rfl) h
    · replace h := if_f h c5
      refine lv_iload_n hx hb dX12_middleOf_43 rfl (lv_at hl 1 rfl) ?_
      refine lv_iload hx hb dX12_middleOf_44 (lv_at hl 4 rfl) ?_
      refine go_i hH (va_run_S (As := [.int v1, .int v4]) (rest := []) C0 hH lk_X12_90 (c_X12_has hAd v1 v4  σ rfl) (by decide) rfl hl.1 rfl (Nat.le_of_ble_eq_true rfl) dX12_middleOf_46) (fun H locs hH => ?_)
      refine lv_if_eq (tgt := 75) hx hb dX12_middleOf_49 (by decide) (fun c6 => ?_) (fun c6 => ?_)
      · replace h := if_t h c6
        exact w_X12_middleOf_b75 C0 K8 K25 hK8 hK25 k0 v1 v2 v3 v4 v5 v6 hk0 hH (lv_sub hl [0, 1, 2, 3, 4, 5, 6] rfl) h
      · replace h := if_f h c6
        refine lv_iload_n hx hb dX12_middleOf_52 rfl (lv_at hl 1 rfl) ?_
        refine lv_iload hx hb dX12_middleOf_53 (lv_at hl 6 rfl) ?_
        refine go_i hH (va_run_S (As := [.int v1, .int v6]) (rest := []) C0 hH lk_X12_90 (c_X12_has hAd v1 v6  σ rfl) (by decide) rfl hl.1 rfl (Nat.le_of_ble_eq_true rfl) dX12_middleOf_55) (fun H locs hH => ?_)
        refine lv_if_eq (tgt := 75) hx hb dX12_middleOf_58 (by decide) (fun c7 => ?_) (fun c7 => ?_)
        · replace h := if_t h c7
          exact w_X12_middleOf_b75 C0 K8 K25 hK8 hK25 k0 v1 v2 v3 v4 v5 v6 hk0 hH (lv_sub hl [0, 1, 2, 3, 4, 5, 6] rfl) h
        · replace h := if_f h c7
          refine lv_aload_n hx hb dX12_middleOf_61 rfl (lv_at hl 0 rfl) ?_
          refine gf_X12_19 C0 hH hk0 dX12_middleOf_62 ?_
          refine lv_iload hx hb dX12_middleOf_65 (lv_at hl 4 rfl) ?_
          refine lv_iload hx hb dX12_middleOf_67 (lv_at hl 6 rfl) ?_
          obtain ⟨r8, qr8, h⟩ := ob_s h
          refine go_i hH (va_run_S (As := [.ref (ea E (k0 + 4)), .int v4, .int v6]) (rest := []) C0 hH lk_X12_200 (c_X12_farOf hAd (k0 + 4) v4 v6 (kf_12_4 hk0) σ qr8) (by decide) rfl hl.1 rfl (Nat.le_of_ble_eq_true rfl) dX12_middleOf_69) (fun H locs hH => ?_)
          refine lv_goto (tgt := 76) hx hb dX12_middleOf_72 (by decide) ?_
          exact w_X12_middleOf_b76 C0 K8 K25 hK8 hK25 k0 v1 v2 v3 v4 v5 v6 r8 hk0 hH (lv_sub hl [0, 1, 2, 3, 4, 5, 6] rfl) h
set_option maxRecDepth 100000 in
set_option maxHeartbeats 4000000 in
theorem w_X12_middleOf_l25 {r : Int32} (C0 : Cx E p m c cX12_middleOf 8 s args RX12 meth (some .int)) (K8 : Nat → Int32 → Int32 → Int32 → Int32 → Mem → Option Int32) (hK8 : ∀ (k0 : Nat) (v1 : Int32) (v2 : Int32) (v3 : Int32) (v4 : Int32) (hk0 : kd k0 = 12) (σ : Mem) (H : Heap) (locs : List Loc) (ls : Array Slot), Hs E s σ H locs → lv_has ls 8 [(0, .ref (ea E k0)), (1, .int v1), (2, .int v2), (3, .int v3), (4, .int v4)] → K8 k0 v1 v2 v3 v4 σ = some r → W p l e (rmD 2) s m args below meth c H locs 0 0 (MQ below (QiM E r σ) args s 0 0 (eA E)) (F0 m 8 ls []))  (n : Nat) : ∀ (k0 : Nat) (v1 : Int32) (v2 : Int32) (v3 : Int32) (v4 : Int32) (v5 : Int32) (v6 : Int32) (hk0 : kd k0 = 12) (σ : Mem) (H : Heap) (locs : List Loc) (ls : Array Slot), Hs E s σ H locs → lv_has ls 8 [(0, .ref (ea E k0)), (1, .int v1), (2, .int v2), (3, .int v3), (4, .int v4), (5, .int v5), (6, .int v6)] → X12_middleOf_l25 K8 n k0 v1 v2 v3 v4 v5 v6 σ = some r → W p l e (rmD 2) s m args below meth c H locs 0 0 (MQ below (QiM E r σ) args s 0 0 (eA E)) (F0 m 25 ls []) := by
  induction n with
  | zero =>
    intro k0 v1 v2 v3 v4 v5 v6 hk0 σ H locs ls hH hl h
    cases h
  | succ n ih =>
    intro k0 v1 v2 v3 v4 v5 v6 hk0 σ H locs ls hH hl h
    exact w_X12_middleOf_b25 C0 K8 (X12_middleOf_l25 K8 n) hK8 ih k0 v1 v2 v3 v4 v5 v6 hk0 hH hl h
set_option maxRecDepth 100000 in
set_option maxHeartbeats 4000000 in
theorem w_X12_middleOf_b8 {r : Int32} (C0 : Cx E p m c cX12_middleOf 8 s args RX12 meth (some .int)) (K8 : Nat → Int32 → Int32 → Int32 → Int32 → Mem → Option Int32) (hK8 : ∀ (k0 : Nat) (v1 : Int32) (v2 : Int32) (v3 : Int32) (v4 : Int32) (hk0 : kd k0 = 12) (σ : Mem) (H : Heap) (locs : List Loc) (ls : Array Slot), Hs E s σ H locs → lv_has ls 8 [(0, .ref (ea E k0)), (1, .int v1), (2, .int v2), (3, .int v3), (4, .int v4)] → K8 k0 v1 v2 v3 v4 σ = some r → W p l e (rmD 2) s m args below meth c H locs 0 0 (MQ below (QiM E r σ) args s 0 0 (eA E)) (F0 m 8 ls []))  (k0 : Nat) (v1 : Int32) (v2 : Int32) (v3 : Int32) (v4 : Int32) (hk0 : kd k0 = 12) {σ : Mem} {H : Heap} {locs : List Loc} {ls : Array Slot} (hH : Hs E s σ H locs) (hl : lv_has ls 8 [(0, .ref (ea E k0)), (1, .int v1), (2, .int v2), (3, .int v3), (4, .int v4)]) (h : X12_middleOf_b8 K8 k0 v1 v2 v3 v4 σ = some r) : W p l e (rmD 2) s m args below meth c H locs 0 0 (MQ below (QiM E r σ) args s 0 0 (eA E)) (F0 m 8 ls []) := by
  obtain ⟨⟨hx, hb, hml, hown, hts⟩, hr, hlocks, hF, hAd⟩ := id C0
  unfold X12_middleOf_b8 at h
  refine lv_iload hx hb dX12_middleOf_8 (lv_at hl 4 rfl) ?_
  refine lv_aload_n hx hb dX12_middleOf_10 rfl (lv_at hl 0 rfl) ?_
  refine gf_X12_19 C0 hH hk0 dX12_middleOf_11 ?_
  refine lv_iconst (v := 0) hx hb dX12_middleOf_14 (by decide) ?_
  refine r_iald C0 hH (n := 43) (kf_12_4 hk0) (vin (by decide)) dX12_middleOf_15 ?_
  refine lv_icmp_ge (tgt := 133) hx hb dX12_middleOf_16 (by decide) (fun c1 => ?_) (fun c1 => ?_)
  · replace h := if_t h c1
    refine lv_iload_n hx hb dX12_middleOf_133 rfl (lv_at hl 2 rfl) ?_
    exact r_iret C0 hH (Option.some.inj h) rfl dX12_middleOf_134
  · replace h := if_f h c1
    refine lv_iconst (v := 0) hx hb dX12_middleOf_19 (by decide) ?_
    refine lv_istore (lv' := [(5, .int 0), (0, .ref (ea E k0)), (1, .int v1), (2, .int v2), (3, .int v3), (4, .int v4)]) hx hb dX12_middleOf_20 hl (by decide) rfl (fun ls hl => ?_)
    refine lv_iconst (v := 0) hx hb dX12_middleOf_22 (by decide) ?_
    refine lv_istore (lv' := [(6, .int 0), (5, .int 0), (0, .ref (ea E k0)), (1, .int v1), (2, .int v2), (3, .int v3), (4, .int v4)]) hx hb dX12_middleOf_23 hl (by decide) rfl (fun ls hl => ?_)
    exact w_X12_middleOf_l25 C0 K8 hK8 FU k0 v1 v2 v3 v4 0 0 hk0 _ _ _ _ hH (lv_sub hl [2, 3, 4, 5, 6, 1, 0] rfl) h
set_option maxRecDepth 100000 in
set_option maxHeartbeats 4000000 in
theorem w_X12_middleOf_l8 {r : Int32} (C0 : Cx E p m c cX12_middleOf 8 s args RX12 meth (some .int))  (n : Nat) : ∀ (k0 : Nat) (v1 : Int32) (v2 : Int32) (v3 : Int32) (v4 : Int32) (hk0 : kd k0 = 12) (σ : Mem) (H : Heap) (locs : List Loc) (ls : Array Slot), Hs E s σ H locs → lv_has ls 8 [(0, .ref (ea E k0)), (1, .int v1), (2, .int v2), (3, .int v3), (4, .int v4)] → X12_middleOf_l8 n k0 v1 v2 v3 v4 σ = some r → W p l e (rmD 2) s m args below meth c H locs 0 0 (MQ below (QiM E r σ) args s 0 0 (eA E)) (F0 m 8 ls []) := by
  induction n with
  | zero =>
    intro k0 v1 v2 v3 v4 hk0 σ H locs ls hH hl h
    cases h
  | succ n ih =>
    intro k0 v1 v2 v3 v4 hk0 σ H locs ls hH hl h
    exact w_X12_middleOf_b8 C0 (X12_middleOf_l8 n)  ih k0 v1 v2 v3 v4 hk0 hH hl h
set_option maxRecDepth 100000 in
set_option maxHeartbeats 4000000 in
theorem w_X12_middleOf_b0 {r : Int32} (C0 : Cx E p m c cX12_middleOf 8 s args RX12 meth (some .int))  (k0 : Nat) (v1 : Int32) (hk0 : kd k0 = 12) {σ : Mem} {H : Heap} {locs : List Loc} {ls : Array Slot} (hH : Hs E s σ H locs) (hl : lv_has ls 8 [(0, .ref (ea E k0)), (1, .int v1)]) (h : X12_middleOf_b0 k0 v1 σ = some r) : W p l e (rmD 2) s m args below meth c H locs 0 0 (MQ below (QiM E r σ) args s 0 0 (eA E)) (F0 m 0 ls []) := by
  obtain ⟨⟨hx, hb, hml, hown, hts⟩, hr, hlocks, hF, hAd⟩ := id C0
  unfold X12_middleOf_b0 at h
  refine lv_iconst (v := 0) hx hb dX12_middleOf_0 (by decide) ?_
  refine lv_istore_n (lv' := [(2, .int 0), (0, .ref (ea E k0)), (1, .int v1)]) hx hb dX12_middleOf_1 rfl hl (by decide) rfl (fun ls hl => ?_)
  refine lv_ldc hx hb hown (hts _ qK_X12_112) dX12_middleOf_2 ?_
  refine lv_istore_n (lv' := [(3, .int ((-1000000))), (2, .int 0), (0, .ref (ea E k0)), (1, .int v1)]) hx hb dX12_middleOf_4 rfl hl (by decide) rfl (fun ls hl => ?_)
  refine lv_iconst (v := 0) hx hb dX12_middleOf_5 (by decide) ?_
  refine lv_istore (lv' := [(4, .int 0), (3, .int ((-1000000))), (2, .int 0), (0, .ref (ea E k0)), (1, .int v1)]) hx hb dX12_middleOf_6 hl (by decide) rfl (fun ls hl => ?_)
  exact w_X12_middleOf_l8 C0  FU k0 v1 0 (-1000000) 0 hk0 _ _ _ _ hH (lv_sub hl [3, 4, 2, 1, 0] rfl) h
theorem c_X12_middleOf {l : Launch} {E : EnvT} (hAd : Ad E) (k0 : Nat) (v1 : Int32) (hk0 : kd k0 = 12) (σ : Mem) {r : Int32} (h : X12_middleOf k0 v1 σ = some r) : Met l yX12_middleOf (wsM yX12_middleOf cX12_middleOf 8 (some .int)) (rmD 2) (PcM E [.ref (ea E k0), .int v1] σ) (QiM E r σ) 0 0 (eA E) :=
  Met.ofM (by decide) (Nat.le_of_ble_eq_true rfl) (fun p e s m below meth c ls C0 hH hl => w_X12_middleOf_b0 C0 k0 v1 hk0 hH hl h) hAd
set_option maxRecDepth 100000 in
set_option maxHeartbeats 4000000 in
theorem w_X12_hand_b19 {r : Int32} {σ' : Mem} (C0 : Cx E p m c cX12_hand 4 s args RX12 meth (some .int))  (k0 : Nat) (v1 : Int32) (v2 : Int32) (s0 : Int32) (hk0 : kd k0 = 12) {σ : Mem} {H : Heap} {locs : List Loc} {ls : Array Slot} (hH : Hs E s σ H locs) (hl : lv_has ls 4 [(0, .ref (ea E k0)), (1, .int v1), (2, .int v2)]) (h : X12_hand_b19 k0 v1 v2 s0 σ = some (r, σ')) : W p l e (rmD 6) s m args below meth c H locs 0 0 (MQ below (QiM E r σ') args s 0 0 (eA E)) (F0 m 19 ls [.int s0]) := by
  obtain ⟨⟨hx, hb, hml, hown, hts⟩, hr, hlocks, hF, hAd⟩ := id C0
  unfold X12_hand_b19 at h
  refine lv_istore_n (lv' := [(3, .int s0), (0, .ref (ea E k0)), (1, .int v1), (2, .int v2)]) hx hb dX12_hand_19 rfl hl (by decide) rfl (fun ls hl => ?_)
  refine lv_iload_n hx hb dX12_hand_20 rfl (lv_at hl 2 rfl) ?_
  refine lv_i2l (v := Int32.toInt64 v1) hx hb dX12_hand_21 rfl ?_
  refine lv_lconst (v := 0) hx hb dX12_hand_22 (by decide) ?_
  refine lv_iload_n hx hb dX12_hand_23 rfl (lv_at hl 0 rfl) ?_
  refine lv_iconst (v := 1) hx hb dX12_hand_24 (by decide) ?_
  refine lv_isub hx hb dX12_hand_25 ?_
  refine lv_i2l (v := Int32.toInt64 (s0 - 1)) hx hb dX12_hand_26 rfl ?_
  refine go_i hH (va_run_S (As := [.long (Int32.toInt64 v1), .long 0, .long (Int32.toInt64 (s0 - 1))]) (rest := []) C0 hH lk_X12_75 (c_X12_in hAd (Int32.toInt64 v1) 0 (Int32.toInt64 (s0 - 1))  σ rfl) (by decide) rfl hl.1 rfl (Nat.le_of_ble_eq_true rfl) dX12_hand_27) (fun H locs hH => ?_)
  refine lv_if_ne (tgt := 36) hx hb dX12_hand_30 (by decide) (fun c1 => ?_) (fun c1 => ?_)
  · replace h := if_f h c1
    refine lv_iload_n hx hb dX12_hand_36 rfl (lv_at hl 3 rfl) ?_
    by_cases c2 : v2 = 0
    · replace h := if_t h c2
      refine lv_tableIn (off := 27) (tgt := 64) hx hb dX12_hand_37 (by rw [c2]; decide) (by rw [c2]; decide) (by rw [c2]; rfl) (by decide) ?_
      refine lv_aload_n hx hb dX12_hand_64 rfl (lv_at hl 1 rfl) ?_
      refine lv_iload_n hx hb dX12_hand_65 rfl (lv_at hl 2 rfl) ?_
      obtain ⟨r3, qr3, h⟩ := ob_s h
      refine go_i hH (va_run_V (As := [.int v1]) (rest := []) C0 hH lk_X12_243 (c_X12_pagesOf hAd k0 v1 hk0 σ qr3) (by decide) (ci := 12) hk0 (by decide) (cob_12 _ _ _) rfl rfl hl.1 rfl (Nat.le_of_ble_eq_true rfl) dX12_hand_66) (fun H locs hH => ?_)
      exact r_iret C0 hH (pj1 h) (pj2 h) dX12_hand_69
    · replace h := if_f h c2
      by_cases c4 : v2 = 1
      · replace h := if_t h c4
        refine lv_tableIn (off := 33) (tgt := 70) hx hb dX12_hand_37 (by rw [c4]; decide) (by rw [c4]; decide) (by rw [c4]; rfl) (by decide) ?_
        refine lv_aload_n hx hb dX12_hand_70 rfl (lv_at hl 1 rfl) ?_
        refine gf_X12_19 C0 hH hk0 dX12_hand_71 ?_
        refine lv_aload_n hx hb dX12_hand_74 rfl (lv_at hl 1 rfl) ?_
        refine lv_iload_n hx hb dX12_hand_75 rfl (lv_at hl 2 rfl) ?_
        obtain ⟨r5, qr5, h⟩ := ob_s h
        refine go_i hH (va_run_V (As := [.int v1]) (rest := [.ref (ea E (k0 + 4))]) C0 hH lk_X12_243 (c_X12_pagesOf hAd k0 v1 hk0 σ qr5) (by decide) (ci := 12) hk0 (by decide) (cob_12 _ _ _) rfl rfl hl.1 rfl (Nat.le_of_ble_eq_true rfl) dX12_hand_76) (fun H locs hH => ?_)
        obtain ⟨r6, qr6, h⟩ := ob_s h
        refine go_i hH (va_run_S (As := [.ref (ea E (k0 + 4)), .int r5]) (rest := []) C0 hH lk_X12_208 (c_X12_spreadOf hAd (k0 + 4) r5 (kf_12_4 hk0) σ qr6) (by decide) rfl hl.1 rfl (Nat.le_of_ble_eq_true rfl) dX12_hand_79) (fun H locs hH => ?_)
        exact r_iret C0 hH (pj1 h) (pj2 h) dX12_hand_82
      · replace h := if_f h c4
        by_cases c7 : v2 = 2
        · replace h := if_t h c7
          refine lv_tableIn (off := 46) (tgt := 83) hx hb dX12_hand_37 (by rw [c7]; decide) (by rw [c7]; decide) (by rw [c7]; rfl) (by decide) ?_
          refine lv_aload_n hx hb dX12_hand_83 rfl (lv_at hl 1 rfl) ?_
          refine lv_aload_n hx hb dX12_hand_84 rfl (lv_at hl 1 rfl) ?_
          refine lv_iload_n hx hb dX12_hand_85 rfl (lv_at hl 2 rfl) ?_
          obtain ⟨r8, qr8, h⟩ := ob_s h
          refine go_i hH (va_run_V (As := [.int v1]) (rest := [.ref (ea E k0)]) C0 hH lk_X12_243 (c_X12_pagesOf hAd k0 v1 hk0 σ qr8) (by decide) (ci := 12) hk0 (by decide) (cob_12 _ _ _) rfl rfl hl.1 rfl (Nat.le_of_ble_eq_true rfl) dX12_hand_86) (fun H locs hH => ?_)
          obtain ⟨r9, qr9, h⟩ := ob_s h
          refine go_i hH (va_run_V (As := [.int r8]) (rest := []) C0 hH lk_X12_252 (c_X12_middleOf hAd k0 r8 hk0 σ qr9) (by decide) (ci := 12) hk0 (by decide) (cob_12 _ _ _) rfl rfl hl.1 rfl (Nat.le_of_ble_eq_true rfl) dX12_hand_89) (fun H locs hH => ?_)
          exact r_iret C0 hH (pj1 h) (pj2 h) dX12_hand_92
        · replace h := if_f h c7
          refine lv_tableOut (tgt := 93) hx hb dX12_hand_37 (by have := i32_nv (v := 0) c2 (by decide); have := i32_nv (v := 1) c4 (by decide); have := i32_nv (v := 2) c7 (by decide); omega) (by decide) ?_
          refine lv_ldc hx hb hown (hts _ qK_X12_85) dX12_hand_93 ?_
          exact r_iret C0 hH (pj1 h) (pj2 h) dX12_hand_95
  · replace h := if_t h c1
    refine lv_ldc hx hb hown (hts _ qK_X12_85) dX12_hand_33 ?_
    exact r_iret C0 hH (pj1 h) (pj2 h) dX12_hand_35
set_option maxRecDepth 100000 in
set_option maxHeartbeats 4000000 in
theorem w_X12_hand_b0 {r : Int32} {σ' : Mem} (C0 : Cx E p m c cX12_hand 4 s args RX12 meth (some .int))  (k0 : Nat) (v1 : Int32) (v2 : Int32) (hk0 : kd k0 = 12) {σ : Mem} {H : Heap} {locs : List Loc} {ls : Array Slot} (hH : Hs E s σ H locs) (hl : lv_has ls 4 [(0, .ref (ea E k0)), (1, .int v1), (2, .int v2)]) (h : X12_hand_b0 k0 v1 v2 σ = some (r, σ')) : W p l e (rmD 6) s m args below meth c H locs 0 0 (MQ below (QiM E r σ') args s 0 0 (eA E)) (F0 m 0 ls []) := by
  obtain ⟨⟨hx, hb, hml, hown, hts⟩, hr, hlocks, hF, hAd⟩ := id C0
  unfold X12_hand_b0 at h
  refine lv_aload_n hx hb dX12_hand_0 rfl (lv_at hl 0 rfl) ?_
  obtain ⟨r1, qr1, h⟩ := ob_s h
  refine go_i hH (va_run_V (As := []) (rest := []) C0 hH lk_X12_159 (c_X12_isThere hAd k0 hk0 σ qr1) (by decide) (ci := 12) hk0 (by decide) (cob_12 _ _ _) rfl rfl hl.1 rfl (Nat.le_of_ble_eq_true rfl) dX12_hand_1) (fun H locs hH => ?_)
  refine lv_if_eq (tgt := 18) hx hb dX12_hand_4 (by decide) (fun c2 => ?_) (fun c2 => ?_)
  · replace h := if_t h c2
    refine lv_iconst (v := 0) hx hb dX12_hand_18 (by decide) ?_
    exact w_X12_hand_b19 C0  k0 v1 v2 0 hk0 hH (lv_sub hl [0, 1, 2] rfl) h
  · replace h := if_f h c2
    refine lv_aload_n hx hb dX12_hand_7 rfl (lv_at hl 0 rfl) ?_
    refine lv_aload_n hx hb dX12_hand_8 rfl (lv_at hl 0 rfl) ?_
    refine gf_X12_19 C0 hH hk0 dX12_hand_9 ?_
    obtain ⟨r3, σ4, qr3, h⟩ := ob2_s h
    refine go_i hH (va_run_V (As := [.ref (ea E (k0 + 4))]) (rest := []) C0 hH lk_X12_249 (c_X12_layHands hAd k0 (k0 + 4) hk0 (kf_12_4 hk0) σ qr3) (by decide) (ci := 12) hk0 (by decide) (cob_12 _ _ _) rfl rfl hl.1 rfl (Nat.le_of_ble_eq_true rfl) dX12_hand_12) (fun H locs hH => ?_)
    refine lv_goto (tgt := 19) hx hb dX12_hand_15 (by decide) ?_
    exact w_X12_hand_b19 C0  k0 v1 v2 r3 hk0 hH (lv_sub hl [0, 1, 2] rfl) h
theorem c_X12_hand {l : Launch} {E : EnvT} (hAd : Ad E) (k0 : Nat) (v1 : Int32) (v2 : Int32) (hk0 : kd k0 = 12) (σ : Mem) {r : Int32} {σ' : Mem} (h : X12_hand k0 v1 v2 σ = some (r, σ')) : Met l yX12_hand (wsM yX12_hand cX12_hand 4 (some .int)) (rmD 6) (PcM E [.ref (ea E k0), .int v1, .int v2] σ) (QiM E r σ') 0 0 (eA E) :=
  Met.ofM (by decide) (Nat.le_of_ble_eq_true rfl) (fun p e s m below meth c ls C0 hH hl => w_X12_hand_b0 C0 k0 v1 v2 hk0 hH hl h) hAd
set_option maxRecDepth 100000 in
set_option maxHeartbeats 4000000 in
theorem w_X12_cutsAt_b0 {r : Int32} (C0 : Cx E p m c cX12_cutsAt 3 s args RX12 meth (some .boolean))  (v0 : Int32) (v1 : Int32) (v2 : Int32)  {σ : Mem} {H : Heap} {locs : List Loc} {ls : Array Slot} (hH : Hs E s σ H locs) (hl : lv_has ls 3 [(0, .int v0), (1, .int v1), (2, .int v2)]) (h : X12_cutsAt_b0 v0 v1 v2 = r) : W p l e (rmD 1) s m args below meth c H locs 0 0 (MQ below (QiM E r σ) args s 0 0 (eA E)) (F0 m 0 ls []) := by
  obtain ⟨⟨hx, hb, hml, hown, hts⟩, hr, hlocks, hF, hAd⟩ := id C0
  unfold X12_cutsAt_b0 at h
  refine lv_iload_n hx hb dX12_cutsAt_0 rfl (lv_at hl 0 rfl) ?_
  refine lv_iload_n hx hb dX12_cutsAt_1 rfl (lv_at hl 2 rfl) ?_
  refine lv_iconst (v := 1) hx hb dX12_cutsAt_2 (by decide) ?_
  refine lv_isub hx hb dX12_cutsAt_3 ?_
  refine lv_iload_n hx hb dX12_cutsAt_4 rfl (lv_at hl 1 rfl) ?_
  refine lv_isub hx hb dX12_cutsAt_5 ?_
  refine go_i hH (va_run_S (As := [.int v0, .int ((v2 - 1) - v1)]) (rest := []) C0 hH lk_X12_90 (c_X12_has hAd v0 ((v2 - 1) - v1)  σ rfl) (by decide) rfl hl.1 rfl (Nat.le_of_ble_eq_true rfl) dX12_cutsAt_6) (fun H locs hH => ?_)
  exact r_zret C0 (bit_nar (z_X12_has _ _)) hH h rfl dX12_cutsAt_9
theorem c_X12_cutsAt {l : Launch} {E : EnvT} (hAd : Ad E) (v0 : Int32) (v1 : Int32) (v2 : Int32)  (σ : Mem) {r : Int32} (h : X12_cutsAt v0 v1 v2 = r) : Met l yX12_cutsAt (wsM yX12_cutsAt cX12_cutsAt 3 (some .boolean)) (rmD 1) (PcM E [.int v0, .int v1, .int v2] σ) (QiM E r σ) 0 0 (eA E) :=
  Met.ofM (by decide) (Nat.le_of_ble_eq_true rfl) (fun p e s m below meth c ls C0 hH hl => w_X12_cutsAt_b0 C0 v0 v1 v2  hH hl h) hAd
set_option maxRecDepth 100000 in
set_option maxHeartbeats 4000000 in
theorem w_X12_weightOf_b44 {r : Int32} (C0 : Cx E p m c cX12_weightOf 6 s args RX12 meth (some .int)) (K12 : Nat → Int32 → Int32 → Int32 → Int32 → Int32 → Mem → Option Int32) (hK12 : ∀ (k0 : Nat) (v1 : Int32) (v2 : Int32) (v3 : Int32) (v4 : Int32) (v5 : Int32) (hk0 : kd k0 = 143) (σ : Mem) (H : Heap) (locs : List Loc) (ls : Array Slot), Hs E s σ H locs → lv_has ls 6 [(0, .ref (ea E k0)), (1, .int v1), (2, .int v2), (3, .int v3), (4, .int v4), (5, .int v5)] → K12 k0 v1 v2 v3 v4 v5 σ = some r → W p l e (rmD 3) s m args below meth c H locs 0 0 (MQ below (QiM E r σ) args s 0 0 (eA E)) (F0 m 12 ls []))  (k0 : Nat) (v1 : Int32) (v2 : Int32) (v3 : Int32) (v4 : Int32) (v5 : Int32) (hk0 : kd k0 = 143) {σ : Mem} {H : Heap} {locs : List Loc} {ls : Array Slot} (hH : Hs E s σ H locs) (hl : lv_has ls 6 [(0, .ref (ea E k0)), (1, .int v1), (2, .int v2), (3, .int v3), (4, .int v4), (5, .int v5)]) (h : X12_weightOf_b44 K12 k0 v1 v2 v3 v4 v5 σ = some r) : W p l e (rmD 3) s m args below meth c H locs 0 0 (MQ below (QiM E r σ) args s 0 0 (eA E)) (F0 m 44 ls []) := by
  obtain ⟨⟨hx, hb, hml, hown, hts⟩, hr, hlocks, hF, hAd⟩ := id C0
  unfold X12_weightOf_b44 at h
  refine lv_iload hx hb dX12_weightOf_44 (lv_at hl 4 rfl) ?_
  refine lv_iconst (v := 1) hx hb dX12_weightOf_46 (by decide) ?_
  refine lv_iload hx hb dX12_weightOf_47 (lv_at hl 5 rfl) ?_
  refine lv_ishl hx hb dX12_weightOf_49 ?_
  refine lv_ior hx hb dX12_weightOf_50 ?_
  obtain ⟨x1, ex1, h⟩ := letv_s h
  refine topi_of ex1 ?_
  refine lv_istore (lv' := [(4, .int x1), (0, .ref (ea E k0)), (1, .int v1), (2, .int v2), (3, .int v3), (5, .int v5)]) hx hb dX12_weightOf_51 hl (by decide) rfl (fun ls hl => ?_)
  refine lv_iinc (v := v5 + 1) (lv' := [(5, .int (v5 + 1)), (4, .int x1), (0, .ref (ea E k0)), (1, .int v1), (2, .int v2), (3, .int v3)]) hx hb dX12_weightOf_53 hl (k := 5) rfl rfl (by decide) rfl (fun ls hl => ?_)
  refine lv_goto (tgt := 12) hx hb dX12_weightOf_56 (by decide) ?_
  exact hK12 k0 v1 v2 v3 x1 (v5 + 1) hk0 _ _ _ _ hH (lv_sub hl [2, 3, 4, 5, 1, 0] rfl) h
set_option maxRecDepth 100000 in
set_option maxHeartbeats 4000000 in
theorem w_X12_weightOf_b12 {r : Int32} (C0 : Cx E p m c cX12_weightOf 6 s args RX12 meth (some .int)) (K12 : Nat → Int32 → Int32 → Int32 → Int32 → Int32 → Mem → Option Int32) (hK12 : ∀ (k0 : Nat) (v1 : Int32) (v2 : Int32) (v3 : Int32) (v4 : Int32) (v5 : Int32) (hk0 : kd k0 = 143) (σ : Mem) (H : Heap) (locs : List Loc) (ls : Array Slot), Hs E s σ H locs → lv_has ls 6 [(0, .ref (ea E k0)), (1, .int v1), (2, .int v2), (3, .int v3), (4, .int v4), (5, .int v5)] → K12 k0 v1 v2 v3 v4 v5 σ = some r → W p l e (rmD 3) s m args below meth c H locs 0 0 (MQ below (QiM E r σ) args s 0 0 (eA E)) (F0 m 12 ls []))  (k0 : Nat) (v1 : Int32) (v2 : Int32) (v3 : Int32) (v4 : Int32) (v5 : Int32) (hk0 : kd k0 = 143) {σ : Mem} {H : Heap} {locs : List Loc} {ls : Array Slot} (hH : Hs E s σ H locs) (hl : lv_has ls 6 [(0, .ref (ea E k0)), (1, .int v1), (2, .int v2), (3, .int v3), (4, .int v4), (5, .int v5)]) (h : X12_weightOf_b12 K12 k0 v1 v2 v3 v4 v5 σ = some r) : W p l e (rmD 3) s m args below meth c H locs 0 0 (MQ below (QiM E r σ) args s 0 0 (eA E)) (F0 m 12 ls []) := by
  obtain ⟨⟨hx, hb, hml, hown, hts⟩, hr, hlocks, hF, hAd⟩ := id C0
  unfold X12_weightOf_b12 at h
  refine lv_iload hx hb dX12_weightOf_12 (lv_at hl 5 rfl) ?_
  refine lv_iload_n hx hb dX12_weightOf_14 rfl (lv_at hl 2 rfl) ?_
  refine lv_icmp_ge (tgt := 59) hx hb dX12_weightOf_15 (by decide) (fun c1 => ?_) (fun c1 => ?_)
  · replace h := if_t h c1
    refine lv_iload_n hx hb dX12_weightOf_59 rfl (lv_at hl 3 rfl) ?_
    refine lv_aload_n hx hb dX12_weightOf_60 rfl (lv_at hl 0 rfl) ?_
    refine lv_iload hx hb dX12_weightOf_61 (lv_at hl 4 rfl) ?_
    obtain ⟨r2, qr2, h⟩ := ob_s h
    refine go_i hH (va_run_S (As := [.ref (ea E k0), .int v4]) (rest := [.int v3]) C0 hH lk_X12_208 (c_X12_spreadOf hAd k0 v4 hk0 σ qr2) (by decide) rfl hl.1 rfl (Nat.le_of_ble_eq_true rfl) dX12_weightOf_63) (fun H locs hH => ?_)
    refine lv_iadd hx hb dX12_weightOf_66 ?_
    exact r_iret C0 hH (Option.some.inj h) rfl dX12_weightOf_67
  · replace h := if_f h c1
    refine lv_iload_n hx hb dX12_weightOf_18 rfl (lv_at hl 1 rfl) ?_
    refine lv_iload hx hb dX12_weightOf_19 (lv_at hl 5 rfl) ?_
    refine lv_iload_n hx hb dX12_weightOf_21 rfl (lv_at hl 2 rfl) ?_
    refine go_i hH (va_run_S (As := [.int v1, .int v5, .int v2]) (rest := []) C0 hH lk_X12_255 (c_X12_cutsAt hAd v1 v5 v2  σ rfl) (by decide) rfl hl.1 rfl (Nat.le_of_ble_eq_true rfl) dX12_weightOf_22) (fun H locs hH => ?_)
    refine lv_if_eq (tgt := 44) hx hb dX12_weightOf_25 (by decide) (fun c3 => ?_) (fun c3 => ?_)
    · replace h := if_t h c3
      exact w_X12_weightOf_b44 C0 K12 hK12 k0 v1 v2 v3 v4 v5 hk0 hH (lv_sub hl [0, 1, 2, 3, 4, 5] rfl) h
    · replace h := if_f h c3
      refine lv_iload_n hx hb dX12_weightOf_28 rfl (lv_at hl 3 rfl) ?_
      refine lv_aload_n hx hb dX12_weightOf_29 rfl (lv_at hl 0 rfl) ?_
      refine lv_iload hx hb dX12_weightOf_30 (lv_at hl 4 rfl) ?_
      obtain ⟨r4, qr4, h⟩ := ob_s h
      refine go_i hH (va_run_S (As := [.ref (ea E k0), .int v4]) (rest := [.int v3]) C0 hH lk_X12_208 (c_X12_spreadOf hAd k0 v4 hk0 σ qr4) (by decide) rfl hl.1 rfl (Nat.le_of_ble_eq_true rfl) dX12_weightOf_32) (fun H locs hH => ?_)
      refine lv_aload_n hx hb dX12_weightOf_35 rfl (lv_at hl 0 rfl) ?_
      refine lv_iconst (v := 2) hx hb dX12_weightOf_36 (by decide) ?_
      refine r_iald C0 hH (n := 43) hk0 (vin (by decide)) dX12_weightOf_37 ?_
      refine lv_iadd hx hb dX12_weightOf_38 ?_
      refine lv_iadd hx hb dX12_weightOf_39 ?_
      obtain ⟨x5, ex5, h⟩ := letv_s h
      refine topi_of ex5 ?_
      refine lv_istore_n (lv' := [(3, .int x5), (0, .ref (ea E k0)), (1, .int v1), (2, .int v2), (4, .int v4), (5, .int v5)]) hx hb dX12_weightOf_40 rfl hl (by decide) rfl (fun ls hl => ?_)
      refine lv_iconst (v := 0) hx hb dX12_weightOf_41 (by decide) ?_
      refine lv_istore (lv' := [(4, .int 0), (3, .int x5), (0, .ref (ea E k0)), (1, .int v1), (2, .int v2), (5, .int v5)]) hx hb dX12_weightOf_42 hl (by decide) rfl (fun ls hl => ?_)
      exact w_X12_weightOf_b44 C0 K12 hK12 k0 v1 v2 x5 0 v5 hk0 hH (lv_sub hl [2, 3, 4, 1, 0, 5] rfl) h
set_option maxRecDepth 100000 in
set_option maxHeartbeats 4000000 in
theorem w_X12_weightOf_l12 {r : Int32} (C0 : Cx E p m c cX12_weightOf 6 s args RX12 meth (some .int))  (n : Nat) : ∀ (k0 : Nat) (v1 : Int32) (v2 : Int32) (v3 : Int32) (v4 : Int32) (v5 : Int32) (hk0 : kd k0 = 143) (σ : Mem) (H : Heap) (locs : List Loc) (ls : Array Slot), Hs E s σ H locs → lv_has ls 6 [(0, .ref (ea E k0)), (1, .int v1), (2, .int v2), (3, .int v3), (4, .int v4), (5, .int v5)] → X12_weightOf_l12 n k0 v1 v2 v3 v4 v5 σ = some r → W p l e (rmD 3) s m args below meth c H locs 0 0 (MQ below (QiM E r σ) args s 0 0 (eA E)) (F0 m 12 ls []) := by
  induction n with
  | zero =>
    intro k0 v1 v2 v3 v4 v5 hk0 σ H locs ls hH hl h
    cases h
  | succ n ih =>
    intro k0 v1 v2 v3 v4 v5 hk0 σ H locs ls hH hl h
    exact w_X12_weightOf_b12 C0 (X12_weightOf_l12 n)  ih k0 v1 v2 v3 v4 v5 hk0 hH hl h
set_option maxRecDepth 100000 in
set_option maxHeartbeats 4000000 in
theorem w_X12_weightOf_b0 {r : Int32} (C0 : Cx E p m c cX12_weightOf 6 s args RX12 meth (some .int))  (k0 : Nat) (v1 : Int32) (hk0 : kd k0 = 143) {σ : Mem} {H : Heap} {locs : List Loc} {ls : Array Slot} (hH : Hs E s σ H locs) (hl : lv_has ls 6 [(0, .ref (ea E k0)), (1, .int v1)]) (h : X12_weightOf_b0 k0 v1 σ = some r) : W p l e (rmD 3) s m args below meth c H locs 0 0 (MQ below (QiM E r σ) args s 0 0 (eA E)) (F0 m 0 ls []) := by
  obtain ⟨⟨hx, hb, hml, hown, hts⟩, hr, hlocks, hF, hAd⟩ := id C0
  unfold X12_weightOf_b0 at h
  refine lv_aload_n hx hb dX12_weightOf_0 rfl (lv_at hl 0 rfl) ?_
  refine lv_iconst (v := 0) hx hb dX12_weightOf_1 (by decide) ?_
  refine r_iald C0 hH (n := 43) hk0 (vin (by decide)) dX12_weightOf_2 ?_
  obtain ⟨x1, ex1, h⟩ := letv_s h
  refine topi_of ex1 ?_
  refine lv_istore_n (lv' := [(2, .int x1), (0, .ref (ea E k0)), (1, .int v1)]) hx hb dX12_weightOf_3 rfl hl (by decide) rfl (fun ls hl => ?_)
  refine lv_iconst (v := 0) hx hb dX12_weightOf_4 (by decide) ?_
  refine lv_istore_n (lv' := [(3, .int 0), (2, .int x1), (0, .ref (ea E k0)), (1, .int v1)]) hx hb dX12_weightOf_5 rfl hl (by decide) rfl (fun ls hl => ?_)
  refine lv_iconst (v := 1) hx hb dX12_weightOf_6 (by decide) ?_
  refine lv_istore (lv' := [(4, .int 1), (3, .int 0), (2, .int x1), (0, .ref (ea E k0)), (1, .int v1)]) hx hb dX12_weightOf_7 hl (by decide) rfl (fun ls hl => ?_)
  refine lv_iconst (v := 1) hx hb dX12_weightOf_9 (by decide) ?_
  refine lv_istore (lv' := [(5, .int 1), (4, .int 1), (3, .int 0), (2, .int x1), (0, .ref (ea E k0)), (1, .int v1)]) hx hb dX12_weightOf_10 hl (by decide) rfl (fun ls hl => ?_)
  exact w_X12_weightOf_l12 C0  FU k0 v1 x1 0 1 1 hk0 _ _ _ _ hH (lv_sub hl [4, 5, 3, 2, 1, 0] rfl) h
theorem c_X12_weightOf {l : Launch} {E : EnvT} (hAd : Ad E) (k0 : Nat) (v1 : Int32) (hk0 : kd k0 = 143) (σ : Mem) {r : Int32} (h : X12_weightOf k0 v1 σ = some r) : Met l yX12_weightOf (wsM yX12_weightOf cX12_weightOf 6 (some .int)) (rmD 3) (PcM E [.ref (ea E k0), .int v1] σ) (QiM E r σ) 0 0 (eA E) :=
  Met.ofM (by decide) (Nat.le_of_ble_eq_true rfl) (fun p e s m below meth c ls C0 hH hl => w_X12_weightOf_b0 C0 k0 v1 hk0 hH hl h) hAd
set_option maxRecDepth 100000 in
set_option maxHeartbeats 4000000 in
theorem w_X12_layRuns_b125 {r : Int32} {σ' : Mem} (C0 : Cx E p m c cX12_layRuns 6 s args RX12 meth (some .int)) (K97 : Nat → Int32 → Int32 → Int32 → Int32 → Mem → Option (Int32 × Mem)) (hK97 : ∀ (k0 : Nat) (v1 : Int32) (v2 : Int32) (v4 : Int32) (v5 : Int32) (hk0 : kd k0 = 12) (σ : Mem) (H : Heap) (locs : List Loc) (ls : Array Slot), Hs E s σ H locs → lv_has ls 6 [(0, .ref (ea E k0)), (1, .int v1), (2, .int v2), (4, .int v4), (5, .int v5)] → K97 k0 v1 v2 v4 v5 σ = some (r, σ') → W p l e (rmD 4) s m args below meth c H locs 0 0 (MQ below (QiM E r σ') args s 0 0 (eA E)) (F0 m 97 ls []))  (k0 : Nat) (v1 : Int32) (v2 : Int32) (v4 : Int32) (v5 : Int32) (hk0 : kd k0 = 12) {σ : Mem} {H : Heap} {locs : List Loc} {ls : Array Slot} (hH : Hs E s σ H locs) (hl : lv_has ls 6 [(0, .ref (ea E k0)), (1, .int v1), (2, .int v2), (4, .int v4), (5, .int v5)]) (h : X12_layRuns_b125 K97 k0 v1 v2 v4 v5 σ = some (r, σ')) : W p l e (rmD 4) s m args below meth c H locs 0 0 (MQ below (QiM E r σ') args s 0 0 (eA E)) (F0 m 125 ls []) := by
  obtain ⟨⟨hx, hb, hml, hown, hts⟩, hr, hlocks, hF, hAd⟩ := id C0
  unfold X12_layRuns_b125 at h
  refine lv_iinc (v := v5 + 1) (lv' := [(5, .int (v5 + 1)), (0, .ref (ea E k0)), (1, .int v1), (2, .int v2), (4, .int v4)]) hx hb dX12_layRuns_125 hl (k := 4) rfl rfl (by decide) rfl (fun ls hl => ?_)
  refine lv_goto (tgt := 97) hx hb dX12_layRuns_128 (by decide) ?_
  exact hK97 k0 v1 v2 v4 (v5 + 1) hk0 _ _ _ _ hH (lv_sub hl [1, 2, 3, 4, 0] rfl) h
set_option maxRecDepth 100000 in
set_option maxHeartbeats 4000000 in
theorem w_X12_layRuns_b97 {r : Int32} {σ' : Mem} (C0 : Cx E p m c cX12_layRuns 6 s args RX12 meth (some .int)) (K97 : Nat → Int32 → Int32 → Int32 → Int32 → Mem → Option (Int32 × Mem)) (hK97 : ∀ (k0 : Nat) (v1 : Int32) (v2 : Int32) (v4 : Int32) (v5 : Int32) (hk0 : kd k0 = 12) (σ : Mem) (H : Heap) (locs : List Loc) (ls : Array Slot), Hs E s σ H locs → lv_has ls 6 [(0, .ref (ea E k0)), (1, .int v1), (2, .int v2), (4, .int v4), (5, .int v5)] → K97 k0 v1 v2 v4 v5 σ = some (r, σ') → W p l e (rmD 4) s m args below meth c H locs 0 0 (MQ below (QiM E r σ') args s 0 0 (eA E)) (F0 m 97 ls []))  (k0 : Nat) (v1 : Int32) (v2 : Int32) (v4 : Int32) (v5 : Int32) (hk0 : kd k0 = 12) {σ : Mem} {H : Heap} {locs : List Loc} {ls : Array Slot} (hH : Hs E s σ H locs) (hl : lv_has ls 6 [(0, .ref (ea E k0)), (1, .int v1), (2, .int v2), (4, .int v4), (5, .int v5)]) (h : X12_layRuns_b97 K97 k0 v1 v2 v4 v5 σ = some (r, σ')) : W p l e (rmD 4) s m args below meth c H locs 0 0 (MQ below (QiM E r σ') args s 0 0 (eA E)) (F0 m 97 ls []) := by
  obtain ⟨⟨hx, hb, hml, hown, hts⟩, hr, hlocks, hF, hAd⟩ := id C0
  unfold X12_layRuns_b97 at h
  refine lv_iload hx hb dX12_layRuns_97 (lv_at hl 4 rfl) ?_
  refine lv_iload_n hx hb dX12_layRuns_99 rfl (lv_at hl 1 rfl) ?_
  refine lv_icmp_ge (tgt := 131) hx hb dX12_layRuns_100 (by decide) (fun c1 => ?_) (fun c1 => ?_)
  · replace h := if_t h c1
    refine lv_aload_n hx hb dX12_layRuns_131 rfl (lv_at hl 0 rfl) ?_
    refine gf_X12_52 C0 hH hk0 dX12_layRuns_132 ?_
    refine lv_iload hx hb dX12_layRuns_135 (lv_at hl 3 rfl) ?_
    refine lv_iload_n hx hb dX12_layRuns_137 rfl (lv_at hl 1 rfl) ?_
    obtain ⟨b2, h⟩ := gdx_s h
    refine r_iast C0 hH (n := 11) (kf_12_24 hk0) b2 dX12_layRuns_138 (fun H locs hH => ?_)
    refine lv_iload hx hb dX12_layRuns_139 (lv_at hl 3 rfl) ?_
    exact r_iret C0 hH (pj1 h) (pj2 h) dX12_layRuns_141
  · replace h := if_f h c1
    refine lv_iload_n hx hb dX12_layRuns_103 rfl (lv_at hl 2 rfl) ?_
    refine lv_iload hx hb dX12_layRuns_104 (lv_at hl 4 rfl) ?_
    refine lv_iload_n hx hb dX12_layRuns_106 rfl (lv_at hl 1 rfl) ?_
    refine go_i hH (va_run_S (As := [.int v2, .int v5, .int v1]) (rest := []) C0 hH lk_X12_255 (c_X12_cutsAt hAd v2 v5 v1  σ rfl) (by decide) rfl hl.1 rfl (Nat.le_of_ble_eq_true rfl) dX12_layRuns_107) (fun H locs hH => ?_)
    refine lv_if_eq (tgt := 125) hx hb dX12_layRuns_110 (by decide) (fun c3 => ?_) (fun c3 => ?_)
    · replace h := if_t h c3
      exact w_X12_layRuns_b125 C0 K97 hK97 k0 v1 v2 v4 v5 hk0 hH (lv_sub hl [0, 1, 2, 3, 4] rfl) h
    · replace h := if_f h c3
      refine lv_aload_n hx hb dX12_layRuns_113 rfl (lv_at hl 0 rfl) ?_
      refine gf_X12_52 C0 hH hk0 dX12_layRuns_114 ?_
      refine lv_iload hx hb dX12_layRuns_117 (lv_at hl 3 rfl) ?_
      refine lv_iload hx hb dX12_layRuns_119 (lv_at hl 4 rfl) ?_
      obtain ⟨b4, h⟩ := gdx_s h
      refine r_iast C0 hH (n := 11) (kf_12_24 hk0) b4 dX12_layRuns_121 (fun H locs hH => ?_)
      refine lv_iinc (v := v4 + 1) (lv' := [(4, .int (v4 + 1)), (0, .ref (ea E k0)), (1, .int v1), (2, .int v2), (5, .int v5)]) hx hb dX12_layRuns_122 hl (k := 3) rfl rfl (by decide) rfl (fun ls hl => ?_)
      exact w_X12_layRuns_b125 C0 K97 hK97 k0 v1 v2 (v4 + 1) v5 hk0 hH (lv_sub hl [1, 2, 3, 0, 4] rfl) h
set_option maxRecDepth 100000 in
set_option maxHeartbeats 4000000 in
theorem w_X12_layRuns_l97 {r : Int32} {σ' : Mem} (C0 : Cx E p m c cX12_layRuns 6 s args RX12 meth (some .int))  (n : Nat) : ∀ (k0 : Nat) (v1 : Int32) (v2 : Int32) (v4 : Int32) (v5 : Int32) (hk0 : kd k0 = 12) (σ : Mem) (H : Heap) (locs : List Loc) (ls : Array Slot), Hs E s σ H locs → lv_has ls 6 [(0, .ref (ea E k0)), (1, .int v1), (2, .int v2), (4, .int v4), (5, .int v5)] → X12_layRuns_l97 n k0 v1 v2 v4 v5 σ = some (r, σ') → W p l e (rmD 4) s m args below meth c H locs 0 0 (MQ below (QiM E r σ') args s 0 0 (eA E)) (F0 m 97 ls []) := by
  induction n with
  | zero =>
    intro k0 v1 v2 v4 v5 hk0 σ H locs ls hH hl h
    cases h
  | succ n ih =>
    intro k0 v1 v2 v4 v5 hk0 σ H locs ls hH hl h
    exact w_X12_layRuns_b97 C0 (X12_layRuns_l97 n)  ih k0 v1 v2 v4 v5 hk0 hH hl h
set_option maxRecDepth 100000 in
set_option maxHeartbeats 4000000 in
theorem w_X12_layRuns_b73 {r : Int32} {σ' : Mem} (C0 : Cx E p m c cX12_layRuns 6 s args RX12 meth (some .int)) (K21 : Nat → Int32 → Int32 → Int32 → Int32 → Mem → Option (Int32 × Mem)) (hK21 : ∀ (k0 : Nat) (v1 : Int32) (v2 : Int32) (v3 : Int32) (v4 : Int32) (hk0 : kd k0 = 12) (σ : Mem) (H : Heap) (locs : List Loc) (ls : Array Slot), Hs E s σ H locs → lv_has ls 6 [(0, .ref (ea E k0)), (1, .int v1), (2, .int v2), (3, .int v3), (4, .int v4)] → K21 k0 v1 v2 v3 v4 σ = some (r, σ') → W p l e (rmD 4) s m args below meth c H locs 0 0 (MQ below (QiM E r σ') args s 0 0 (eA E)) (F0 m 21 ls []))  (k0 : Nat) (v1 : Int32) (v2 : Int32) (v3 : Int32) (v4 : Int32) (hk0 : kd k0 = 12) {σ : Mem} {H : Heap} {locs : List Loc} {ls : Array Slot} (hH : Hs E s σ H locs) (hl : lv_has ls 6 [(0, .ref (ea E k0)), (1, .int v1), (2, .int v2), (3, .int v3), (4, .int v4)]) (h : X12_layRuns_b73 K21 k0 v1 v2 v3 v4 σ = some (r, σ')) : W p l e (rmD 4) s m args below meth c H locs 0 0 (MQ below (QiM E r σ') args s 0 0 (eA E)) (F0 m 73 ls []) := by
  obtain ⟨⟨hx, hb, hml, hown, hts⟩, hr, hlocks, hF, hAd⟩ := id C0
  unfold X12_layRuns_b73 at h
  refine lv_iinc (v := v4 + (-1)) (lv' := [(4, .int (v4 + (-1))), (0, .ref (ea E k0)), (1, .int v1), (2, .int v2), (3, .int v3)]) hx hb dX12_layRuns_73 hl (k := 4) rfl rfl (by decide) rfl (fun ls hl => ?_)
  refine lv_goto (tgt := 21) hx hb dX12_layRuns_76 (by decide) ?_
  exact hK21 k0 v1 v2 v3 (v4 + (-1)) hk0 _ _ _ _ hH (lv_sub hl [1, 2, 3, 4, 0] rfl) h
set_option maxRecDepth 100000 in
set_option maxHeartbeats 4000000 in
theorem w_X12_layRuns_b67 {r : Int32} {σ' : Mem} (C0 : Cx E p m c cX12_layRuns 6 s args RX12 meth (some .int)) (K21 : Nat → Int32 → Int32 → Int32 → Int32 → Mem → Option (Int32 × Mem)) (hK21 : ∀ (k0 : Nat) (v1 : Int32) (v2 : Int32) (v3 : Int32) (v4 : Int32) (hk0 : kd k0 = 12) (σ : Mem) (H : Heap) (locs : List Loc) (ls : Array Slot), Hs E s σ H locs → lv_has ls 6 [(0, .ref (ea E k0)), (1, .int v1), (2, .int v2), (3, .int v3), (4, .int v4)] → K21 k0 v1 v2 v3 v4 σ = some (r, σ') → W p l e (rmD 4) s m args below meth c H locs 0 0 (MQ below (QiM E r σ') args s 0 0 (eA E)) (F0 m 21 ls []))  (k0 : Nat) (v1 : Int32) (v4 : Int32) (v5 : Int32) (hk0 : kd k0 = 12) {σ : Mem} {H : Heap} {locs : List Loc} {ls : Array Slot} (hH : Hs E s σ H locs) (hl : lv_has ls 6 [(0, .ref (ea E k0)), (1, .int v1), (4, .int v4), (5, .int v5)]) (h : X12_layRuns_b67 K21 k0 v1 v4 v5 σ = some (r, σ')) : W p l e (rmD 4) s m args below meth c H locs 0 0 (MQ below (QiM E r σ') args s 0 0 (eA E)) (F0 m 67 ls []) := by
  obtain ⟨⟨hx, hb, hml, hown, hts⟩, hr, hlocks, hF, hAd⟩ := id C0
  unfold X12_layRuns_b67 at h
  refine lv_iload hx hb dX12_layRuns_67 (lv_at hl 3 rfl) ?_
  refine lv_istore_n (lv' := [(3, .int v5), (0, .ref (ea E k0)), (1, .int v1), (4, .int v4), (5, .int v5)]) hx hb dX12_layRuns_69 rfl hl (by decide) rfl (fun ls hl => ?_)
  refine lv_iload hx hb dX12_layRuns_70 (lv_at hl 3 rfl) ?_
  refine lv_istore_n (lv' := [(2, .int v4), (3, .int v5), (0, .ref (ea E k0)), (1, .int v1), (4, .int v4), (5, .int v5)]) hx hb dX12_layRuns_72 rfl hl (by decide) rfl (fun ls hl => ?_)
  exact w_X12_layRuns_b73 C0 K21 hK21 k0 v1 v4 v5 v4 hk0 hH (lv_sub hl [2, 3, 0, 1, 4] rfl) h
set_option maxRecDepth 100000 in
set_option maxHeartbeats 4000000 in
theorem w_X12_layRuns_b21 {r : Int32} {σ' : Mem} (C0 : Cx E p m c cX12_layRuns 6 s args RX12 meth (some .int)) (K21 : Nat → Int32 → Int32 → Int32 → Int32 → Mem → Option (Int32 × Mem)) (hK21 : ∀ (k0 : Nat) (v1 : Int32) (v2 : Int32) (v3 : Int32) (v4 : Int32) (hk0 : kd k0 = 12) (σ : Mem) (H : Heap) (locs : List Loc) (ls : Array Slot), Hs E s σ H locs → lv_has ls 6 [(0, .ref (ea E k0)), (1, .int v1), (2, .int v2), (3, .int v3), (4, .int v4)] → K21 k0 v1 v2 v3 v4 σ = some (r, σ') → W p l e (rmD 4) s m args below meth c H locs 0 0 (MQ below (QiM E r σ') args s 0 0 (eA E)) (F0 m 21 ls []))  (k0 : Nat) (v1 : Int32) (v2 : Int32) (v3 : Int32) (v4 : Int32) (hk0 : kd k0 = 12) {σ : Mem} {H : Heap} {locs : List Loc} {ls : Array Slot} (hH : Hs E s σ H locs) (hl : lv_has ls 6 [(0, .ref (ea E k0)), (1, .int v1), (2, .int v2), (3, .int v3), (4, .int v4)]) (h : X12_layRuns_b21 K21 k0 v1 v2 v3 v4 σ = some (r, σ')) : W p l e (rmD 4) s m args below meth c H locs 0 0 (MQ below (QiM E r σ') args s 0 0 (eA E)) (F0 m 21 ls []) := by
  obtain ⟨⟨hx, hb, hml, hown, hts⟩, hr, hlocks, hF, hAd⟩ := id C0
  unfold X12_layRuns_b21 at h
  refine lv_iload hx hb dX12_layRuns_21 (lv_at hl 4 rfl) ?_
  refine lv_if_lt (tgt := 79) hx hb dX12_layRuns_23 (by decide) (fun c1 => ?_) (fun c1 => ?_)
  · replace h := if_t h c1
    refine lv_aload_n hx hb dX12_layRuns_79 rfl (lv_at hl 0 rfl) ?_
    refine lv_iload_n hx hb dX12_layRuns_80 rfl (lv_at hl 3 rfl) ?_
    refine pf_X12_265 C0 hH hk0 dX12_layRuns_81 (fun H locs hH => ?_)
    refine lv_iconst (v := 1) hx hb dX12_layRuns_84 (by decide) ?_
    refine lv_istore (lv' := [(4, .int 1), (0, .ref (ea E k0)), (1, .int v1), (2, .int v2), (3, .int v3)]) hx hb dX12_layRuns_85 hl (by decide) rfl (fun ls hl => ?_)
    refine lv_aload_n hx hb dX12_layRuns_87 rfl (lv_at hl 1 rfl) ?_
    refine gf_X12_52 C0 hH hk0 dX12_layRuns_88 ?_
    refine lv_iconst (v := 0) hx hb dX12_layRuns_91 (by decide) ?_
    refine lv_iconst (v := 0) hx hb dX12_layRuns_92 (by decide) ?_
    obtain ⟨σ2, eσ2, h⟩ := letv_s h
    replace hH := hs_of eσ2 hH
    refine r_iast C0 hH (n := 11) (kf_12_24 hk0) (vin (by decide)) dX12_layRuns_93 (fun H locs hH => ?_)
    refine lv_iconst (v := 1) hx hb dX12_layRuns_94 (by decide) ?_
    refine lv_istore (lv' := [(5, .int 1), (4, .int 1), (0, .ref (ea E k0)), (1, .int v1), (2, .int v2), (3, .int v3)]) hx hb dX12_layRuns_95 hl (by decide) rfl (fun ls hl => ?_)
    exact w_X12_layRuns_l97 C0  FU k0 v1 v2 1 1 hk0 _ _ _ _ hH (lv_sub hl [2, 3, 4, 1, 0] rfl) h
  · replace h := if_f h c1
    refine lv_aload_n hx hb dX12_layRuns_26 rfl (lv_at hl 0 rfl) ?_
    refine gf_X12_19 C0 hH hk0 dX12_layRuns_27 ?_
    refine lv_iload hx hb dX12_layRuns_30 (lv_at hl 4 rfl) ?_
    obtain ⟨r3, qr3, h⟩ := ob_s h
    refine go_i hH (va_run_S (As := [.ref (ea E (k0 + 4)), .int v4]) (rest := []) C0 hH lk_X12_259 (c_X12_weightOf hAd (k0 + 4) v4 (kf_12_4 hk0) σ qr3) (by decide) rfl hl.1 rfl (Nat.le_of_ble_eq_true rfl) dX12_layRuns_32) (fun H locs hH => ?_)
    refine lv_istore (lv' := [(5, .int r3), (0, .ref (ea E k0)), (1, .int v1), (2, .int v2), (3, .int v3), (4, .int v4)]) hx hb dX12_layRuns_35 hl (by decide) rfl (fun ls hl => ?_)
    refine lv_iload_n hx hb dX12_layRuns_37 rfl (lv_at hl 4 rfl) ?_
    refine lv_ldc hx hb hown (hts _ qK_X12_112) dX12_layRuns_38 ?_
    refine lv_icmp_eq (tgt := 67) hx hb dX12_layRuns_40 (by decide) (fun c4 => ?_) (fun c4 => ?_)
    · replace h := if_t h c4
      exact w_X12_layRuns_b67 C0 K21 hK21 k0 v1 v4 r3 hk0 hH (lv_sub hl [1, 2, 5, 0] rfl) h
    · replace h := if_f h c4
      refine lv_iload hx hb dX12_layRuns_43 (lv_at hl 0 rfl) ?_
      refine lv_iload_n hx hb dX12_layRuns_45 rfl (lv_at hl 4 rfl) ?_
      refine lv_icmp_lt (tgt := 67) hx hb dX12_layRuns_46 (by decide) (fun c5 => ?_) (fun c5 => ?_)
      · replace h := if_t h c5
        exact w_X12_layRuns_b67 C0 K21 hK21 k0 v1 v4 r3 hk0 hH (lv_sub hl [1, 2, 5, 0] rfl) h
      · replace h := if_f h c5
        refine lv_iload hx hb dX12_layRuns_49 (lv_at hl 0 rfl) ?_
        refine lv_iload_n hx hb dX12_layRuns_51 rfl (lv_at hl 4 rfl) ?_
        refine lv_icmp_ne (tgt := 73) hx hb dX12_layRuns_52 (by decide) (fun c6 => ?_) (fun c6 => ?_)
        · replace h := if_f h c6
          exact w_X12_layRuns_b73 C0 K21 hK21 k0 v1 v2 v3 v4 hk0 hH (lv_sub hl [1, 2, 3, 4, 5] rfl) h
        · replace h := if_t h c6
          refine lv_iload hx hb dX12_layRuns_55 (lv_at hl 5 rfl) ?_
          obtain ⟨r7, qr7, h⟩ := ob_s h
          refine go_i hH (va_run_S (As := [.int v4]) (rest := []) C0 hH lk_X12_262 (c_X12_sizeOf hAd v4  σ qr7) (by decide) rfl hl.1 rfl (Nat.le_of_ble_eq_true rfl) dX12_layRuns_57) (fun H locs hH => ?_)
          refine lv_iload_n hx hb dX12_layRuns_60 rfl (lv_at hl 3 rfl) ?_
          obtain ⟨r8, qr8, h⟩ := ob_s h
          refine go_i hH (va_run_S (As := [.int v2]) (rest := [.int r7]) C0 hH lk_X12_262 (c_X12_sizeOf hAd v2  σ qr8) (by decide) rfl hl.1 rfl (Nat.le_of_ble_eq_true rfl) dX12_layRuns_61) (fun H locs hH => ?_)
          refine lv_icmp_ge (tgt := 73) hx hb dX12_layRuns_64 (by decide) (fun c9 => ?_) (fun c9 => ?_)
          · replace h := if_t h c9
            exact w_X12_layRuns_b73 C0 K21 hK21 k0 v1 v2 v3 v4 hk0 hH (lv_sub hl [1, 2, 3, 4, 5] rfl) h
          · replace h := if_f h c9
            exact w_X12_layRuns_b67 C0 K21 hK21 k0 v1 v4 r3 hk0 hH (lv_sub hl [1, 2, 5, 0] rfl) h
set_option maxRecDepth 100000 in
set_option maxHeartbeats 4000000 in
theorem w_X12_layRuns_l21 {r : Int32} {σ' : Mem} (C0 : Cx E p m c cX12_layRuns 6 s args RX12 meth (some .int))  (n : Nat) : ∀ (k0 : Nat) (v1 : Int32) (v2 : Int32) (v3 : Int32) (v4 : Int32) (hk0 : kd k0 = 12) (σ : Mem) (H : Heap) (locs : List Loc) (ls : Array Slot), Hs E s σ H locs → lv_has ls 6 [(0, .ref (ea E k0)), (1, .int v1), (2, .int v2), (3, .int v3), (4, .int v4)] → X12_layRuns_l21 n k0 v1 v2 v3 v4 σ = some (r, σ') → W p l e (rmD 4) s m args below meth c H locs 0 0 (MQ below (QiM E r σ') args s 0 0 (eA E)) (F0 m 21 ls []) := by
  induction n with
  | zero =>
    intro k0 v1 v2 v3 v4 hk0 σ H locs ls hH hl h
    cases h
  | succ n ih =>
    intro k0 v1 v2 v3 v4 hk0 σ H locs ls hH hl h
    exact w_X12_layRuns_b21 C0 (X12_layRuns_l21 n)  ih k0 v1 v2 v3 v4 hk0 hH hl h
set_option maxRecDepth 100000 in
set_option maxHeartbeats 4000000 in
theorem w_X12_layRuns_b0 {r : Int32} {σ' : Mem} (C0 : Cx E p m c cX12_layRuns 6 s args RX12 meth (some .int))  (k0 : Nat) (hk0 : kd k0 = 12) {σ : Mem} {H : Heap} {locs : List Loc} {ls : Array Slot} (hH : Hs E s σ H locs) (hl : lv_has ls 6 [(0, .ref (ea E k0))]) (h : X12_layRuns_b0 k0 σ = some (r, σ')) : W p l e (rmD 4) s m args below meth c H locs 0 0 (MQ below (QiM E r σ') args s 0 0 (eA E)) (F0 m 0 ls []) := by
  obtain ⟨⟨hx, hb, hml, hown, hts⟩, hr, hlocks, hF, hAd⟩ := id C0
  unfold X12_layRuns_b0 at h
  refine lv_aload_n hx hb dX12_layRuns_0 rfl (lv_at hl 0 rfl) ?_
  refine gf_X12_19 C0 hH hk0 dX12_layRuns_1 ?_
  refine lv_iconst (v := 0) hx hb dX12_layRuns_4 (by decide) ?_
  refine r_iald C0 hH (n := 43) (kf_12_4 hk0) (vin (by decide)) dX12_layRuns_5 ?_
  obtain ⟨x1, ex1, h⟩ := letv_s h
  refine topi_of ex1 ?_
  refine lv_istore_n (lv' := [(1, .int x1), (0, .ref (ea E k0))]) hx hb dX12_layRuns_6 rfl hl (by decide) rfl (fun ls hl => ?_)
  refine lv_iconst (v := 0) hx hb dX12_layRuns_7 (by decide) ?_
  refine lv_istore_n (lv' := [(2, .int 0), (1, .int x1), (0, .ref (ea E k0))]) hx hb dX12_layRuns_8 rfl hl (by decide) rfl (fun ls hl => ?_)
  refine lv_ldc hx hb hown (hts _ qK_X12_112) dX12_layRuns_9 ?_
  refine lv_istore_n (lv' := [(3, .int ((-1000000))), (2, .int 0), (1, .int x1), (0, .ref (ea E k0))]) hx hb dX12_layRuns_11 rfl hl (by decide) rfl (fun ls hl => ?_)
  refine lv_iconst (v := 1) hx hb dX12_layRuns_12 (by decide) ?_
  refine lv_iload_n hx hb dX12_layRuns_13 rfl (lv_at hl 2 rfl) ?_
  refine lv_iconst (v := 1) hx hb dX12_layRuns_14 (by decide) ?_
  refine lv_isub hx hb dX12_layRuns_15 ?_
  refine lv_ishl hx hb dX12_layRuns_16 ?_
  refine lv_iconst (v := 1) hx hb dX12_layRuns_17 (by decide) ?_
  refine lv_isub hx hb dX12_layRuns_18 ?_
  obtain ⟨x2, ex2, h⟩ := letv_s h
  refine topi_of ex2 ?_
  refine lv_istore (lv' := [(4, .int x2), (3, .int ((-1000000))), (2, .int 0), (1, .int x1), (0, .ref (ea E k0))]) hx hb dX12_layRuns_19 hl (by decide) rfl (fun ls hl => ?_)
  exact w_X12_layRuns_l21 C0  FU k0 x1 0 (-1000000) x2 hk0 _ _ _ _ hH (lv_sub hl [4, 3, 2, 1, 0] rfl) h
theorem c_X12_layRuns {l : Launch} {E : EnvT} (hAd : Ad E) (k0 : Nat) (hk0 : kd k0 = 12) (σ : Mem) {r : Int32} {σ' : Mem} (h : X12_layRuns k0 σ = some (r, σ')) : Met l yX12_layRuns (wsM yX12_layRuns cX12_layRuns 6 (some .int)) (rmD 4) (PcM E [.ref (ea E k0)] σ) (QiM E r σ') 0 0 (eA E) :=
  Met.ofM (by decide) (Nat.le_of_ble_eq_true rfl) (fun p e s m below meth c ls C0 hH hl => w_X12_layRuns_b0 C0 k0 hk0 hH hl h) hAd
set_option maxRecDepth 100000 in
set_option maxHeartbeats 4000000 in
theorem w_X12_runOf_b2 {r : Int32} (C0 : Cx E p m c cX12_runOf 4 s args RX12 meth (some .int)) (K2 : Nat → Int32 → Int32 → Int32 → Mem → Option Int32) (hK2 : ∀ (k0 : Nat) (v1 : Int32) (v2 : Int32) (v3 : Int32) (hk0 : kd k0 = 12) (σ : Mem) (H : Heap) (locs : List Loc) (ls : Array Slot), Hs E s σ H locs → lv_has ls 4 [(0, .ref (ea E k0)), (1, .int v1), (2, .int v2), (3, .int v3)] → K2 k0 v1 v2 v3 σ = some r → W p l e (rmD 0) s m args below meth c H locs 0 0 (MQ below (QiM E r σ) args s 0 0 (eA E)) (F0 m 2 ls []))  (k0 : Nat) (v1 : Int32) (v2 : Int32) (v3 : Int32) (hk0 : kd k0 = 12) {σ : Mem} {H : Heap} {locs : List Loc} {ls : Array Slot} (hH : Hs E s σ H locs) (hl : lv_has ls 4 [(0, .ref (ea E k0)), (1, .int v1), (2, .int v2), (3, .int v3)]) (h : X12_runOf_b2 K2 k0 v1 v2 v3 σ = some r) : W p l e (rmD 0) s m args below meth c H locs 0 0 (MQ below (QiM E r σ) args s 0 0 (eA E)) (F0 m 2 ls []) := by
  obtain ⟨⟨hx, hb, hml, hown, hts⟩, hr, hlocks, hF, hAd⟩ := id C0
  unfold X12_runOf_b2 at h
  refine lv_iload_n hx hb dX12_runOf_2 rfl (lv_at hl 3 rfl) ?_
  refine lv_iload_n hx hb dX12_runOf_3 rfl (lv_at hl 2 rfl) ?_
  refine lv_iconst (v := 1) hx hb dX12_runOf_4 (by decide) ?_
  refine lv_isub hx hb dX12_runOf_5 ?_
  refine lv_icmp_ge (tgt := 27) hx hb dX12_runOf_6 (by decide) (fun c1 => ?_) (fun c1 => ?_)
  · replace h := if_t h c1
    refine lv_iload_n hx hb dX12_runOf_27 rfl (lv_at hl 3 rfl) ?_
    exact r_iret C0 hH (Option.some.inj h) rfl dX12_runOf_28
  · replace h := if_f h c1
    refine lv_aload_n hx hb dX12_runOf_9 rfl (lv_at hl 0 rfl) ?_
    refine gf_X12_52 C0 hH hk0 dX12_runOf_10 ?_
    refine lv_iload_n hx hb dX12_runOf_13 rfl (lv_at hl 3 rfl) ?_
    refine lv_iconst (v := 1) hx hb dX12_runOf_14 (by decide) ?_
    refine lv_iadd hx hb dX12_runOf_15 ?_
    obtain ⟨b2, h⟩ := gdx_s h
    refine r_iald C0 hH (n := 11) (kf_12_24 hk0) b2 dX12_runOf_16 ?_
    refine lv_iload_n hx hb dX12_runOf_17 rfl (lv_at hl 1 rfl) ?_
    refine lv_icmp_gt (tgt := 27) hx hb dX12_runOf_18 (by decide) (fun c3 => ?_) (fun c3 => ?_)
    · replace h := if_t h c3
      refine lv_iload_n hx hb dX12_runOf_27 rfl (lv_at hl 3 rfl) ?_
      exact r_iret C0 hH (Option.some.inj h) rfl dX12_runOf_28
    · replace h := if_f h c3
      refine lv_iinc (v := v3 + 1) (lv' := [(3, .int (v3 + 1)), (0, .ref (ea E k0)), (1, .int v1), (2, .int v2)]) hx hb dX12_runOf_21 hl (k := 3) rfl rfl (by decide) rfl (fun ls hl => ?_)
      refine lv_goto (tgt := 2) hx hb dX12_runOf_24 (by decide) ?_
      exact hK2 k0 v1 v2 (v3 + 1) hk0 _ _ _ _ hH (lv_sub hl [1, 2, 3, 0] rfl) h
set_option maxRecDepth 100000 in
set_option maxHeartbeats 4000000 in
theorem w_X12_runOf_l2 {r : Int32} (C0 : Cx E p m c cX12_runOf 4 s args RX12 meth (some .int))  (n : Nat) : ∀ (k0 : Nat) (v1 : Int32) (v2 : Int32) (v3 : Int32) (hk0 : kd k0 = 12) (σ : Mem) (H : Heap) (locs : List Loc) (ls : Array Slot), Hs E s σ H locs → lv_has ls 4 [(0, .ref (ea E k0)), (1, .int v1), (2, .int v2), (3, .int v3)] → X12_runOf_l2 n k0 v1 v2 v3 σ = some r → W p l e (rmD 0) s m args below meth c H locs 0 0 (MQ below (QiM E r σ) args s 0 0 (eA E)) (F0 m 2 ls []) := by
  induction n with
  | zero =>
    intro k0 v1 v2 v3 hk0 σ H locs ls hH hl h
    cases h
  | succ n ih =>
    intro k0 v1 v2 v3 hk0 σ H locs ls hH hl h
    exact w_X12_runOf_b2 C0 (X12_runOf_l2 n)  ih k0 v1 v2 v3 hk0 hH hl h
set_option maxRecDepth 100000 in
set_option maxHeartbeats 4000000 in
theorem w_X12_runOf_b0 {r : Int32} (C0 : Cx E p m c cX12_runOf 4 s args RX12 meth (some .int))  (k0 : Nat) (v1 : Int32) (v2 : Int32) (hk0 : kd k0 = 12) {σ : Mem} {H : Heap} {locs : List Loc} {ls : Array Slot} (hH : Hs E s σ H locs) (hl : lv_has ls 4 [(0, .ref (ea E k0)), (1, .int v1), (2, .int v2)]) (h : X12_runOf_b0 k0 v1 v2 σ = some r) : W p l e (rmD 0) s m args below meth c H locs 0 0 (MQ below (QiM E r σ) args s 0 0 (eA E)) (F0 m 0 ls []) := by
  obtain ⟨⟨hx, hb, hml, hown, hts⟩, hr, hlocks, hF, hAd⟩ := id C0
  unfold X12_runOf_b0 at h
  refine lv_iconst (v := 0) hx hb dX12_runOf_0 (by decide) ?_
  refine lv_istore_n (lv' := [(3, .int 0), (0, .ref (ea E k0)), (1, .int v1), (2, .int v2)]) hx hb dX12_runOf_1 rfl hl (by decide) rfl (fun ls hl => ?_)
  exact w_X12_runOf_l2 C0  FU k0 v1 v2 0 hk0 _ _ _ _ hH (lv_sub hl [1, 2, 3, 0] rfl) h
theorem c_X12_runOf {l : Launch} {E : EnvT} (hAd : Ad E) (k0 : Nat) (v1 : Int32) (v2 : Int32) (hk0 : kd k0 = 12) (σ : Mem) {r : Int32} (h : X12_runOf k0 v1 v2 σ = some r) : Met l yX12_runOf (wsM yX12_runOf cX12_runOf 4 (some .int)) (rmD 0) (PcM E [.ref (ea E k0), .int v1, .int v2] σ) (QiM E r σ) 0 0 (eA E) :=
  Met.ofM (by decide) (Nat.le_of_ble_eq_true rfl) (fun p e s m below meth c ls C0 hH hl => w_X12_runOf_b0 C0 k0 v1 v2 hk0 hH hl h) hAd
set_option maxRecDepth 100000 in
set_option maxHeartbeats 4000000 in
theorem w_X12_run_b15 {r : Int32} {σ' : Mem} (C0 : Cx E p m c cX12_run 5 s args RX12 meth (some .int))  (k0 : Nat) (v1 : Int32) (v2 : Int32) (s0 : Int32) (hk0 : kd k0 = 12) {σ : Mem} {H : Heap} {locs : List Loc} {ls : Array Slot} (hH : Hs E s σ H locs) (hl : lv_has ls 5 [(0, .ref (ea E k0)), (1, .int v1), (2, .int v2)]) (h : X12_run_b15 k0 v1 v2 s0 σ = some (r, σ')) : W p l e (rmD 5) s m args below meth c H locs 0 0 (MQ below (QiM E r σ') args s 0 0 (eA E)) (F0 m 15 ls [.int s0]) := by
  obtain ⟨⟨hx, hb, hml, hown, hts⟩, hr, hlocks, hF, hAd⟩ := id C0
  unfold X12_run_b15 at h
  refine lv_istore_n (lv' := [(3, .int s0), (0, .ref (ea E k0)), (1, .int v1), (2, .int v2)]) hx hb dX12_run_15 rfl hl (by decide) rfl (fun ls hl => ?_)
  refine lv_iload_n hx hb dX12_run_16 rfl (lv_at hl 2 rfl) ?_
  refine lv_i2l (v := Int32.toInt64 v1) hx hb dX12_run_17 rfl ?_
  refine lv_lconst (v := 0) hx hb dX12_run_18 (by decide) ?_
  refine lv_iload_n hx hb dX12_run_19 rfl (lv_at hl 0 rfl) ?_
  refine lv_iconst (v := 1) hx hb dX12_run_20 (by decide) ?_
  refine lv_isub hx hb dX12_run_21 ?_
  refine lv_i2l (v := Int32.toInt64 (s0 - 1)) hx hb dX12_run_22 rfl ?_
  refine go_i hH (va_run_S (As := [.long (Int32.toInt64 v1), .long 0, .long (Int32.toInt64 (s0 - 1))]) (rest := []) C0 hH lk_X12_75 (c_X12_in hAd (Int32.toInt64 v1) 0 (Int32.toInt64 (s0 - 1))  σ rfl) (by decide) rfl hl.1 rfl (Nat.le_of_ble_eq_true rfl) dX12_run_23) (fun H locs hH => ?_)
  refine lv_if_ne (tgt := 32) hx hb dX12_run_26 (by decide) (fun c1 => ?_) (fun c1 => ?_)
  · replace h := if_f h c1
    refine lv_aload_n hx hb dX12_run_32 rfl (lv_at hl 1 rfl) ?_
    refine gf_X12_52 C0 hH hk0 dX12_run_33 ?_
    refine lv_iload_n hx hb dX12_run_36 rfl (lv_at hl 2 rfl) ?_
    refine lv_iconst (v := 1) hx hb dX12_run_37 (by decide) ?_
    refine lv_iadd hx hb dX12_run_38 ?_
    obtain ⟨b2, h⟩ := gdx_s h
    refine r_iald C0 hH (n := 11) (kf_12_24 hk0) b2 dX12_run_39 ?_
    refine lv_aload_n hx hb dX12_run_40 rfl (lv_at hl 1 rfl) ?_
    refine gf_X12_52 C0 hH hk0 dX12_run_41 ?_
    refine lv_iload_n hx hb dX12_run_44 rfl (lv_at hl 2 rfl) ?_
    obtain ⟨b3, h⟩ := gdx_s h
    refine r_iald C0 hH (n := 11) (kf_12_24 hk0) b3 dX12_run_45 ?_
    refine lv_isub hx hb dX12_run_46 ?_
    obtain ⟨x4, ex4, h⟩ := letv_s h
    refine topi_of ex4 ?_
    refine lv_istore (lv' := [(4, .int x4), (3, .int s0), (0, .ref (ea E k0)), (1, .int v1), (2, .int v2)]) hx hb dX12_run_47 hl (by decide) rfl (fun ls hl => ?_)
    refine lv_iload_n hx hb dX12_run_49 rfl (lv_at hl 4 rfl) ?_
    by_cases c5 : v2 = 0
    · replace h := if_t h c5
      refine lv_tableIn (off := 26) (tgt := 76) hx hb dX12_run_50 (by rw [c5]; decide) (by rw [c5]; decide) (by rw [c5]; rfl) (by decide) ?_
      refine lv_aload_n hx hb dX12_run_76 rfl (lv_at hl 2 rfl) ?_
      refine gf_X12_52 C0 hH hk0 dX12_run_77 ?_
      refine lv_iload_n hx hb dX12_run_80 rfl (lv_at hl 3 rfl) ?_
      obtain ⟨b6, h⟩ := gdx_s h
      refine r_iald C0 hH (n := 11) (kf_12_24 hk0) b6 dX12_run_81 ?_
      exact r_iret C0 hH (pj1 h) (pj2 h) dX12_run_82
    · replace h := if_f h c5
      by_cases c7 : v2 = 1
      · replace h := if_t h c7
        refine lv_tableIn (off := 33) (tgt := 83) hx hb dX12_run_50 (by rw [c7]; decide) (by rw [c7]; decide) (by rw [c7]; rfl) (by decide) ?_
        refine lv_iload hx hb dX12_run_83 (lv_at hl 0 rfl) ?_
        exact r_iret C0 hH (pj1 h) (pj2 h) dX12_run_85
      · replace h := if_f h c7
        by_cases c8 : v2 = 2
        · replace h := if_t h c8
          refine lv_tableIn (off := 36) (tgt := 86) hx hb dX12_run_50 (by rw [c8]; decide) (by rw [c8]; decide) (by rw [c8]; rfl) (by decide) ?_
          refine lv_aload_n hx hb dX12_run_86 rfl (lv_at hl 2 rfl) ?_
          refine gf_X12_19 C0 hH hk0 dX12_run_87 ?_
          refine lv_iconst (v := 1) hx hb dX12_run_90 (by decide) ?_
          refine lv_iload hx hb dX12_run_91 (lv_at hl 0 rfl) ?_
          refine lv_ishl hx hb dX12_run_93 ?_
          refine lv_iconst (v := 1) hx hb dX12_run_94 (by decide) ?_
          refine lv_isub hx hb dX12_run_95 ?_
          refine lv_aload_n hx hb dX12_run_96 rfl (lv_at hl 2 rfl) ?_
          refine gf_X12_52 C0 hH hk0 dX12_run_97 ?_
          refine lv_iload_n hx hb dX12_run_100 rfl (lv_at hl 3 rfl) ?_
          obtain ⟨b9, h⟩ := gdx_s h
          refine r_iald C0 hH (n := 11) (kf_12_24 hk0) b9 dX12_run_101 ?_
          refine lv_ishl hx hb dX12_run_102 ?_
          obtain ⟨r10, qr10, h⟩ := ob_s h
          refine go_i hH (va_run_S (As := [.ref (ea E (k0 + 4)), .int (shl ((shl 1 x4) - 1) (σ (k0 + 15) (nc v1)))]) (rest := []) C0 hH lk_X12_208 (c_X12_spreadOf hAd (k0 + 4) (shl ((shl 1 x4) - 1) (σ (k0 + 15) (nc v1))) (kf_12_4 hk0) σ qr10) (by decide) rfl hl.1 rfl (Nat.le_of_ble_eq_true rfl) dX12_run_103) (fun H locs hH => ?_)
          exact r_iret C0 hH (pj1 h) (pj2 h) dX12_run_106
        · replace h := if_f h c8
          refine lv_tableOut (tgt := 107) hx hb dX12_run_50 (by have := i32_nv (v := 0) c5 (by decide); have := i32_nv (v := 1) c7 (by decide); have := i32_nv (v := 2) c8 (by decide); omega) (by decide) ?_
          refine lv_ldc hx hb hown (hts _ qK_X12_85) dX12_run_107 ?_
          exact r_iret C0 hH (pj1 h) (pj2 h) dX12_run_109
  · replace h := if_t h c1
    refine lv_ldc hx hb hown (hts _ qK_X12_85) dX12_run_29 ?_
    exact r_iret C0 hH (pj1 h) (pj2 h) dX12_run_31
set_option maxRecDepth 100000 in
set_option maxHeartbeats 4000000 in
theorem w_X12_run_b0 {r : Int32} {σ' : Mem} (C0 : Cx E p m c cX12_run 5 s args RX12 meth (some .int))  (k0 : Nat) (v1 : Int32) (v2 : Int32) (hk0 : kd k0 = 12) {σ : Mem} {H : Heap} {locs : List Loc} {ls : Array Slot} (hH : Hs E s σ H locs) (hl : lv_has ls 5 [(0, .ref (ea E k0)), (1, .int v1), (2, .int v2)]) (h : X12_run_b0 k0 v1 v2 σ = some (r, σ')) : W p l e (rmD 5) s m args below meth c H locs 0 0 (MQ below (QiM E r σ') args s 0 0 (eA E)) (F0 m 0 ls []) := by
  obtain ⟨⟨hx, hb, hml, hown, hts⟩, hr, hlocks, hF, hAd⟩ := id C0
  unfold X12_run_b0 at h
  refine lv_aload_n hx hb dX12_run_0 rfl (lv_at hl 0 rfl) ?_
  obtain ⟨r1, qr1, h⟩ := ob_s h
  refine go_i hH (va_run_V (As := []) (rest := []) C0 hH lk_X12_159 (c_X12_isThere hAd k0 hk0 σ qr1) (by decide) (ci := 12) hk0 (by decide) (cob_12 _ _ _) rfl rfl hl.1 rfl (Nat.le_of_ble_eq_true rfl) dX12_run_1) (fun H locs hH => ?_)
  refine lv_if_eq (tgt := 14) hx hb dX12_run_4 (by decide) (fun c2 => ?_) (fun c2 => ?_)
  · replace h := if_t h c2
    refine lv_iconst (v := 0) hx hb dX12_run_14 (by decide) ?_
    exact w_X12_run_b15 C0  k0 v1 v2 0 hk0 hH (lv_sub hl [0, 1, 2] rfl) h
  · replace h := if_f h c2
    refine lv_aload_n hx hb dX12_run_7 rfl (lv_at hl 0 rfl) ?_
    obtain ⟨r3, σ4, qr3, h⟩ := ob2_s h
    refine go_i hH (va_run_V (As := []) (rest := []) C0 hH lk_X12_268 (c_X12_layRuns hAd k0 hk0 σ qr3) (by decide) (ci := 12) hk0 (by decide) (cob_12 _ _ _) rfl rfl hl.1 rfl (Nat.le_of_ble_eq_true rfl) dX12_run_8) (fun H locs hH => ?_)
    refine lv_goto (tgt := 15) hx hb dX12_run_11 (by decide) ?_
    exact w_X12_run_b15 C0  k0 v1 v2 r3 hk0 hH (lv_sub hl [0, 1, 2] rfl) h
theorem c_X12_run {l : Launch} {E : EnvT} (hAd : Ad E) (k0 : Nat) (v1 : Int32) (v2 : Int32) (hk0 : kd k0 = 12) (σ : Mem) {r : Int32} {σ' : Mem} (h : X12_run k0 v1 v2 σ = some (r, σ')) : Met l yX12_run (wsM yX12_run cX12_run 5 (some .int)) (rmD 5) (PcM E [.ref (ea E k0), .int v1, .int v2] σ) (QiM E r σ') 0 0 (eA E) :=
  Met.ofM (by decide) (Nat.le_of_ble_eq_true rfl) (fun p e s m below meth c ls C0 hH hl => w_X12_run_b0 C0 k0 v1 v2 hk0 hH hl h) hAd
set_option maxRecDepth 100000 in
set_option maxHeartbeats 4000000 in
theorem w_X12_writes_b0 {σ' : Mem} (C0 : Cx E p m c cX12_writes 2 s args RX12 meth (none))  (k0 : Nat) (v1 : Int32) (hk0 : kd k0 = 12) {σ : Mem} {H : Heap} {locs : List Loc} {ls : Array Slot} (hH : Hs E s σ H locs) (hl : lv_has ls 2 [(0, .ref (ea E k0)), (1, .int v1)]) (h : X12_writes_b0 k0 v1 σ = some σ') : W p l e (rmD 0) s m args below meth c H locs 0 0 (MQ below (QvM E σ') args s 0 0 (eA E)) (F0 m 0 ls []) := by
  obtain ⟨⟨hx, hb, hml, hown, hts⟩, hr, hlocks, hF, hAd⟩ := id C0
  unfold X12_writes_b0 at h
  refine lv_aload_n hx hb dX12_writes_0 rfl (lv_at hl 0 rfl) ?_
  refine gf_X12_55 C0 hH hk0 dX12_writes_1 ?_
  refine lv_aload_n hx hb dX12_writes_4 rfl (lv_at hl 0 rfl) ?_
  refine gf_X12_271 C0 hH hk0 dX12_writes_5 ?_
  refine lv_iload_n hx hb dX12_writes_8 rfl (lv_at hl 1 rfl) ?_
  obtain ⟨b1, h⟩ := gdx_s h
  refine r_iast C0 hH (n := 64) (kf_12_26 hk0) b1 dX12_writes_9 (fun H locs hH => ?_)
  refine lv_aload_n hx hb dX12_writes_10 rfl (lv_at hl 0 rfl) ?_
  refine lv_dup hx hb dX12_writes_11 rfl ?_
  obtain ⟨σ2, eσ2, h⟩ := letv_s h
  replace hH := hs_of eσ2 hH
  refine gf_X12_271 C0 hH hk0 dX12_writes_12 ?_
  refine lv_iconst (v := 1) hx hb dX12_writes_15 (by decide) ?_
  refine lv_iadd hx hb dX12_writes_16 ?_
  refine pf_X12_271 C0 hH hk0 dX12_writes_17 (fun H locs hH => ?_)
  exact r_vret C0 hH (Option.some.inj h) dX12_writes_20
theorem c_X12_writes {l : Launch} {E : EnvT} (hAd : Ad E) (k0 : Nat) (v1 : Int32) (hk0 : kd k0 = 12) (σ : Mem) {σ' : Mem} (h : X12_writes k0 v1 σ = some σ') : Met l yX12_writes (wsM yX12_writes cX12_writes 2 (none)) (rmD 0) (PcM E [.ref (ea E k0), .int v1] σ) (QvM E σ') 0 0 (eA E) :=
  Met.ofM (by decide) (Nat.le_of_ble_eq_true rfl) (fun p e s m below meth c ls C0 hH hl => w_X12_writes_b0 C0 k0 v1 hk0 hH hl h) hAd
end
