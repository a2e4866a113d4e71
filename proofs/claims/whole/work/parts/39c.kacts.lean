def kBk (E : EnvT) (a : Nat) : Nat → List va_E
  | 0 => []
  | n + 1 => kBk E a n ++ kX2 E (a + 6 * n)
theorem kBk_len (E : EnvT) (a : Nat) : ∀ n : Nat, (kBk E a n).length = 6 * n
  | 0 => rfl
  | n + 1 => by rw [kBk, List.length_append, kBk_len E a n, kX2_len]; omega
abbrev kO0 (a0 : Nat) : va_E := .inr (0, [.ref (a0 + 1), .int 0, .int 0])
abbrev kAr (E : EnvT) (a0 i : Nat) : va_E := .inl (eC E 3, 24, .inr (.inr (.inr (.inr (fun j => if j < i then some (a0 + 2 + 6 * j) else none)))))
abbrev kArF (E : EnvT) (a0 : Nat) : va_E := .inl (eC E 3, 24, .inr (.inr (.inr (.inr (fun i => some (a0 + 1 + 1 + 6 * i))))))
def kX0 (E : EnvT) (a0 : Nat) : List va_E := (([kO0 a0] ++ [kArF E a0]) ++ kBk E (a0 + 2) 24)
theorem kX0_len (E : EnvT) (a0 : Nat) : (kX0 E a0).length = 146 := (ap_ln (n := 2) (m := 144) (ap_ln (n := 1) (m := 1) rfl rfl) (kBk_len _ _ 24))
theorem kX0_g0 (E : EnvT) (a0 : Nat) : (kX0 E a0)[0]? = some (.inr (0, [.ref (a0 + 1), .int 0, .int 0])) := (ap_gl (ap_gl (rfl)))
theorem lkI_X0_init : LkI yX0_init cX0_init 2 := ⟨qI_X0_init, qi_X0, qC_X0_init, by decide +kernel, by decide +kernel, by decide +kernel, by decide +kernel, by decide⟩
section
variable {p : Program} {l : Launch} {e : Env} {s : State} {m : MethodId} {args : Array Value} {below : List Frame} {meth : Method} {c : Code} {E : EnvT}
set_option maxRecDepth 100000 in
set_option maxHeartbeats 4000000 in
theorem k_X0_loop (hAd : Ad E) (sz a0 : Nat) (L0 : List va_E) (C0 : Cx E p m c cX0_init 2 s args RX0 meth none) (hN0 : Nx s) : ∀ (r i : Nat), i + r = 24 → ∀ (H : Heap) (locs : List Loc) (ls : Array Slot) (cells slots : Nat), cells = 1 + 6 * i → slots = 24 + 48 * i → Lc E s sz a0 L0 (([kO0 a0] ++ [kAr E a0 i]) ++ kBk E (a0 + 2) i) H locs → lv_has ls 2 [(1, .int (nI i)), (0, .ref a0)] → W p l e (rmK 2 145 1176) s m args below meth c H locs cells slots (MQ below (QvK E sz a0 L0 (kX0 E a0)) args s 145 1176 (eA E)) (F0 m 25 ls []) := by
  obtain ⟨⟨hx, hb, hml, hown, hts⟩, hr, hlocks, hF, hAd⟩ := id C0
  intro r
  induction r with
  | zero =>
    intro i hi H locs ls cells slots hc hs hL hl
    obtain rfl : i = 24 := by omega
    refine lv_iload_n hx hb dX0_init_25 rfl (lv_at hl 0 rfl) ?_
    refine lv_bipush (v := 24) hx hb dX0_init_26 (by decide) ?_
    refine lv_icmp_ge (tgt := 50) hx hb dX0_init_28 (by decide) (fun _ => ?_) (fun c1 => absurd (by decide) c1)
    replace hL := Lc.conv (M' := kX0 E a0) hL 1 (N := 24) (f := fun j => if j < 24 then some (a0 + 2 + 6 * j) else none) (f' := fun i => some (a0 + 1 + 1 + 6 * i)) (ap_gl (ap_gr (n := 1) (j := 0) rfl rfl)) (fun i hi => by rw [if_pos hi]) (ap_sl (ap_lt (ap_ln (n := 1) (m := 1) rfl rfl) (Nat.le_of_ble_eq_true rfl)) (ap_sr (n := 1) (j := 0) rfl rfl))
    exact k_vret C0 hL dX0_init_50 (by rw [hc]) (by rw [hs])
  | succ r ih =>
    intro i hi H locs ls cells slots hc hs hL hl
    have hi24 : i < 24 := by omega
    have hLn : (([kO0 a0] ++ [kAr E a0 i]) ++ kBk E (a0 + 2) i).length = 2 + 6 * i := ap_ln (ap_ln (n := 1) (m := 1) rfl rfl) (kBk_len _ _ i)
    refine lv_iload_n hx hb dX0_init_25 rfl (lv_at hl 0 rfl) ?_
    refine lv_bipush (v := 24) hx hb dX0_init_26 (by decide) ?_
    refine lv_icmp_ge (tgt := 50) hx hb dX0_init_28 (by decide) (fun c1 => absurd c1 (nI_ge hi24 (by decide))) (fun _ => ?_)
    refine lv_aload_n hx hb dX0_init_31 rfl (lv_at hl 1 rfl) ?_
    refine k_get (fs := [.ref (a0 + 1), .int 0, .int 0]) (g := 0) (v := .ref (a0 + 1)) C0 hL 0 (ap_gl (ap_gl (rfl))) (ci := 0) rfl uGX0 (by decide) qF_X0_11 rfl dX0_init_32 ?_
    refine lv_iload_n hx hb dX0_init_35 rfl (lv_at hl 0 rfl) ?_
    refine k_new C0 hL 2 rfl uGX2 tyX2 tyX2_ok qA_X0_9 qn_X2 qi_X2 [.int 0, .int 0, .int 0, .null, .null] (by intro j hj; match j, hj with | 0, _ => rfl | 1, _ => rfl | 2, _ => rfl | 3, _ => rfl | 4, _ => rfl) (2 + 6 * i) hLn (by show cells + 1 ≤ 145; omega) (by show slots + 5 ≤ 1176; omega) dX0_init_36 (fun H hL => ?_)
    refine lv_dup hx hb dX0_init_39 rfl ?_
    refine kc_2 (M := (([kO0 a0] ++ [kAr E a0 i]) ++ kBk E (a0 + 2) i)) (n := 2 + 6 * i) C0 hN0 hL hLn hN0.2.2.2.2.2.2.1 (by show 2 ≤ 2; exact Nat.le_refl 2) (by show 128 ≤ 128; exact Nat.le_refl 128) hl.1 (Nat.le_of_ble_eq_true rfl) (by show cells + 1 + 5 ≤ 145; omega) (by show slots + 5 + 43 ≤ 1176; omega) dX0_init_40 (fun H locs hL => ?_)
    refine k_aast (M' := ((([kO0 a0] ++ [.inl (eC E 3, 24, .inr (.inr (.inr (.inr (va_up (fun j => if j < i then some (a0 + 2 + 6 * j) else none) (nI i).toNatClampNeg (some (a0 + (2 + 6 * i))))))))]) ++ kBk E (a0 + 2) i) ++ kX2 E (a0 + (2 + 6 * i)))) C0 hL 1 (2 + 6 * i) (N := 24) (f := fun j => if j < i then some (a0 + 2 + 6 * j) else none) (ap_gl (ap_gl (ap_gr (n := 1) (j := 0) rfl rfl))) (ap_gr (n := 2 + 6 * i) (j := 0) hLn (kX2_g0 _ _)) (nI_in hi24 (by decide)) (ap_sl (ap_lt hLn (by omega)) (ap_sl (ap_lt (ap_ln (n := 1) (m := 1) rfl rfl) (Nat.le_of_ble_eq_true rfl)) (ap_sr (n := 1) (j := 0) rfl rfl))) dX0_init_43 (fun H locs hL => ?_)
    replace hL := Lc.conv (M' := ((([kO0 a0] ++ [kAr E a0 (i + 1)]) ++ kBk E (a0 + 2) i) ++ kX2 E (a0 + (2 + 6 * i)))) hL 1 (N := 24) (f' := fun j => if j < i + 1 then some (a0 + 2 + 6 * j) else none) (ap_gl (ap_gl (ap_gr (n := 1) (j := 0) rfl rfl))) (fun j hj => by
      rw [nI_clamp (by omega)]
      unfold va_up
      by_cases h1 : j = i
      · subst h1
        rw [if_pos rfl, if_pos (by omega), Nat.add_assoc]
      · rw [if_neg h1]
        show (if j < i then some (a0 + 2 + 6 * j) else none) = _
        by_cases h2 : j < i
        · rw [if_pos h2, if_pos (by omega)]
        · rw [if_neg h2, if_neg (by omega)]) (ap_sl (ap_lt (ap_ln (ap_ln (n := 1) (m := 1) rfl rfl) (kBk_len _ _ i)) (by omega)) (ap_sl (ap_lt (ap_ln (n := 1) (m := 1) rfl rfl) (Nat.le_of_ble_eq_true rfl)) (ap_sr (n := 1) (j := 0) rfl rfl)))
    replace hL := Lc.re (M' := (([kO0 a0] ++ [kAr E a0 (i + 1)]) ++ kBk E (a0 + 2) (i + 1))) ((List.append_assoc _ _ _).trans (by rw [kBk, Nat.add_assoc])) hL
    refine lv_iinc (v := nI (i + 1)) (lv' := [(1, .int (nI (i + 1))), (0, .ref a0)]) hx hb dX0_init_44 hl (k := 0) rfl (by rw [nI_succ]; rfl) (by decide) rfl (fun ls hl => ?_)
    refine lv_goto (tgt := 25) hx hb dX0_init_47 (by decide) ?_
    exact ih (i + 1) (by omega) _ _ _ _ _ (by omega) (by omega) hL hl
end
set_option maxRecDepth 100000 in
set_option maxHeartbeats 4000000 in
theorem k_X0_init {l : Launch} {E : EnvT} (hAd : Ad E) (sz a0 : Nat) (L0 : List va_E) : Met l yX0_init (wsM yX0_init cX0_init 2 none) (rmK 2 145 1176) (va_Pc [.ref a0] (PcK E sz a0 L0 [.inr (0, [.null, .int 0, .int 0])])) (QvK E sz a0 L0 (kX0 E a0)) 145 1176 (eA E) :=
  Met.ofK (by decide) rfl (by decide) hAd (fun p e s m below meth c ls C0 hin2 hN0 hL hl => by
    obtain ⟨⟨hx, hb, hml, hown, hts⟩, hr, hlocks, hF, hAd⟩ := id C0
    refine lv_aload_n hx hb dX0_init_0 rfl (lv_at hl 0 rfl) ?_
    refine k_oinit C0 qM_X0_3 hl.1 rfl ⟨(by show 1 ≤ 2; exact Nat.le_of_ble_eq_true rfl), (by show 12 ≤ 128; exact Nat.le_of_ble_eq_true rfl)⟩ dX0_init_1 ?_
    refine lv_aload_n hx hb dX0_init_4 rfl (lv_at hl 0 rfl) ?_
    refine lv_bipush (v := 24) hx hb dX0_init_5 (by decide) ?_
    refine k_newB C0 hN0 hL 1 rfl 24 (by decide) (by decide) (Nat.le_of_ble_eq_true rfl) qA_X0_9 (by show 1 ≤ 145; exact Nat.le_of_ble_eq_true rfl) (by show 24 ≤ 1176; exact Nat.le_of_ble_eq_true rfl) dX0_init_7 (fun H hL => ?_)
    refine k_putFT (M' := ([.inr (0, [.ref (a0 + 1), .int 0, .int 0])] ++ [.inl (eC E 3, 24, .inr (.inr (.inr (.inr (fun _ => none)))))])) (fs := [.null, .int 0, .int 0]) (g := 0) (ty := (.array (.object "HandsInBook$Book"))) C0 hin2 hL 0 (ap_gl (rfl)) (ci := 0) TX0_0 rfl uGX0 tyX0 tyX0_ok nmX0 (by decide) qF_X0_11 (by decide +kernel) rfl rfl (Nat.le_of_ble_eq_true rfl) (ap_sl (ap_lt rfl (Nat.le_of_ble_eq_true rfl)) rfl) dX0_init_10 (fun H locs hL => ?_)
    refine lv_aload_n hx hb dX0_init_13 rfl (lv_at hl 0 rfl) ?_
    refine lv_iconst (v := 0) hx hb dX0_init_14 (by decide) ?_
    refine k_putT (M' := ([.inr (0, [.ref (a0 + 1), .int 0, .int 0])] ++ [.inl (eC E 3, 24, .inr (.inr (.inr (.inr (fun _ => none)))))])) (fs := [.ref (a0 + 1), .int 0, .int 0]) (g := 1) (ty := .int) C0 hL 0 (ap_gl (rfl)) (ci := 0) TX0_1 rfl uGX0 tyX0 tyX0_ok nmX0 (by decide) qF_X0_17 (by decide +kernel) rfl rfl (Nat.le_of_ble_eq_true rfl) (ap_sl (ap_lt rfl (Nat.le_of_ble_eq_true rfl)) rfl) dX0_init_15 (fun H locs hL => ?_)
    refine lv_aload_n hx hb dX0_init_18 rfl (lv_at hl 0 rfl) ?_
    refine lv_iconst (v := 0) hx hb dX0_init_19 (by decide) ?_
    refine k_putT (M' := ([.inr (0, [.ref (a0 + 1), .int 0, .int 0])] ++ [.inl (eC E 3, 24, .inr (.inr (.inr (.inr (fun _ => none)))))])) (fs := [.ref (a0 + 1), .int 0, .int 0]) (g := 2) (ty := .int) C0 hL 0 (ap_gl (rfl)) (ci := 0) TX0_2 rfl uGX0 tyX0 tyX0_ok nmX0 (by decide) qF_X0_21 (by decide +kernel) rfl rfl (Nat.le_of_ble_eq_true rfl) (ap_sl (ap_lt rfl (Nat.le_of_ble_eq_true rfl)) rfl) dX0_init_20 (fun H locs hL => ?_)
    refine lv_iconst (v := 0) hx hb dX0_init_23 (by decide) ?_
    refine lv_istore_n (lv' := [(1, .int 0), (0, .ref a0)]) hx hb dX0_init_24 rfl hl (by decide) rfl (fun ls hl => ?_)
    exact k_X0_loop hAd sz a0 L0 C0 hN0 24 0 rfl _ _ _ _ _ rfl rfl (Lc.re (M' := (([kO0 a0] ++ [kAr E a0 0]) ++ kBk E (a0 + 2) 0)) (List.append_nil _).symm (Lc.conv (M' := [kO0 a0] ++ [kAr E a0 0]) hL 1 (N := 24) (f := fun _ => none) (f' := fun j => if j < 0 then some (a0 + 2 + 6 * j) else none) (ap_gr (n := 1) (j := 0) rfl rfl) (fun j _ => (if_neg (Nat.not_lt_zero j)).symm) (ap_sr (n := 1) (j := 0) rfl rfl))) hl)
theorem kc_0 {p : Program} {l : Launch} {e : Env} {R : Room} {s : State} {m : MethodId} {args : Array Value} {below : List Frame} {meth : Method} {c : Code} {H : Heap} {locs : List Loc} {Q : State → Prop} {cells slots : Nat} {E : EnvT} {cc : ByteArray} {nL : Nat} {own : String} {ret : Option FieldType} {pc : Nat} {ls : Array Slot} {rest : List Value} {sz a0 : Nat} {L0 M : List va_E} {n index : Nat} (C0 : Cx E p m c cc nL s args own meth ret) (hN0 : Nx s) (hL : Lc E s sz a0 L0 (M ++ [.inr (0, [.null, .int 0, .int 0])]) H locs) (hn : M.length = n) (hl : Cond.methodLink own index yX0_init ∈ Gw) (hR1 : 3 ≤ R.frames) (hR2 : 192 ≤ R.locals) (hls : ls.size = nL) (hrest : (rest.map fun v => v.category).sum ≤ 8) (hf1 : cells + 145 ≤ R.cells) (hf2 : slots + 1176 ≤ R.slots) (d : decode cc pc = .ok (.invokespecial index, 3))
    (kk : ∀ (H : Heap) (locs : List Loc), Lc E s sz a0 L0 (M ++ kX0 E (a0 + n)) H locs → W p l e R s m args below meth c H locs (cells + 145) (slots + 1176) Q (F0 m (pc + 3) ls rest)) : W p l e R s m args below meth c H locs cells slots Q (F0 m pc ls (.ref (a0 + n) :: rest)) :=
  go_k (M' := M ++ kX0 E (a0 + n)) hL (run_I (rest := rest) (L1 := L0 ++ M) (M1 := [.inr (0, [.null, .int 0, .int 0])]) C0 hN0 hL (List.append_assoc _ _ _).symm (ha_of hn) (a1_of hL.2.2.2.1 hn) hl lkI_X0_init (k_X0_init C0.2.2.2.2 sz (a0 + n) (L0 ++ M)) ⟨hR1, hR2⟩ hls rfl hrest d ⟨hf1, hf2⟩) (List.append_assoc _ _ _) (hb_of hn) kk
