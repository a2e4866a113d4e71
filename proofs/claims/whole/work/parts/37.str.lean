/-! String.length and String.charAt of the nine constants. -/
theorem shr0 (x : Int32) : x >>> ((0 : Int32) &&& 31) = x := by
  have h : (0 : Int32) &&& 31 = 0 := by decide
  rw [h]
  exact Int32.shiftRight_zero
section
variable {p : Program} {l : Launch} {e : Env} {R : Room} {s : State} {m : MethodId} {args : Array Value} {below : List Frame} {meth : Method} {c : Code} {H : Heap} {locs : List Loc} {Q : State → Prop}
variable {E : EnvT} {cc : ByteArray} {nL : Nat} {own : String} {ret ret0 : Option FieldType} {σ σ' : Mem} {pc : Nat} {ls : Array Slot} {rest : List Value} {k w : Nat} {y : MethodName} {bytes : ByteArray} {maxL index n h h0 : Nat} {As st : List Value}
theorem va_run_VS {Qc : Array Value → State → Outcome → State → Prop} (C0 : Cx E p m c cc nL s args own meth ret0) (hH : Hs E s σ H locs) (L : LkV own index RJ0 y bytes maxL ret n) (hM : Met l y (wsM y bytes maxL ret) (rmD h) (PcM E (.ref (eK E w) :: As) σ) Qc 0 0 (eA E)) (hh : h + 1 ≤ h0) (hw : w < 9) (hn : As.length = n) (hls : ls.size = nL) (hst : st = As.reverse ++ .ref (eK E w) :: rest) (hrest : (rest.map fun v => v.category).sum ≤ 8) (d : decode cc pc = .ok (.invokevirtual index, 3)) :
    va_Run p l e (rmD h0) s m args below meth c H locs 0 0 0 0 (F0 m pc ls st) rest (Qc (Value.ref (eK E w) :: As).toArray) (eA E) := by
  obtain ⟨⟨hx, hb, hml, hown, hts⟩, hr, hlocks, hF, hA⟩ := C0
  obtain ⟨l1, l2, l3, l4, l5, l6, l7, l8, l9⟩ := L
  have cw : CallW (rmD h0) s args own RJ0 index y bytes maxL ret (wsM y bytes maxL ret) (rmD h) 0 0 n := ⟨callB_of n hts (wsM_good l5) rfl rfl rfl (hts _ l4) (hts _ l1) ⟨l6, l7, l8⟩ ⟨hh, by show 8 + (maxL + 11) + 64 * h ≤ 64 * h0; omega⟩, hts _ l2, hts _ l3⟩
  have hp : PreV s H RJ0 (eK E w) (PcM E (.ref (eK E w) :: As) σ) As := ⟨PcM_blind _ _, vk_recv hF.2.2.2.1 hw hH.2, PcM_at hF hH _⟩
  exact va_runV ⟨hx, hb, hml, hown, hts⟩ hM cw hp rfl hn hls hst (lv_room hrest) d ⟨Nat.zero_le _, Nat.zero_le _⟩
end
theorem lk_J0_335 : LkV RJ0 335 RJ0 yJ0_coder_7d493 cJ0_coder_7d493 1 (some .byte) 0 := ⟨qM_J0_335, qI_J0_coder_7d493, qS_J0_coder_7d493, qi_J0, qC_J0_coder_7d493, by decide +kernel, by decide +kernel, by decide +kernel, by decide⟩
theorem lk_J0_492 : LkV RJ0 492 RJ0 yJ0_isLatin1_aae02 cJ0_isLatin1_aae02 1 (some .boolean) 0 := ⟨qM_J0_492, qI_J0_isLatin1_aae02, qS_J0_isLatin1_aae02, qi_J0, qC_J0_isLatin1_aae02, by decide +kernel, by decide +kernel, by decide +kernel, by decide⟩
theorem lk_J0_495 : LkS RJ0 495 yJ1_charAt_3b067 cJ1_charAt_3b067 2 (some .char) 2 := ⟨qM_J0_495, qT_J1_charAt_3b067, qi_J1, qC_J1_charAt_3b067, by decide +kernel, by decide +kernel, by decide +kernel, by decide⟩
theorem lk_J1_9 : LkS RJ1 9 yJ0_checkIndex_df160 cJ0_checkIndex_df160 2 none 2 := ⟨qM_J1_9, qT_J0_checkIndex_df160, qi_J0, qC_J0_checkIndex_df160, by decide +kernel, by decide +kernel, by decide +kernel, by decide⟩
theorem lk_J0_1059 : LkS RJ0 1059 yJ3_checkIndex_8e157 cJ3_checkIndex_8e157 3 (some .int) 3 := ⟨qM_J0_1059, qT_J3_checkIndex_8e157, qi_J3, qC_J3_checkIndex_8e157, by decide +kernel, by decide +kernel, by decide +kernel, by decide⟩
theorem lk_X10_len : LkV RX10 23 RJ0 yJ0_length_8abf5 cJ0_length_8abf5 1 (some .int) 0 := ⟨qM_X10_23, qI_J0_length_8abf5, qS_J0_length_8abf5, qi_J0, qC_J0_length_8abf5, by decide +kernel, by decide +kernel, by decide +kernel, by decide⟩
theorem lk_X10_ch : LkV RX10 28 RJ0 yJ0_charAt_5068e cJ0_charAt_5068e 2 (some .char) 1 := ⟨qM_X10_28, qI_J0_charAt_5068e, qS_J0_charAt_5068e, qi_J0, qC_J0_charAt_5068e, by decide +kernel, by decide +kernel, by decide +kernel, by decide⟩
theorem c_J0_coder {l : Launch} {E : EnvT} (hAd : Ad E) (w : Nat) (hw : w < 9) (σ : Mem) : Met l yJ0_coder_7d493 (wsM yJ0_coder_7d493 cJ0_coder_7d493 1 (some .byte)) (rmD 0) (PcM E [.ref (eK E w)] σ) (QiM E 0 σ) 0 0 (eA E) :=
  Met.ofM (by decide) (Nat.le_of_ble_eq_true rfl) (fun p e s m below meth c ls C0 hH hl => by
    obtain ⟨⟨hx, hb, hml, hown, hts⟩, hr, hlocks, hF, hAd⟩ := id C0
    refine va_gets hx hb hF.2.2.2.2.2.1 hH.2 hown (hts _ qF_J0_38) (fun _ h => h) dJ0_coder_7d493_0 ?_
    refine lv_if_eq (tgt := 13) hx hb dJ0_coder_7d493_3 (by decide) (fun c1 => absurd c1 (by decide)) (fun _ => ?_)
    refine lv_aload_n hx hb dJ0_coder_7d493_6 rfl (lv_at hl 0 rfl) ?_
    refine vk_getf hx hb (hF.2.2.2.1.1 w hw).2.1 hH.2 hown (hts _ qF_J0_15) (fun _ h => h) dJ0_coder_7d493_7 ?_
    refine lv_goto (tgt := 14) hx hb dJ0_coder_7d493_10 (by decide) ?_
    exact r_zret C0 rfl hH rfl rfl dJ0_coder_7d493_14) hAd
theorem c_J0_length {l : Launch} {E : EnvT} (hAd : Ad E) (w : Nat) (hw : w < 9) (σ : Mem) : Met l yJ0_length_8abf5 (wsM yJ0_length_8abf5 cJ0_length_8abf5 1 (some .int)) (rmD 1) (PcM E [.ref (eK E w)] σ) (QiM E (stLn w) σ) 0 0 (eA E) :=
  Met.ofM (by decide) (Nat.le_of_ble_eq_true rfl) (fun p e s m below meth c ls C0 hH hl => by
    obtain ⟨⟨hx, hb, hml, hown, hts⟩, hr, hlocks, hF, hAd⟩ := id C0
    refine lv_aload_n hx hb dJ0_length_8abf5_0 rfl (lv_at hl 0 rfl) ?_
    refine vk_getf hx hb (hF.2.2.2.1.1 w hw).2.2.1 hH.2 hown (hts _ qF_J0_9) (fun _ h => h) dJ0_length_8abf5_1 ?_
    refine va_tlen (v := stLn w) hx hb (hF.2.2.2.1.1 w hw).2.2.2 hH.2 rfl dJ0_length_8abf5_4 ?_
    refine lv_aload_n hx hb dJ0_length_8abf5_5 rfl (lv_at hl 0 rfl) ?_
    refine go_i hH (va_run_VS (As := []) (rest := [.int (stLn w)]) C0 hH lk_J0_335 (c_J0_coder hAd w hw σ) (by decide) hw rfl hl.1 rfl (Nat.le_of_ble_eq_true rfl) dJ0_length_8abf5_6) (fun H locs hH => ?_)
    refine lv_ishr hx hb dJ0_length_8abf5_9 ?_
    exact r_iret C0 hH (shr0 _) rfl dJ0_length_8abf5_10) hAd
theorem c_J0_isLatin1 {l : Launch} {E : EnvT} (hAd : Ad E) (w : Nat) (hw : w < 9) (σ : Mem) : Met l yJ0_isLatin1_aae02 (wsM yJ0_isLatin1_aae02 cJ0_isLatin1_aae02 1 (some .boolean)) (rmD 0) (PcM E [.ref (eK E w)] σ) (QiM E 1 σ) 0 0 (eA E) :=
  Met.ofM (by decide) (Nat.le_of_ble_eq_true rfl) (fun p e s m below meth c ls C0 hH hl => by
    obtain ⟨⟨hx, hb, hml, hown, hts⟩, hr, hlocks, hF, hAd⟩ := id C0
    refine va_gets hx hb hF.2.2.2.2.2.1 hH.2 hown (hts _ qF_J0_38) (fun _ h => h) dJ0_isLatin1_aae02_0 ?_
    refine lv_if_eq (tgt := 17) hx hb dJ0_isLatin1_aae02_3 (by decide) (fun c1 => absurd c1 (by decide)) (fun _ => ?_)
    refine lv_aload_n hx hb dJ0_isLatin1_aae02_6 rfl (lv_at hl 0 rfl) ?_
    refine vk_getf hx hb (hF.2.2.2.1.1 w hw).2.1 hH.2 hown (hts _ qF_J0_15) (fun _ h => h) dJ0_isLatin1_aae02_7 ?_
    refine lv_if_ne (tgt := 17) hx hb dJ0_isLatin1_aae02_10 (by decide) (fun c1 => absurd rfl c1) (fun _ => ?_)
    refine lv_iconst (v := 1) hx hb dJ0_isLatin1_aae02_13 (by decide) ?_
    refine lv_goto (tgt := 18) hx hb dJ0_isLatin1_aae02_14 (by decide) ?_
    exact r_zret C0 rfl hH rfl rfl dJ0_isLatin1_aae02_18) hAd
theorem c_J3_checkIndex {l : Launch} {E : EnvT} (hAd : Ad E) (i n : Int32) (v : Value) (hv : v.category = 1) (hi : ¬ i < 0) (hn : i < n) (σ : Mem) : Met l yJ3_checkIndex_8e157 (wsM yJ3_checkIndex_8e157 cJ3_checkIndex_8e157 3 (some .int)) (rmD 0) (PcM E [.int i, .int n, v] σ) (QiM E i σ) 0 0 (eA E) :=
  Met.ofM (by decide) (by cases v <;> first | (cases hv; done) | exact Nat.le_of_ble_eq_true rfl) (fun p e s m below meth c ls C0 hH hl => by
    obtain ⟨⟨hx, hb, hml, hown, hts⟩, hr, hlocks, hF, hAd⟩ := id C0
    refine lv_iload_n hx hb dJ3_checkIndex_8e157_0 rfl (lv_at hl 0 rfl) ?_
    refine lv_if_lt (tgt := 9) hx hb dJ3_checkIndex_8e157_1 (by decide) (fun c1 => absurd c1 hi) (fun _ => ?_)
    refine lv_iload_n hx hb dJ3_checkIndex_8e157_4 rfl (lv_at hl 0 rfl) ?_
    refine lv_iload_n hx hb dJ3_checkIndex_8e157_5 rfl (lv_at hl 1 rfl) ?_
    refine lv_icmp_lt (tgt := 16) hx hb dJ3_checkIndex_8e157_6 (by decide) (fun _ => ?_) (fun c1 => absurd hn c1)
    refine lv_iload_n hx hb dJ3_checkIndex_8e157_16 rfl (lv_at hl 0 rfl) ?_
    exact r_iret C0 hH rfl rfl dJ3_checkIndex_8e157_17) hAd
theorem c_J0_checkIndex {l : Launch} {E : EnvT} (hAd : Ad E) (i n : Int32) (hi : ¬ i < 0) (hn : i < n) (σ : Mem) : Met l yJ0_checkIndex_df160 (wsM yJ0_checkIndex_df160 cJ0_checkIndex_df160 2 none) (rmD 1) (PcM E [.int i, .int n] σ) (QvM E σ) 0 0 (eA E) :=
  Met.ofM (by decide) (Nat.le_of_ble_eq_true rfl) (fun p e s m below meth c ls C0 hH hl => by
    obtain ⟨⟨hx, hb, hml, hown, hts⟩, hr, hlocks, hF, hAd⟩ := id C0
    refine lv_iload_n hx hb dJ0_checkIndex_df160_0 rfl (lv_at hl 0 rfl) ?_
    refine lv_iload_n hx hb dJ0_checkIndex_df160_1 rfl (lv_at hl 1 rfl) ?_
    obtain ⟨v, hv, hZ⟩ : ∃ v : Value, v.category = 1 ∧ va_Z "jdk/internal/util/Preconditions" "SIOOBE_FORMATTER" "Ljava/util/function/BiFunction;" v (eA E) s s.heap := by
      rcases hF.2.2.2.2.2.2.1 with h | ⟨t, h⟩
      · exact ⟨_, rfl, h⟩
      · exact ⟨_, rfl, h⟩
    refine va_gets hx hb hZ hH.2 hown (hts _ qF_J0_1053) (fun _ h => h) dJ0_checkIndex_df160_2 ?_
    refine go_i hH (va_run_S (As := [.int i, .int n, v]) (rest := []) C0 hH lk_J0_1059 (c_J3_checkIndex hAd i n v hv hi hn σ) (by decide) rfl hl.1 rfl (Nat.le_of_ble_eq_true rfl) dJ0_checkIndex_df160_5) (fun H locs hH => ?_)
    refine lv_pop hx hb dJ0_checkIndex_df160_8 rfl ?_
    exact r_vret C0 hH rfl dJ0_checkIndex_df160_9) hAd
theorem st_fact : ∀ w, w < 9 → ∀ j, j < stLN w → i2c (stCh w j &&& 255) = stCh w j ∧ stLN w < 9 := by decide +kernel
theorem vin_lt {i : Int32} {n : Nat} (hi : vp_in i n) (hn : n < 2 ^ 31) : ¬ i < 0 ∧ i < Int32.ofNat n := by
  have h1 : ¬ i < 0 := fun q => hi (Or.inl q)
  have h2 : i.toNatClampNeg < n := Nat.not_le.mp fun q => hi (Or.inr q)
  refine ⟨h1, ?_⟩
  rw [Int32.lt_iff_toInt_lt, Int32.toInt_ofNat_of_lt hn]
  have h3 : (0 : Int) ≤ i.toInt := by
    have := Int32.not_lt.mp h1
    simpa using Int32.le_iff_toInt_le.mp this
  have h4 : (i.toNatClampNeg : Int) = i.toInt := by
    show ((i.toInt.toNat : Nat) : Int) = i.toInt
    omega
  omega
theorem stLN_lt : ∀ w, stLN w < 2 ^ 31 := by
  intro w
  have : ∀ w, w < 9 → stLN w < 9 := by decide +kernel
  rcases Nat.lt_or_ge w 9 with h | h
  · have := this w h
    omega
  · unfold stLN
    rw [List.getD_eq_getElem?_getD, List.getElem?_eq_none (by show 9 ≤ w; exact h)]
    decide
theorem c_J1_charAt {l : Launch} {E : EnvT} (hAd : Ad E) (w : Nat) (hw : w < 9) (i : Int32) (hi : vp_in i (stLN w)) (σ : Mem) : Met l yJ1_charAt_3b067 (wsM yJ1_charAt_3b067 cJ1_charAt_3b067 2 (some .char)) (rmD 2) (PcM E [.ref (eV E w), .int i] σ) (QiM E (stCh w (nc i)) σ) 0 0 (eA E) :=
  Met.ofM (by decide) (Nat.le_of_ble_eq_true rfl) (fun p e s m below meth c ls C0 hH hl => by
    obtain ⟨⟨hx, hb, hml, hown, hts⟩, hr, hlocks, hF, hAd⟩ := id C0
    obtain ⟨h1, h2⟩ := vin_lt hi (stLN_lt w)
    refine lv_iload_n hx hb dJ1_charAt_3b067_0 rfl (lv_at hl 1 rfl) ?_
    refine lv_aload_n hx hb dJ1_charAt_3b067_1 rfl (lv_at hl 0 rfl) ?_
    refine va_tlen (v := stLn w) hx hb (hF.2.2.2.1.1 w hw).2.2.2 hH.2 rfl dJ1_charAt_3b067_2 ?_
    refine go_v hH (va_run_S (As := [.int i, .int (stLn w)]) (rest := []) C0 hH lk_J1_9 (c_J0_checkIndex hAd i (stLn w) h1 h2 σ) (by decide) rfl hl.1 rfl (Nat.le_of_ble_eq_true rfl) dJ1_charAt_3b067_3) (fun H locs hH => ?_)
    refine lv_aload_n hx hb dJ1_charAt_3b067_6 rfl (lv_at hl 0 rfl) ?_
    refine lv_iload_n hx hb dJ1_charAt_3b067_7 rfl (lv_at hl 1 rfl) ?_
    refine va_tb (v := .int (stCh w (nc i))) hx hb (hF.2.2.2.1.1 w hw).2.2.2 hH.2 hi rfl dJ1_charAt_3b067_8 ?_
    refine lv_sipush (v := 255) hx hb dJ1_charAt_3b067_9 (by decide) ?_
    refine lv_iand hx hb dJ1_charAt_3b067_12 ?_
    refine lv_i2c (v := stCh w (nc i)) hx hb dJ1_charAt_3b067_13 (st_fact w hw (nc i) (Nat.not_le.mp fun q => hi (Or.inr q))).1 ?_
    refine r_zret C0 ?_ hH rfl rfl dJ1_charAt_3b067_14
    rw [← (st_fact w hw (nc i) (Nat.not_le.mp fun q => hi (Or.inr q))).1]
    exact (show ∀ w, w < 9 → ∀ j, j < stLN w → narrow .char (.int (i2c (stCh w j &&& 255))) = .int (i2c (stCh w j &&& 255)) by decide +kernel) w hw (nc i) (Nat.not_le.mp fun q => hi (Or.inr q))) hAd
theorem c_J0_charAt {l : Launch} {E : EnvT} (hAd : Ad E) (w : Nat) (hw : w < 9) (i : Int32) (hi : vp_in i (stLN w)) (σ : Mem) : Met l yJ0_charAt_5068e (wsM yJ0_charAt_5068e cJ0_charAt_5068e 2 (some .char)) (rmD 3) (PcM E [.ref (eK E w), .int i] σ) (QiM E (stCh w (nc i)) σ) 0 0 (eA E) :=
  Met.ofM (by decide) (Nat.le_of_ble_eq_true rfl) (fun p e s m below meth c ls C0 hH hl => by
    obtain ⟨⟨hx, hb, hml, hown, hts⟩, hr, hlocks, hF, hAd⟩ := id C0
    refine lv_aload_n hx hb dJ0_charAt_5068e_0 rfl (lv_at hl 0 rfl) ?_
    refine go_i hH (va_run_VS (As := []) (rest := []) C0 hH lk_J0_492 (c_J0_isLatin1 hAd w hw σ) (by decide) hw rfl hl.1 rfl (Nat.le_of_ble_eq_true rfl) dJ0_charAt_5068e_1) (fun H locs hH => ?_)
    refine lv_if_eq (tgt := 16) hx hb dJ0_charAt_5068e_4 (by decide) (fun c1 => absurd c1 (by decide)) (fun _ => ?_)
    refine lv_aload_n hx hb dJ0_charAt_5068e_7 rfl (lv_at hl 0 rfl) ?_
    refine vk_getf hx hb (hF.2.2.2.1.1 w hw).2.2.1 hH.2 hown (hts _ qF_J0_9) (fun _ h => h) dJ0_charAt_5068e_8 ?_
    refine lv_iload_n hx hb dJ0_charAt_5068e_11 rfl (lv_at hl 1 rfl) ?_
    refine go_i hH (va_run_S (As := [.ref (eV E w), .int i]) (rest := []) C0 hH lk_J0_495 (c_J1_charAt hAd w hw i hi σ) (by decide) rfl hl.1 rfl (Nat.le_of_ble_eq_true rfl) dJ0_charAt_5068e_12) (fun H locs hH => ?_)
    refine r_zret C0 ?_ hH rfl rfl dJ0_charAt_5068e_15
    rw [← (st_fact w hw (nc i) (Nat.not_le.mp fun q => hi (Or.inr q))).1]
    exact (show ∀ w, w < 9 → ∀ j, j < stLN w → narrow .char (.int (i2c (stCh w j &&& 255))) = .int (i2c (stCh w j &&& 255)) by decide +kernel) w hw (nc i) (Nat.not_le.mp fun q => hi (Or.inr q))) hAd
section
variable {p : Program} {l : Launch} {e : Env} {s : State} {m : MethodId} {args : Array Value} {below : List Frame} {meth : Method} {c : Code} {H : Heap} {locs : List Loc} {Q : State → Prop}
variable {E : EnvT} {cc : ByteArray} {nL : Nat} {ret0 : Option FieldType} {σ : Mem} {pc : Nat} {ls : Array Slot} {rest : List Value} {w : Nat}
theorem r_strlen (C0 : Cx E p m c cc nL s args RX10 meth ret0) (hH : Hs E s σ H locs) (hw : w < 9) (hls : ls.size = nL) (hrest : (rest.map fun v => v.category).sum ≤ 8) (d : decode cc pc = .ok (.invokevirtual 23, 3)) (kk : ∀ (H : Heap) (locs : List Loc), Hs E s σ H locs → W p l e (rmD 5) s m args below meth c H locs 0 0 Q (F0 m (pc + 3) ls (.int (stLn w) :: rest))) : W p l e (rmD 5) s m args below meth c H locs 0 0 Q (F0 m pc ls (.ref (eK E w) :: rest)) :=
  go_i hH (va_run_VS (As := []) (rest := rest) C0 hH lk_X10_len (c_J0_length C0.2.2.2.2 w hw σ) (by decide) hw rfl hls rfl hrest d) kk
theorem r_strch (C0 : Cx E p m c cc nL s args RX10 meth ret0) (hH : Hs E s σ H locs) (hw : w < 9) (hls : ls.size = nL) (hrest : (rest.map fun v => v.category).sum ≤ 8) {i : Int32} (hi : vp_in i (stLN w)) (d : decode cc pc = .ok (.invokevirtual 28, 3)) (kk : ∀ (H : Heap) (locs : List Loc), Hs E s σ H locs → W p l e (rmD 5) s m args below meth c H locs 0 0 Q (F0 m (pc + 3) ls (.int (stCh w (nc i)) :: rest))) : W p l e (rmD 5) s m args below meth c H locs 0 0 Q (F0 m pc ls (.int i :: .ref (eK E w) :: rest)) :=
  go_i hH (va_run_VS (As := [.int i]) (rest := rest) C0 hH lk_X10_ch (c_J0_charAt C0.2.2.2.2 w hw i hi σ) (by decide) hw rfl hls rfl hrest d) kk
end
