theorem TX0_0 : TX0 0 = (RX0, "before", "[LHandsInBook$Book;", true) := rfl
theorem TX0_1 : TX0 1 = (RX0, "oldest", "I", false) := rfl
theorem TX0_2 : TX0 2 = (RX0, "many", "I", false) := rfl
theorem TX1_0 : TX1 0 = (RX1, "numbers", "[I", true) := rfl
theorem TX1_1 : TX1 1 = (RX1, "traced", "I", false) := rfl
theorem TX1_2 : TX1 2 = (RX1, "number", "I", false) := rfl
theorem TX1_3 : TX1 3 = (RX1, "handOfIt", "I", false) := rfl
theorem TX1_4 : TX1 4 = (RX1, "kindOfIt", "I", false) := rfl
theorem TX1_5 : TX1 5 = (RX1, "slantOfIt", "I", false) := rfl
theorem TX2_0 : TX2 0 = (RX2, "pages", "I", false) := rfl
theorem TX2_1 : TX2 1 = (RX2, "limit", "I", false) := rfl
theorem TX2_2 : TX2 2 = (RX2, "change", "I", false) := rfl
theorem TX2_3 : TX2 3 = (RX2, "kinds", "[I", true) := rfl
theorem TX2_4 : TX2 4 = (RX2, "measures", "[[I", true) := rfl
theorem TX3_0 : TX3 0 = (RX3, "trial", "LHandsInBook$Book;", true) := rfl
theorem TX3_1 : TX3 1 = (RX3, "hands", "LHandsInBook$Hands;", true) := rfl
theorem TX3_2 : TX3 2 = (RX3, "told", "[I", true) := rfl
theorem TX3_3 : TX3 3 = (RX3, "tellings", "I", false) := rfl
theorem TX3_4 : TX3 4 = (RX3, "fewest", "[I", true) := rfl
theorem TX3_5 : TX3 5 = (RX3, "setsOfSize", "[I", true) := rfl
theorem TX4_0 : TX4 0 = (RX4, "hands", "LHandsInBook$Hands;", true) := rfl
theorem TX4_1 : TX4 1 = (RX4, "runs", "LHandsInBook$Runs;", true) := rfl
theorem TX4_2 : TX4 2 = (RX4, "groupOf", "[I", true) := rfl
theorem TX4_3 : TX4 3 = (RX4, "joint", "[[I", true) := rfl
theorem TX4_4 : TX4 4 = (RX4, "groups", "I", false) := rfl
theorem TX4_5 : TX4 5 = (RX4, "doubts", "I", false) := rfl
theorem TX4_6 : TX4 6 = (RX4, "written", "[I", true) := rfl
theorem TX4_7 : TX4 7 = (RX4, "length", "I", false) := rfl
theorem TX5_0 : TX5 0 = (RX5, "pages", "I", false) := rfl
theorem TX5_1 : TX5 1 = (RX5, "gap", "[[I", true) := rfl
theorem TX5_2 : TX5 2 = (RX5, "near", "[I", true) := rfl
theorem TX6_0 : TX6 0 = (RX6, "gaps", "LHandsInBook$Gaps;", true) := rfl
theorem TX6_1 : TX6 1 = (RX6, "handOf", "[I", true) := rfl
theorem TX6_2 : TX6 2 = (RX6, "pagesOf", "[I", true) := rfl
theorem TX6_3 : TX6 3 = (RX6, "many", "I", false) := rfl
theorem TX7_0 : TX7 0 = (RX7, "draft", "LHandsInBook$Book;", true) := rfl
theorem TX7_1 : TX7 1 = (RX7, "at", "I", false) := rfl
theorem TX7_2 : TX7 2 = (RX7, "fault", "I", false) := rfl
theorem TX8_0 : TX8 0 = (RX8, "items", "[[I", true) := rfl
theorem TX8_1 : TX8 1 = (RX8, "lanes", "[I", true) := rfl
theorem TX8_2 : TX8 2 = (RX8, "sizes", "[I", true) := rfl
theorem TX9_0 : TX9 0 = (RX9, "weights", "[I", true) := rfl
theorem TX9_1 : TX9 1 = (RX9, "fewest", "[I", true) := rfl
theorem TX9_2 : TX9 2 = (RX9, "nexts", "[I", true) := rfl
theorem TX9_3 : TX9 3 = (RX9, "firsts", "[I", true) := rfl
theorem TX9_4 : TX9 4 = (RX9, "runOf", "[I", true) := rfl
theorem TX9_5 : TX9 5 = (RX9, "many", "I", false) := rfl
theorem TX10_0 : TX10 0 = (RX10, "bytes", "[I", true) := rfl
theorem TX10_1 : TX10 1 = (RX10, "length", "I", false) := rfl
theorem TX11_0 : TX11 0 = (RX11, "rows", "LHandsInBook$Rows;", true) := rfl
theorem TX11_1 : TX11 1 = (RX11, "tape", "LHandsInBook$Tape;", true) := rfl
theorem TX11_2 : TX11 2 = (RX11, "reader", "LHandsInBook$Reader;", true) := rfl
theorem TX11_3 : TX11 3 = (RX11, "current", "LHandsInBook$Book;", true) := rfl
theorem TX11_4 : TX11 4 = (RX11, "acts", "LHandsInBook$Acts;", true) := rfl
theorem TX11_5 : TX11 5 = (RX11, "images", "[LHandsInBook$Book;", true) := rfl
theorem TX11_6 : TX11 6 = (RX11, "found", "LHandsInBook$Found;", true) := rfl
theorem TX11_7 : TX11 7 = (RX11, "foretold", "LHandsInBook$Foretold;", true) := rfl
theorem TX11_8 : TX11 8 = (RX11, "asks", "LHandsInBook$Asks;", true) := rfl
theorem TX11_9 : TX11 9 = (RX11, "fresh", "Z", false) := rfl
theorem TX11_10 : TX11 10 = (RX11, "latestFault", "I", false) := rfl
theorem TX11_11 : TX11 11 = (RX11, "finding", "I", false) := rfl
theorem TX12_0 : TX12 0 = (RX12, "status", "I", false) := rfl
theorem TX12_1 : TX12 1 = (RX12, "lane", "[I", true) := rfl
theorem TX12_2 : TX12 2 = (RX12, "many", "[I", true) := rfl
theorem TX12_3 : TX12 3 = (RX12, "item", "[I", true) := rfl
theorem TX12_4 : TX12 4 = (RX12, "book", "[I", true) := rfl
theorem TX12_5 : TX12 5 = (RX12, "fresh", "[I", true) := rfl
theorem TX12_6 : TX12 6 = (RX12, "then", "[I", true) := rfl
theorem TX12_7 : TX12 7 = (RX12, "was", "[I", true) := rfl
theorem TX12_8 : TX12 8 = (RX12, "acts", "I", false) := rfl
theorem TX12_9 : TX12 9 = (RX12, "tape", "[I", true) := rfl
theorem TX12_10 : TX12 10 = (RX12, "taped", "I", false) := rfl
theorem TX12_11 : TX12 11 = (RX12, "cursor", "I", false) := rfl
theorem TX12_12 : TX12 12 = (RX12, "start", "I", false) := rfl
theorem TX12_13 : TX12 13 = (RX12, "token", "I", false) := rfl
theorem TX12_14 : TX12 14 = (RX12, "value", "I", false) := rfl
theorem TX12_15 : TX12 15 = (RX12, "fault", "I", false) := rfl
theorem TX12_16 : TX12 16 = (RX12, "faultAt", "I", false) := rfl
theorem TX12_17 : TX12 17 = (RX12, "latest", "I", false) := rfl
theorem TX12_18 : TX12 18 = (RX12, "group", "[I", true) := rfl
theorem TX12_19 : TX12 19 = (RX12, "near", "[I", true) := rfl
theorem TX12_20 : TX12 20 = (RX12, "left", "[I", true) := rfl
theorem TX12_21 : TX12 21 = (RX12, "with", "[I", true) := rfl
theorem TX12_22 : TX12 22 = (RX12, "hand", "[I", true) := rfl
theorem TX12_23 : TX12 23 = (RX12, "tried", "[I", true) := rfl
theorem TX12_24 : TX12 24 = (RX12, "begins", "[I", true) := rfl
theorem TX12_25 : TX12 25 = (RX12, "weight", "I", false) := rfl
theorem TX12_26 : TX12 26 = (RX12, "sign", "[I", true) := rfl
theorem TX12_27 : TX12 27 = (RX12, "signs", "I", false) := rfl
theorem TX12_28 : TX12 28 = (RX12, "isKept", "[Z", true) := rfl
theorem TX12_29 : TX12 29 = (RX12, "kept", "[I", true) := rfl
theorem TX12_30 : TX12 30 = (RX12, "trace", "[I", true) := rfl
theorem TX12_31 : TX12 31 = (RX12, "traced", "I", false) := rfl
set_option maxRecDepth 100000 in
set_option maxHeartbeats 4000000 in
theorem k_fill8 {l : Launch} {E : EnvT} (hAd : Ad E) (sz a0 : Nat) (L0 : List va_E) : Met l yJ7_fill_53178 (wsM yJ7_fill_53178 cJ7_fill_53178 4 none) (rmK 0 0 0) (va_Pc [.ref a0, .int (-1)] (PcK E sz a0 L0 [.inl (eC E 0, 8, .inl (fun _ => 0))])) (QvK E sz a0 L0 [.inl (eC E 0, 8, .inl (fun _ => -1))]) 0 0 (eA E) :=
  Met.ofKS (by decide) (Nat.le_of_ble_eq_true rfl) hAd (fun p e s m below meth c ls C0 hN0 hL hl => by
    obtain ⟨⟨hx, hb, hml, hown, hts⟩, hr, hlocks, hF, hAd⟩ := id C0
    refine lv_iconst (v := 0) hx hb dJ7_fill_53178_0 (by decide) ?_
    refine lv_istore_n (lv' := [(2, .int 0), (0, .ref a0), (1, .int (-1))]) hx hb dJ7_fill_53178_1 rfl hl (by decide) rfl (fun ls hl => ?_)
    refine lv_aload_n hx hb dJ7_fill_53178_2 rfl (lv_at hl 1 rfl) ?_
    refine k_alen (v := 8) (f := (fun _ => 0)) C0 hL 0 (N := 8) rfl (by decide) dJ7_fill_53178_3 ?_
    refine lv_istore_n (lv' := [(3, .int 8), (2, .int 0), (0, .ref a0), (1, .int (-1))]) hx hb dJ7_fill_53178_4 rfl hl (by decide) rfl (fun ls hl => ?_)
    refine lv_iload_n hx hb dJ7_fill_53178_5 rfl (lv_at hl 1 rfl) ?_
    refine lv_iload_n hx hb dJ7_fill_53178_6 rfl (lv_at hl 0 rfl) ?_
    refine lv_icmp_ge (tgt := 20) hx hb dJ7_fill_53178_7 (by decide) (fun c1 => absurd c1 (by decide)) (fun _ => ?_)
    refine lv_aload_n hx hb dJ7_fill_53178_10 rfl (lv_at hl 2 rfl) ?_
    refine lv_iload_n hx hb dJ7_fill_53178_11 rfl (lv_at hl 1 rfl) ?_
    refine lv_iload_n hx hb dJ7_fill_53178_12 rfl (lv_at hl 3 rfl) ?_
    refine k_iast (M' := [.inl (eC E 0, 8, .inl (upd (fun _ => 0) (nc 0) (-1)))]) C0 hL 0 (N := 8) (f := (fun _ => 0)) rfl (vin (by decide)) rfl dJ7_fill_53178_13 (fun H locs hL => ?_)
    refine lv_iinc (v := 1) (lv' := [(2, .int 1), (3, .int 8), (0, .ref a0), (1, .int (-1))]) hx hb dJ7_fill_53178_14 hl (k := 1) rfl (by decide) (by decide) rfl (fun ls hl => ?_)
    refine lv_goto (tgt := 5) hx hb dJ7_fill_53178_17 (by decide) ?_
    refine lv_iload_n hx hb dJ7_fill_53178_5 rfl (lv_at hl 0 rfl) ?_
    refine lv_iload_n hx hb dJ7_fill_53178_6 rfl (lv_at hl 1 rfl) ?_
    refine lv_icmp_ge (tgt := 20) hx hb dJ7_fill_53178_7 (by decide) (fun c1 => absurd c1 (by decide)) (fun _ => ?_)
    refine lv_aload_n hx hb dJ7_fill_53178_10 rfl (lv_at hl 2 rfl) ?_
    refine lv_iload_n hx hb dJ7_fill_53178_11 rfl (lv_at hl 0 rfl) ?_
    refine lv_iload_n hx hb dJ7_fill_53178_12 rfl (lv_at hl 3 rfl) ?_
    refine k_iast (M' := [.inl (eC E 0, 8, .inl (upd (upd (fun _ => 0) (nc 0) (-1)) (nc 1) (-1)))]) C0 hL 0 (N := 8) (f := (upd (fun _ => 0) (nc 0) (-1))) rfl (vin (by decide)) rfl dJ7_fill_53178_13 (fun H locs hL => ?_)
    refine lv_iinc (v := 2) (lv' := [(2, .int 2), (3, .int 8), (0, .ref a0), (1, .int (-1))]) hx hb dJ7_fill_53178_14 hl (k := 0) rfl (by decide) (by decide) rfl (fun ls hl => ?_)
    refine lv_goto (tgt := 5) hx hb dJ7_fill_53178_17 (by decide) ?_
    refine lv_iload_n hx hb dJ7_fill_53178_5 rfl (lv_at hl 0 rfl) ?_
    refine lv_iload_n hx hb dJ7_fill_53178_6 rfl (lv_at hl 1 rfl) ?_
    refine lv_icmp_ge (tgt := 20) hx hb dJ7_fill_53178_7 (by decide) (fun c1 => absurd c1 (by decide)) (fun _ => ?_)
    refine lv_aload_n hx hb dJ7_fill_53178_10 rfl (lv_at hl 2 rfl) ?_
    refine lv_iload_n hx hb dJ7_fill_53178_11 rfl (lv_at hl 0 rfl) ?_
    refine lv_iload_n hx hb dJ7_fill_53178_12 rfl (lv_at hl 3 rfl) ?_
    refine k_iast (M' := [.inl (eC E 0, 8, .inl (upd (upd (upd (fun _ => 0) (nc 0) (-1)) (nc 1) (-1)) (nc 2) (-1)))]) C0 hL 0 (N := 8) (f := (upd (upd (fun _ => 0) (nc 0) (-1)) (nc 1) (-1))) rfl (vin (by decide)) rfl dJ7_fill_53178_13 (fun H locs hL => ?_)
    refine lv_iinc (v := 3) (lv' := [(2, .int 3), (3, .int 8), (0, .ref a0), (1, .int (-1))]) hx hb dJ7_fill_53178_14 hl (k := 0) rfl (by decide) (by decide) rfl (fun ls hl => ?_)
    refine lv_goto (tgt := 5) hx hb dJ7_fill_53178_17 (by decide) ?_
    refine lv_iload_n hx hb dJ7_fill_53178_5 rfl (lv_at hl 0 rfl) ?_
    refine lv_iload_n hx hb dJ7_fill_53178_6 rfl (lv_at hl 1 rfl) ?_
    refine lv_icmp_ge (tgt := 20) hx hb dJ7_fill_53178_7 (by decide) (fun c1 => absurd c1 (by decide)) (fun _ => ?_)
    refine lv_aload_n hx hb dJ7_fill_53178_10 rfl (lv_at hl 2 rfl) ?_
    refine lv_iload_n hx hb dJ7_fill_53178_11 rfl (lv_at hl 0 rfl) ?_
    refine lv_iload_n hx hb dJ7_fill_53178_12 rfl (lv_at hl 3 rfl) ?_
    refine k_iast (M' := [.inl (eC E 0, 8, .inl (upd (upd (upd (upd (fun _ => 0) (nc 0) (-1)) (nc 1) (-1)) (nc 2) (-1)) (nc 3) (-1)))]) C0 hL 0 (N := 8) (f := (upd (upd (upd (fun _ => 0) (nc 0) (-1)) (nc 1) (-1)) (nc 2) (-1))) rfl (vin (by decide)) rfl dJ7_fill_53178_13 (fun H locs hL => ?_)
    refine lv_iinc (v := 4) (lv' := [(2, .int 4), (3, .int 8), (0, .ref a0), (1, .int (-1))]) hx hb dJ7_fill_53178_14 hl (k := 0) rfl (by decide) (by decide) rfl (fun ls hl => ?_)
    refine lv_goto (tgt := 5) hx hb dJ7_fill_53178_17 (by decide) ?_
    refine lv_iload_n hx hb dJ7_fill_53178_5 rfl (lv_at hl 0 rfl) ?_
    refine lv_iload_n hx hb dJ7_fill_53178_6 rfl (lv_at hl 1 rfl) ?_
    refine lv_icmp_ge (tgt := 20) hx hb dJ7_fill_53178_7 (by decide) (fun c1 => absurd c1 (by decide)) (fun _ => ?_)
    refine lv_aload_n hx hb dJ7_fill_53178_10 rfl (lv_at hl 2 rfl) ?_
    refine lv_iload_n hx hb dJ7_fill_53178_11 rfl (lv_at hl 0 rfl) ?_
    refine lv_iload_n hx hb dJ7_fill_53178_12 rfl (lv_at hl 3 rfl) ?_
    refine k_iast (M' := [.inl (eC E 0, 8, .inl (upd (upd (upd (upd (upd (fun _ => 0) (nc 0) (-1)) (nc 1) (-1)) (nc 2) (-1)) (nc 3) (-1)) (nc 4) (-1)))]) C0 hL 0 (N := 8) (f := (upd (upd (upd (upd (fun _ => 0) (nc 0) (-1)) (nc 1) (-1)) (nc 2) (-1)) (nc 3) (-1))) rfl (vin (by decide)) rfl dJ7_fill_53178_13 (fun H locs hL => ?_)
    refine lv_iinc (v := 5) (lv' := [(2, .int 5), (3, .int 8), (0, .ref a0), (1, .int (-1))]) hx hb dJ7_fill_53178_14 hl (k := 0) rfl (by decide) (by decide) rfl (fun ls hl => ?_)
    refine lv_goto (tgt := 5) hx hb dJ7_fill_53178_17 (by decide) ?_
    refine lv_iload_n hx hb dJ7_fill_53178_5 rfl (lv_at hl 0 rfl) ?_
    refine lv_iload_n hx hb dJ7_fill_53178_6 rfl (lv_at hl 1 rfl) ?_
    refine lv_icmp_ge (tgt := 20) hx hb dJ7_fill_53178_7 (by decide) (fun c1 => absurd c1 (by decide)) (fun _ => ?_)
    refine lv_aload_n hx hb dJ7_fill_53178_10 rfl (lv_at hl 2 rfl) ?_
    refine lv_iload_n hx hb dJ7_fill_53178_11 rfl (lv_at hl 0 rfl) ?_
    refine lv_iload_n hx hb dJ7_fill_53178_12 rfl (lv_at hl 3 rfl) ?_
    refine k_iast (M' := [.inl (eC E 0, 8, .inl (upd (upd (upd (upd (upd (upd (fun _ => 0) (nc 0) (-1)) (nc 1) (-1)) (nc 2) (-1)) (nc 3) (-1)) (nc 4) (-1)) (nc 5) (-1)))]) C0 hL 0 (N := 8) (f := (upd (upd (upd (upd (upd (fun _ => 0) (nc 0) (-1)) (nc 1) (-1)) (nc 2) (-1)) (nc 3) (-1)) (nc 4) (-1))) rfl (vin (by decide)) rfl dJ7_fill_53178_13 (fun H locs hL => ?_)
    refine lv_iinc (v := 6) (lv' := [(2, .int 6), (3, .int 8), (0, .ref a0), (1, .int (-1))]) hx hb dJ7_fill_53178_14 hl (k := 0) rfl (by decide) (by decide) rfl (fun ls hl => ?_)
    refine lv_goto (tgt := 5) hx hb dJ7_fill_53178_17 (by decide) ?_
    refine lv_iload_n hx hb dJ7_fill_53178_5 rfl (lv_at hl 0 rfl) ?_
    refine lv_iload_n hx hb dJ7_fill_53178_6 rfl (lv_at hl 1 rfl) ?_
    refine lv_icmp_ge (tgt := 20) hx hb dJ7_fill_53178_7 (by decide) (fun c1 => absurd c1 (by decide)) (fun _ => ?_)
    refine lv_aload_n hx hb dJ7_fill_53178_10 rfl (lv_at hl 2 rfl) ?_
    refine lv_iload_n hx hb dJ7_fill_53178_11 rfl (lv_at hl 0 rfl) ?_
    refine lv_iload_n hx hb dJ7_fill_53178_12 rfl (lv_at hl 3 rfl) ?_
    refine k_iast (M' := [.inl (eC E 0, 8, .inl (upd (upd (upd (upd (upd (upd (upd (fun _ => 0) (nc 0) (-1)) (nc 1) (-1)) (nc 2) (-1)) (nc 3) (-1)) (nc 4) (-1)) (nc 5) (-1)) (nc 6) (-1)))]) C0 hL 0 (N := 8) (f := (upd (upd (upd (upd (upd (upd (fun _ => 0) (nc 0) (-1)) (nc 1) (-1)) (nc 2) (-1)) (nc 3) (-1)) (nc 4) (-1)) (nc 5) (-1))) rfl (vin (by decide)) rfl dJ7_fill_53178_13 (fun H locs hL => ?_)
    refine lv_iinc (v := 7) (lv' := [(2, .int 7), (3, .int 8), (0, .ref a0), (1, .int (-1))]) hx hb dJ7_fill_53178_14 hl (k := 0) rfl (by decide) (by decide) rfl (fun ls hl => ?_)
    refine lv_goto (tgt := 5) hx hb dJ7_fill_53178_17 (by decide) ?_
    refine lv_iload_n hx hb dJ7_fill_53178_5 rfl (lv_at hl 0 rfl) ?_
    refine lv_iload_n hx hb dJ7_fill_53178_6 rfl (lv_at hl 1 rfl) ?_
    refine lv_icmp_ge (tgt := 20) hx hb dJ7_fill_53178_7 (by decide) (fun c1 => absurd c1 (by decide)) (fun _ => ?_)
    refine lv_aload_n hx hb dJ7_fill_53178_10 rfl (lv_at hl 2 rfl) ?_
    refine lv_iload_n hx hb dJ7_fill_53178_11 rfl (lv_at hl 0 rfl) ?_
    refine lv_iload_n hx hb dJ7_fill_53178_12 rfl (lv_at hl 3 rfl) ?_
    refine k_iast (M' := [.inl (eC E 0, 8, .inl (upd (upd (upd (upd (upd (upd (upd (upd (fun _ => 0) (nc 0) (-1)) (nc 1) (-1)) (nc 2) (-1)) (nc 3) (-1)) (nc 4) (-1)) (nc 5) (-1)) (nc 6) (-1)) (nc 7) (-1)))]) C0 hL 0 (N := 8) (f := (upd (upd (upd (upd (upd (upd (upd (fun _ => 0) (nc 0) (-1)) (nc 1) (-1)) (nc 2) (-1)) (nc 3) (-1)) (nc 4) (-1)) (nc 5) (-1)) (nc 6) (-1))) rfl (vin (by decide)) rfl dJ7_fill_53178_13 (fun H locs hL => ?_)
    refine lv_iinc (v := 8) (lv' := [(2, .int 8), (3, .int 8), (0, .ref a0), (1, .int (-1))]) hx hb dJ7_fill_53178_14 hl (k := 0) rfl (by decide) (by decide) rfl (fun ls hl => ?_)
    refine lv_goto (tgt := 5) hx hb dJ7_fill_53178_17 (by decide) ?_
    refine lv_iload_n hx hb dJ7_fill_53178_5 rfl (lv_at hl 0 rfl) ?_
    refine lv_iload_n hx hb dJ7_fill_53178_6 rfl (lv_at hl 1 rfl) ?_
    refine lv_icmp_ge (tgt := 20) hx hb dJ7_fill_53178_7 (by decide) (fun _ => ?_) (fun c1 => absurd (by decide) c1)
    replace hL := Lc.convi (M' := [.inl (eC E 0, 8, .inl (fun _ => -1))]) hL 0 (N := 8) (f := (upd (upd (upd (upd (upd (upd (upd (upd (fun _ => 0) (nc 0) (-1)) (nc 1) (-1)) (nc 2) (-1)) (nc 3) (-1)) (nc 4) (-1)) (nc 5) (-1)) (nc 6) (-1)) (nc 7) (-1))) (f' := (fun _ => -1)) rfl (by intro i hi; match i, hi with | 0, _ => rfl | 1, _ => rfl | 2, _ => rfl | 3, _ => rfl | 4, _ => rfl | 5, _ => rfl | 6, _ => rfl | 7, _ => rfl) rfl
    exact k_vret C0 hL dJ7_fill_53178_20 rfl rfl)
def kX2 (E : EnvT) (a0 : Nat) : List va_E := (([.inr (2, [.int 0, .int 0, .int 0, .ref (a0 + 1), .ref (a0 + 2)])] ++ [.inl (eC E 0, 10, .inl (fun _ => 0))]) ++ (.inl (eC E 2, 3, .inr (.inr (.inr (.inr (fun i => some (a0 + 2 + 1 + i)))))) :: List.replicate 3 (.inl (eC E 0, 10, .inl (fun _ => 0)))))
theorem kX2_len (E : EnvT) (a0 : Nat) : (kX2 E a0).length = 6 := (ap_ln (n := 2) (m := 4) (ap_ln (n := 1) (m := 1) rfl rfl) rfl)
theorem kX2_g0 (E : EnvT) (a0 : Nat) : (kX2 E a0)[0]? = some (.inr (2, [.int 0, .int 0, .int 0, .ref (a0 + 1), .ref (a0 + 2)])) := (ap_gl (ap_gl (rfl)))
theorem lkI_X2_init : LkI yX2_init cX2_init 1 := ⟨qI_X2_init, qi_X2, qC_X2_init, by decide +kernel, by decide +kernel, by decide +kernel, by decide +kernel, by decide⟩
set_option maxRecDepth 100000 in
set_option maxHeartbeats 4000000 in
theorem k_X2_init {l : Launch} {E : EnvT} (hAd : Ad E) (sz a0 : Nat) (L0 : List va_E) : Met l yX2_init (wsM yX2_init cX2_init 1 none) (rmK 1 5 43) (va_Pc [.ref a0] (PcK E sz a0 L0 [.inr (2, [.int 0, .int 0, .int 0, .null, .null])])) (QvK E sz a0 L0 (kX2 E a0)) 5 43 (eA E) :=
  Met.ofK (by decide) rfl (by decide) hAd (fun p e s m below meth c ls C0 hin2 hN0 hL hl => by
    obtain ⟨⟨hx, hb, hml, hown, hts⟩, hr, hlocks, hF, hAd⟩ := id C0
    refine lv_aload_n hx hb dX2_init_0 rfl (lv_at hl 0 rfl) ?_
    refine k_oinit C0 qM_X2_3 hl.1 rfl ⟨(by show 1 ≤ 1; exact Nat.le_of_ble_eq_true rfl), (by show 12 ≤ 64; exact Nat.le_of_ble_eq_true rfl)⟩ dX2_init_1 ?_
    refine lv_aload_n hx hb dX2_init_4 rfl (lv_at hl 0 rfl) ?_
    refine lv_iconst (v := 0) hx hb dX2_init_5 (by decide) ?_
    refine k_putT (M' := [.inr (2, [.int 0, .int 0, .int 0, .null, .null])]) (fs := [.int 0, .int 0, .int 0, .null, .null]) (g := 0) (ty := .int) C0 hL 0 (rfl) (ci := 2) TX2_0 rfl uGX2 tyX2 tyX2_ok nmX2 (by decide) qF_X2_9 (by decide +kernel) rfl rfl (Nat.le_of_ble_eq_true rfl) rfl dX2_init_6 (fun H locs hL => ?_)
    refine lv_aload_n hx hb dX2_init_9 rfl (lv_at hl 0 rfl) ?_
    refine lv_iconst (v := 0) hx hb dX2_init_10 (by decide) ?_
    refine k_putT (M' := [.inr (2, [.int 0, .int 0, .int 0, .null, .null])]) (fs := [.int 0, .int 0, .int 0, .null, .null]) (g := 1) (ty := .int) C0 hL 0 (rfl) (ci := 2) TX2_1 rfl uGX2 tyX2 tyX2_ok nmX2 (by decide) qF_X2_15 (by decide +kernel) rfl rfl (Nat.le_of_ble_eq_true rfl) rfl dX2_init_11 (fun H locs hL => ?_)
    refine lv_aload_n hx hb dX2_init_14 rfl (lv_at hl 0 rfl) ?_
    refine lv_iconst (v := 0) hx hb dX2_init_15 (by decide) ?_
    refine k_putT (M' := [.inr (2, [.int 0, .int 0, .int 0, .null, .null])]) (fs := [.int 0, .int 0, .int 0, .null, .null]) (g := 2) (ty := .int) C0 hL 0 (rfl) (ci := 2) TX2_2 rfl uGX2 tyX2 tyX2_ok nmX2 (by decide) qF_X2_18 (by decide +kernel) rfl rfl (Nat.le_of_ble_eq_true rfl) rfl dX2_init_16 (fun H locs hL => ?_)
    refine lv_aload_n hx hb dX2_init_19 rfl (lv_at hl 0 rfl) ?_
    refine lv_bipush (v := 10) hx hb dX2_init_20 (by decide) ?_
    refine k_newi C0 hL 1 rfl 10 (by decide) (by decide) (Nat.le_of_ble_eq_true rfl) (by show 1 ≤ 5; exact Nat.le_of_ble_eq_true rfl) (by show 10 ≤ 43; exact Nat.le_of_ble_eq_true rfl) dX2_init_22 (fun H hL => ?_)
    refine k_putFT (M' := ([.inr (2, [.int 0, .int 0, .int 0, .ref (a0 + 1), .null])] ++ [.inl (eC E 0, 10, .inl (fun _ => 0))])) (fs := [.int 0, .int 0, .int 0, .null, .null]) (g := 3) (ty := (.array .int)) C0 hin2 hL 0 (ap_gl (rfl)) (ci := 2) TX2_3 rfl uGX2 tyX2 tyX2_ok nmX2 (by decide) qF_X2_21 (by decide +kernel) rfl rfl (Nat.le_of_ble_eq_true rfl) (ap_sl (ap_lt rfl (Nat.le_of_ble_eq_true rfl)) rfl) dX2_init_24 (fun H locs hL => ?_)
    refine lv_aload_n hx hb dX2_init_27 rfl (lv_at hl 0 rfl) ?_
    refine lv_iconst (v := 3) hx hb dX2_init_28 (by decide) ?_
    refine lv_bipush (v := 10) hx hb dX2_init_29 (by decide) ?_
    refine k_mna C0 hN0 hL 2 (ap_ln (n := 1) (m := 1) rfl rfl) 3 10 (by decide) (by decide) (by decide) (by decide) (Nat.le_of_ble_eq_true rfl) (Nat.le_of_ble_eq_true rfl) (Nat.le_of_ble_eq_true rfl) qA_X2_25 (by show 5 ≤ 5; exact Nat.le_of_ble_eq_true rfl) (by show 43 ≤ 43; exact Nat.le_of_ble_eq_true rfl) dX2_init_31 (fun H hL => ?_)
    refine k_putFT (M' := (([.inr (2, [.int 0, .int 0, .int 0, .ref (a0 + 1), .ref (a0 + 2)])] ++ [.inl (eC E 0, 10, .inl (fun _ => 0))]) ++ (.inl (eC E 2, 3, .inr (.inr (.inr (.inr (fun i => some (a0 + 2 + 1 + i)))))) :: List.replicate 3 (.inl (eC E 0, 10, .inl (fun _ => 0)))))) (fs := [.int 0, .int 0, .int 0, .ref (a0 + 1), .null]) (g := 4) (ty := (.array (.array .int))) C0 hin2 hL 0 (ap_gl (ap_gl (rfl))) (ci := 2) TX2_4 rfl uGX2 tyX2 tyX2_ok nmX2 (by decide) qF_X2_27 (by decide +kernel) rfl rfl (Nat.le_of_ble_eq_true rfl) (ap_sl (ap_lt (ap_ln (n := 1) (m := 1) rfl rfl) (Nat.le_of_ble_eq_true rfl)) (ap_sl (ap_lt rfl (Nat.le_of_ble_eq_true rfl)) rfl)) dX2_init_35 (fun H locs hL => ?_)
    exact k_vret C0 hL dX2_init_38 (by show 5 = 5; rfl) (by show 43 = 43; rfl))
theorem kc_2 {p : Program} {l : Launch} {e : Env} {R : Room} {s : State} {m : MethodId} {args : Array Value} {below : List Frame} {meth : Method} {c : Code} {H : Heap} {locs : List Loc} {Q : State → Prop} {cells slots : Nat} {E : EnvT} {cc : ByteArray} {nL : Nat} {own : String} {ret : Option FieldType} {pc : Nat} {ls : Array Slot} {rest : List Value} {sz a0 : Nat} {L0 M : List va_E} {n index : Nat} (C0 : Cx E p m c cc nL s args own meth ret) (hN0 : Nx s) (hL : Lc E s sz a0 L0 (M ++ [.inr (2, [.int 0, .int 0, .int 0, .null, .null])]) H locs) (hn : M.length = n) (hl : va_Nw (.methodLinkNest own index yX2_init RX11) s) (hR1 : 2 ≤ R.frames) (hR2 : 128 ≤ R.locals) (hls : ls.size = nL) (hrest : (rest.map fun v => v.category).sum ≤ 8) (hf1 : cells + 5 ≤ R.cells) (hf2 : slots + 43 ≤ R.slots) (d : decode cc pc = .ok (.invokespecial index, 3))
    (kk : ∀ (H : Heap) (locs : List Loc), Lc E s sz a0 L0 (M ++ kX2 E (a0 + n)) H locs → W p l e R s m args below meth c H locs (cells + 5) (slots + 43) Q (F0 m (pc + 3) ls rest)) : W p l e R s m args below meth c H locs cells slots Q (F0 m pc ls (.ref (a0 + n) :: rest)) :=
  go_k (M' := M ++ kX2 E (a0 + n)) hL (run_IN (rest := rest) (L1 := L0 ++ M) (M1 := [.inr (2, [.int 0, .int 0, .int 0, .null, .null])]) C0 hN0 hL (List.append_assoc _ _ _).symm (ha_of hn) (a1_of hL.2.2.2.1 hn) hl lkI_X2_init (k_X2_init C0.2.2.2.2 sz (a0 + n) (L0 ++ M)) ⟨hR1, hR2⟩ hls rfl hrest d ⟨hf1, hf2⟩) (List.append_assoc _ _ _) (hb_of hn) kk
def kX5 (E : EnvT) (a0 : Nat) : List va_E := (([.inr (5, [.int 0, .ref (a0 + 1), .ref (a0 + 12)])] ++ (.inl (eC E 2, 10, .inr (.inr (.inr (.inr (fun i => some (a0 + 1 + 1 + i)))))) :: List.replicate 10 (.inl (eC E 0, 10, .inl (fun _ => 0))))) ++ [.inl (eC E 0, 10, .inl (fun _ => 0))])
theorem kX5_len (E : EnvT) (a0 : Nat) : (kX5 E a0).length = 13 := (ap_ln (n := 12) (m := 1) (ap_ln (n := 1) (m := 11) rfl rfl) rfl)
theorem kX5_g0 (E : EnvT) (a0 : Nat) : (kX5 E a0)[0]? = some (.inr (5, [.int 0, .ref (a0 + 1), .ref (a0 + 12)])) := (ap_gl (ap_gl (rfl)))
theorem lkI_X5_init : LkI yX5_init cX5_init 1 := ⟨qI_X5_init, qi_X5, qC_X5_init, by decide +kernel, by decide +kernel, by decide +kernel, by decide +kernel, by decide⟩
set_option maxRecDepth 100000 in
set_option maxHeartbeats 4000000 in
theorem k_X5_init {l : Launch} {E : EnvT} (hAd : Ad E) (sz a0 : Nat) (L0 : List va_E) : Met l yX5_init (wsM yX5_init cX5_init 1 none) (rmK 1 12 120) (va_Pc [.ref a0] (PcK E sz a0 L0 [.inr (5, [.int 0, .null, .null])])) (QvK E sz a0 L0 (kX5 E a0)) 12 120 (eA E) :=
  Met.ofK (by decide) rfl (by decide) hAd (fun p e s m below meth c ls C0 hin2 hN0 hL hl => by
    obtain ⟨⟨hx, hb, hml, hown, hts⟩, hr, hlocks, hF, hAd⟩ := id C0
    refine lv_aload_n hx hb dX5_init_0 rfl (lv_at hl 0 rfl) ?_
    refine k_oinit C0 qM_X5_3 hl.1 rfl ⟨(by show 1 ≤ 1; exact Nat.le_of_ble_eq_true rfl), (by show 12 ≤ 64; exact Nat.le_of_ble_eq_true rfl)⟩ dX5_init_1 ?_
    refine lv_aload_n hx hb dX5_init_4 rfl (lv_at hl 0 rfl) ?_
    refine lv_iconst (v := 0) hx hb dX5_init_5 (by decide) ?_
    refine k_putT (M' := [.inr (5, [.int 0, .null, .null])]) (fs := [.int 0, .null, .null]) (g := 0) (ty := .int) C0 hL 0 (rfl) (ci := 5) TX5_0 rfl uGX5 tyX5 tyX5_ok nmX5 (by decide) qF_X5_9 (by decide +kernel) rfl rfl (Nat.le_of_ble_eq_true rfl) rfl dX5_init_6 (fun H locs hL => ?_)
    refine lv_aload_n hx hb dX5_init_9 rfl (lv_at hl 0 rfl) ?_
    refine lv_bipush (v := 10) hx hb dX5_init_10 (by decide) ?_
    refine lv_bipush (v := 10) hx hb dX5_init_12 (by decide) ?_
    refine k_mna C0 hN0 hL 1 rfl 10 10 (by decide) (by decide) (by decide) (by decide) (Nat.le_of_ble_eq_true rfl) (Nat.le_of_ble_eq_true rfl) (Nat.le_of_ble_eq_true rfl) qA_X5_15 (by show 11 ≤ 12; exact Nat.le_of_ble_eq_true rfl) (by show 110 ≤ 120; exact Nat.le_of_ble_eq_true rfl) dX5_init_14 (fun H hL => ?_)
    refine k_putFT (M' := ([.inr (5, [.int 0, .ref (a0 + 1), .null])] ++ (.inl (eC E 2, 10, .inr (.inr (.inr (.inr (fun i => some (a0 + 1 + 1 + i)))))) :: List.replicate 10 (.inl (eC E 0, 10, .inl (fun _ => 0)))))) (fs := [.int 0, .null, .null]) (g := 1) (ty := (.array (.array .int))) C0 hin2 hL 0 (ap_gl (rfl)) (ci := 5) TX5_1 rfl uGX5 tyX5 tyX5_ok nmX5 (by decide) qF_X5_17 (by decide +kernel) rfl rfl (Nat.le_of_ble_eq_true rfl) (ap_sl (ap_lt rfl (Nat.le_of_ble_eq_true rfl)) rfl) dX5_init_18 (fun H locs hL => ?_)
    refine lv_aload_n hx hb dX5_init_21 rfl (lv_at hl 0 rfl) ?_
    refine lv_bipush (v := 10) hx hb dX5_init_22 (by decide) ?_
    refine k_newi C0 hL 12 (ap_ln (n := 1) (m := 11) rfl rfl) 10 (by decide) (by decide) (Nat.le_of_ble_eq_true rfl) (by show 12 ≤ 12; exact Nat.le_of_ble_eq_true rfl) (by show 120 ≤ 120; exact Nat.le_of_ble_eq_true rfl) dX5_init_24 (fun H hL => ?_)
    refine k_putFT (M' := (([.inr (5, [.int 0, .ref (a0 + 1), .ref (a0 + 12)])] ++ (.inl (eC E 2, 10, .inr (.inr (.inr (.inr (fun i => some (a0 + 1 + 1 + i)))))) :: List.replicate 10 (.inl (eC E 0, 10, .inl (fun _ => 0))))) ++ [.inl (eC E 0, 10, .inl (fun _ => 0))])) (fs := [.int 0, .ref (a0 + 1), .null]) (g := 2) (ty := (.array .int)) C0 hin2 hL 0 (ap_gl (ap_gl (rfl))) (ci := 5) TX5_2 rfl uGX5 tyX5 tyX5_ok nmX5 (by decide) qF_X5_20 (by decide +kernel) rfl rfl (Nat.le_of_ble_eq_true rfl) (ap_sl (ap_lt (ap_ln (n := 1) (m := 11) rfl rfl) (Nat.le_of_ble_eq_true rfl)) (ap_sl (ap_lt rfl (Nat.le_of_ble_eq_true rfl)) rfl)) dX5_init_26 (fun H locs hL => ?_)
    exact k_vret C0 hL dX5_init_29 (by show 12 = 12; rfl) (by show 120 = 120; rfl))
theorem kc_5 {p : Program} {l : Launch} {e : Env} {R : Room} {s : State} {m : MethodId} {args : Array Value} {below : List Frame} {meth : Method} {c : Code} {H : Heap} {locs : List Loc} {Q : State → Prop} {cells slots : Nat} {E : EnvT} {cc : ByteArray} {nL : Nat} {own : String} {ret : Option FieldType} {pc : Nat} {ls : Array Slot} {rest : List Value} {sz a0 : Nat} {L0 M : List va_E} {n index : Nat} (C0 : Cx E p m c cc nL s args own meth ret) (hN0 : Nx s) (hL : Lc E s sz a0 L0 (M ++ [.inr (5, [.int 0, .null, .null])]) H locs) (hn : M.length = n) (hl : va_Nw (.methodLinkNest own index yX5_init RX11) s) (hR1 : 2 ≤ R.frames) (hR2 : 128 ≤ R.locals) (hls : ls.size = nL) (hrest : (rest.map fun v => v.category).sum ≤ 8) (hf1 : cells + 12 ≤ R.cells) (hf2 : slots + 120 ≤ R.slots) (d : decode cc pc = .ok (.invokespecial index, 3))
    (kk : ∀ (H : Heap) (locs : List Loc), Lc E s sz a0 L0 (M ++ kX5 E (a0 + n)) H locs → W p l e R s m args below meth c H locs (cells + 12) (slots + 120) Q (F0 m (pc + 3) ls rest)) : W p l e R s m args below meth c H locs cells slots Q (F0 m pc ls (.ref (a0 + n) :: rest)) :=
  go_k (M' := M ++ kX5 E (a0 + n)) hL (run_IN (rest := rest) (L1 := L0 ++ M) (M1 := [.inr (5, [.int 0, .null, .null])]) C0 hN0 hL (List.append_assoc _ _ _).symm (ha_of hn) (a1_of hL.2.2.2.1 hn) hl lkI_X5_init (k_X5_init C0.2.2.2.2 sz (a0 + n) (L0 ++ M)) ⟨hR1, hR2⟩ hls rfl hrest d ⟨hf1, hf2⟩) (List.append_assoc _ _ _) (hb_of hn) kk
def kX6 (E : EnvT) (a0 : Nat) : List va_E := ((([.inr (6, [.ref (a0 + 1), .ref (a0 + 14), .ref (a0 + 15), .int 0])] ++ kX5 E (a0 + 1)) ++ [.inl (eC E 0, 10, .inl (fun _ => 0))]) ++ [.inl (eC E 0, 10, .inl (fun _ => 0))])
theorem kX6_len (E : EnvT) (a0 : Nat) : (kX6 E a0).length = 16 := (ap_ln (n := 15) (m := 1) (ap_ln (n := 14) (m := 1) (ap_ln (n := 1) (m := 13) rfl (kX5_len _ _)) rfl) rfl)
theorem kX6_g0 (E : EnvT) (a0 : Nat) : (kX6 E a0)[0]? = some (.inr (6, [.ref (a0 + 1), .ref (a0 + 14), .ref (a0 + 15), .int 0])) := (ap_gl (ap_gl (ap_gl (rfl))))
theorem lkI_X6_init : LkI yX6_init cX6_init 1 := ⟨qI_X6_init, qi_X6, qC_X6_init, by decide +kernel, by decide +kernel, by decide +kernel, by decide +kernel, by decide⟩
set_option maxRecDepth 100000 in
set_option maxHeartbeats 4000000 in
theorem k_X6_init {l : Launch} {E : EnvT} (hAd : Ad E) (sz a0 : Nat) (L0 : List va_E) : Met l yX6_init (wsM yX6_init cX6_init 1 none) (rmK 2 15 143) (va_Pc [.ref a0] (PcK E sz a0 L0 [.inr (6, [.null, .null, .null, .int 0])])) (QvK E sz a0 L0 (kX6 E a0)) 15 143 (eA E) :=
  Met.ofK (by decide) rfl (by decide) hAd (fun p e s m below meth c ls C0 hin2 hN0 hL hl => by
    obtain ⟨⟨hx, hb, hml, hown, hts⟩, hr, hlocks, hF, hAd⟩ := id C0
    refine lv_aload_n hx hb dX6_init_0 rfl (lv_at hl 0 rfl) ?_
    refine k_oinit C0 qM_X6_3 hl.1 rfl ⟨(by show 1 ≤ 2; exact Nat.le_of_ble_eq_true rfl), (by show 12 ≤ 128; exact Nat.le_of_ble_eq_true rfl)⟩ dX6_init_1 ?_
    refine lv_aload_n hx hb dX6_init_4 rfl (lv_at hl 0 rfl) ?_
    refine k_new C0 hL 5 rfl uGX5 tyX5 tyX5_ok qA_X6_9 qn_X5 qi_X5 [.int 0, .null, .null] (by intro j hj; match j, hj with | 0, _ => rfl | 1, _ => rfl | 2, _ => rfl) 1 rfl (by show 1 ≤ 15; exact Nat.le_of_ble_eq_true rfl) (by show 3 ≤ 143; exact Nat.le_of_ble_eq_true rfl) dX6_init_5 (fun H hL => ?_)
    refine lv_dup hx hb dX6_init_8 rfl ?_
    refine kc_5 (M := [.inr (6, [.null, .null, .null, .int 0])]) (n := 1) C0 hN0 hL rfl hN0.2.2.2.2.2.2.2.2.2.1 (by show 2 ≤ 2; exact Nat.le_of_ble_eq_true rfl) (by show 128 ≤ 128; exact Nat.le_of_ble_eq_true rfl) hl.1 (Nat.le_of_ble_eq_true rfl) (by show 13 ≤ 15; exact Nat.le_of_ble_eq_true rfl) (by show 123 ≤ 143; exact Nat.le_of_ble_eq_true rfl) dX6_init_9 (fun H locs hL => ?_)
    refine k_putFT (M' := ([.inr (6, [.ref (a0 + 1), .null, .null, .int 0])] ++ kX5 E (a0 + 1))) (fs := [.null, .null, .null, .int 0]) (g := 0) (ty := (.object "HandsInBook$Gaps")) C0 hin2 hL 0 (ap_gl (rfl)) (ci := 6) TX6_0 rfl uGX6 tyX6 tyX6_ok nmX6 (by decide) qF_X6_12 (by decide +kernel) rfl rfl (Nat.le_of_ble_eq_true rfl) (ap_sl (ap_lt rfl (Nat.le_of_ble_eq_true rfl)) rfl) dX6_init_12 (fun H locs hL => ?_)
    refine lv_aload_n hx hb dX6_init_15 rfl (lv_at hl 0 rfl) ?_
    refine lv_bipush (v := 10) hx hb dX6_init_16 (by decide) ?_
    refine k_newi C0 hL 14 (ap_ln (n := 1) (m := 13) rfl (kX5_len _ _)) 10 (by decide) (by decide) (Nat.le_of_ble_eq_true rfl) (by show 14 ≤ 15; exact Nat.le_of_ble_eq_true rfl) (by show 133 ≤ 143; exact Nat.le_of_ble_eq_true rfl) dX6_init_18 (fun H hL => ?_)
    refine k_putFT (M' := (([.inr (6, [.ref (a0 + 1), .ref (a0 + 14), .null, .int 0])] ++ kX5 E (a0 + 1)) ++ [.inl (eC E 0, 10, .inl (fun _ => 0))])) (fs := [.ref (a0 + 1), .null, .null, .int 0]) (g := 1) (ty := (.array .int)) C0 hin2 hL 0 (ap_gl (ap_gl (rfl))) (ci := 6) TX6_1 rfl uGX6 tyX6 tyX6_ok nmX6 (by decide) qF_X6_18 (by decide +kernel) rfl rfl (Nat.le_of_ble_eq_true rfl) (ap_sl (ap_lt (ap_ln (n := 1) (m := 13) rfl (kX5_len _ _)) (Nat.le_of_ble_eq_true rfl)) (ap_sl (ap_lt rfl (Nat.le_of_ble_eq_true rfl)) rfl)) dX6_init_20 (fun H locs hL => ?_)
    refine lv_aload_n hx hb dX6_init_23 rfl (lv_at hl 0 rfl) ?_
    refine lv_bipush (v := 10) hx hb dX6_init_24 (by decide) ?_
    refine k_newi C0 hL 15 (ap_ln (n := 14) (m := 1) (ap_ln (n := 1) (m := 13) rfl (kX5_len _ _)) rfl) 10 (by decide) (by decide) (Nat.le_of_ble_eq_true rfl) (by show 15 ≤ 15; exact Nat.le_of_ble_eq_true rfl) (by show 143 ≤ 143; exact Nat.le_of_ble_eq_true rfl) dX6_init_26 (fun H hL => ?_)
    refine k_putFT (M' := ((([.inr (6, [.ref (a0 + 1), .ref (a0 + 14), .ref (a0 + 15), .int 0])] ++ kX5 E (a0 + 1)) ++ [.inl (eC E 0, 10, .inl (fun _ => 0))]) ++ [.inl (eC E 0, 10, .inl (fun _ => 0))])) (fs := [.ref (a0 + 1), .ref (a0 + 14), .null, .int 0]) (g := 2) (ty := (.array .int)) C0 hin2 hL 0 (ap_gl (ap_gl (ap_gl (rfl)))) (ci := 6) TX6_2 rfl uGX6 tyX6 tyX6_ok nmX6 (by decide) qF_X6_22 (by decide +kernel) rfl rfl (Nat.le_of_ble_eq_true rfl) (ap_sl (ap_lt (ap_ln (n := 14) (m := 1) (ap_ln (n := 1) (m := 13) rfl (kX5_len _ _)) rfl) (Nat.le_of_ble_eq_true rfl)) (ap_sl (ap_lt (ap_ln (n := 1) (m := 13) rfl (kX5_len _ _)) (Nat.le_of_ble_eq_true rfl)) (ap_sl (ap_lt rfl (Nat.le_of_ble_eq_true rfl)) rfl))) dX6_init_28 (fun H locs hL => ?_)
    refine lv_aload_n hx hb dX6_init_31 rfl (lv_at hl 0 rfl) ?_
    refine lv_iconst (v := 0) hx hb dX6_init_32 (by decide) ?_
    refine k_putT (M' := ((([.inr (6, [.ref (a0 + 1), .ref (a0 + 14), .ref (a0 + 15), .int 0])] ++ kX5 E (a0 + 1)) ++ [.inl (eC E 0, 10, .inl (fun _ => 0))]) ++ [.inl (eC E 0, 10, .inl (fun _ => 0))])) (fs := [.ref (a0 + 1), .ref (a0 + 14), .ref (a0 + 15), .int 0]) (g := 3) (ty := .int) C0 hL 0 (ap_gl (ap_gl (ap_gl (rfl)))) (ci := 6) TX6_3 rfl uGX6 tyX6 tyX6_ok nmX6 (by decide) qF_X6_25 (by decide +kernel) rfl rfl (Nat.le_of_ble_eq_true rfl) (ap_sl (ap_lt (ap_ln (n := 14) (m := 1) (ap_ln (n := 1) (m := 13) rfl (kX5_len _ _)) rfl) (Nat.le_of_ble_eq_true rfl)) (ap_sl (ap_lt (ap_ln (n := 1) (m := 13) rfl (kX5_len _ _)) (Nat.le_of_ble_eq_true rfl)) (ap_sl (ap_lt rfl (Nat.le_of_ble_eq_true rfl)) rfl))) dX6_init_33 (fun H locs hL => ?_)
    exact k_vret C0 hL dX6_init_36 (by show 15 = 15; rfl) (by show 143 = 143; rfl))
theorem kc_6 {p : Program} {l : Launch} {e : Env} {R : Room} {s : State} {m : MethodId} {args : Array Value} {below : List Frame} {meth : Method} {c : Code} {H : Heap} {locs : List Loc} {Q : State → Prop} {cells slots : Nat} {E : EnvT} {cc : ByteArray} {nL : Nat} {own : String} {ret : Option FieldType} {pc : Nat} {ls : Array Slot} {rest : List Value} {sz a0 : Nat} {L0 M : List va_E} {n index : Nat} (C0 : Cx E p m c cc nL s args own meth ret) (hN0 : Nx s) (hL : Lc E s sz a0 L0 (M ++ [.inr (6, [.null, .null, .null, .int 0])]) H locs) (hn : M.length = n) (hl : va_Nw (.methodLinkNest own index yX6_init RX11) s) (hR1 : 3 ≤ R.frames) (hR2 : 192 ≤ R.locals) (hls : ls.size = nL) (hrest : (rest.map fun v => v.category).sum ≤ 8) (hf1 : cells + 15 ≤ R.cells) (hf2 : slots + 143 ≤ R.slots) (d : decode cc pc = .ok (.invokespecial index, 3))
    (kk : ∀ (H : Heap) (locs : List Loc), Lc E s sz a0 L0 (M ++ kX6 E (a0 + n)) H locs → W p l e R s m args below meth c H locs (cells + 15) (slots + 143) Q (F0 m (pc + 3) ls rest)) : W p l e R s m args below meth c H locs cells slots Q (F0 m pc ls (.ref (a0 + n) :: rest)) :=
  go_k (M' := M ++ kX6 E (a0 + n)) hL (run_IN (rest := rest) (L1 := L0 ++ M) (M1 := [.inr (6, [.null, .null, .null, .int 0])]) C0 hN0 hL (List.append_assoc _ _ _).symm (ha_of hn) (a1_of hL.2.2.2.1 hn) hl lkI_X6_init (k_X6_init C0.2.2.2.2 sz (a0 + n) (L0 ++ M)) ⟨hR1, hR2⟩ hls rfl hrest d ⟨hf1, hf2⟩) (List.append_assoc _ _ _) (hb_of hn) kk
def kX9 (E : EnvT) (a0 : Nat) : List va_E := ((((([.inr (9, [.ref (a0 + 1), .ref (a0 + 2), .ref (a0 + 3), .ref (a0 + 4), .ref (a0 + 5), .int 0])] ++ [.inl (eC E 0, 11, .inl (fun _ => 0))]) ++ [.inl (eC E 0, 11, .inl (fun _ => 0))]) ++ [.inl (eC E 0, 10, .inl (fun _ => 0))]) ++ [.inl (eC E 0, 11, .inl (fun _ => 0))]) ++ [.inl (eC E 0, 10, .inl (fun _ => 0))])
theorem kX9_len (E : EnvT) (a0 : Nat) : (kX9 E a0).length = 6 := (ap_ln (n := 5) (m := 1) (ap_ln (n := 4) (m := 1) (ap_ln (n := 3) (m := 1) (ap_ln (n := 2) (m := 1) (ap_ln (n := 1) (m := 1) rfl rfl) rfl) rfl) rfl) rfl)
theorem kX9_g0 (E : EnvT) (a0 : Nat) : (kX9 E a0)[0]? = some (.inr (9, [.ref (a0 + 1), .ref (a0 + 2), .ref (a0 + 3), .ref (a0 + 4), .ref (a0 + 5), .int 0])) := (ap_gl (ap_gl (ap_gl (ap_gl (ap_gl (rfl))))))
theorem lkI_X9_init : LkI yX9_init cX9_init 1 := ⟨qI_X9_init, qi_X9, qC_X9_init, by decide +kernel, by decide +kernel, by decide +kernel, by decide +kernel, by decide⟩
set_option maxRecDepth 100000 in
set_option maxHeartbeats 4000000 in
theorem k_X9_init {l : Launch} {E : EnvT} (hAd : Ad E) (sz a0 : Nat) (L0 : List va_E) : Met l yX9_init (wsM yX9_init cX9_init 1 none) (rmK 1 5 53) (va_Pc [.ref a0] (PcK E sz a0 L0 [.inr (9, [.null, .null, .null, .null, .null, .int 0])])) (QvK E sz a0 L0 (kX9 E a0)) 5 53 (eA E) :=
  Met.ofK (by decide) rfl (by decide) hAd (fun p e s m below meth c ls C0 hin2 hN0 hL hl => by
    obtain ⟨⟨hx, hb, hml, hown, hts⟩, hr, hlocks, hF, hAd⟩ := id C0
    refine lv_aload_n hx hb dX9_init_0 rfl (lv_at hl 0 rfl) ?_
    refine k_oinit C0 qM_X9_3 hl.1 rfl ⟨(by show 1 ≤ 1; exact Nat.le_of_ble_eq_true rfl), (by show 12 ≤ 64; exact Nat.le_of_ble_eq_true rfl)⟩ dX9_init_1 ?_
    refine lv_aload_n hx hb dX9_init_4 rfl (lv_at hl 0 rfl) ?_
    refine lv_bipush (v := 11) hx hb dX9_init_5 (by decide) ?_
    refine k_newi C0 hL 1 rfl 11 (by decide) (by decide) (Nat.le_of_ble_eq_true rfl) (by show 1 ≤ 5; exact Nat.le_of_ble_eq_true rfl) (by show 11 ≤ 53; exact Nat.le_of_ble_eq_true rfl) dX9_init_7 (fun H hL => ?_)
    refine k_putFT (M' := ([.inr (9, [.ref (a0 + 1), .null, .null, .null, .null, .int 0])] ++ [.inl (eC E 0, 11, .inl (fun _ => 0))])) (fs := [.null, .null, .null, .null, .null, .int 0]) (g := 0) (ty := (.array .int)) C0 hin2 hL 0 (ap_gl (rfl)) (ci := 9) TX9_0 rfl uGX9 tyX9 tyX9_ok nmX9 (by decide) qF_X9_9 (by decide +kernel) rfl rfl (Nat.le_of_ble_eq_true rfl) (ap_sl (ap_lt rfl (Nat.le_of_ble_eq_true rfl)) rfl) dX9_init_9 (fun H locs hL => ?_)
    refine lv_aload_n hx hb dX9_init_12 rfl (lv_at hl 0 rfl) ?_
    refine lv_bipush (v := 11) hx hb dX9_init_13 (by decide) ?_
    refine k_newi C0 hL 2 (ap_ln (n := 1) (m := 1) rfl rfl) 11 (by decide) (by decide) (Nat.le_of_ble_eq_true rfl) (by show 2 ≤ 5; exact Nat.le_of_ble_eq_true rfl) (by show 22 ≤ 53; exact Nat.le_of_ble_eq_true rfl) dX9_init_15 (fun H hL => ?_)
    refine k_putFT (M' := (([.inr (9, [.ref (a0 + 1), .ref (a0 + 2), .null, .null, .null, .int 0])] ++ [.inl (eC E 0, 11, .inl (fun _ => 0))]) ++ [.inl (eC E 0, 11, .inl (fun _ => 0))])) (fs := [.ref (a0 + 1), .null, .null, .null, .null, .int 0]) (g := 1) (ty := (.array .int)) C0 hin2 hL 0 (ap_gl (ap_gl (rfl))) (ci := 9) TX9_1 rfl uGX9 tyX9 tyX9_ok nmX9 (by decide) qF_X9_15 (by decide +kernel) rfl rfl (Nat.le_of_ble_eq_true rfl) (ap_sl (ap_lt (ap_ln (n := 1) (m := 1) rfl rfl) (Nat.le_of_ble_eq_true rfl)) (ap_sl (ap_lt rfl (Nat.le_of_ble_eq_true rfl)) rfl)) dX9_init_17 (fun H locs hL => ?_)
    refine lv_aload_n hx hb dX9_init_20 rfl (lv_at hl 0 rfl) ?_
    refine lv_bipush (v := 10) hx hb dX9_init_21 (by decide) ?_
    refine k_newi C0 hL 3 (ap_ln (n := 2) (m := 1) (ap_ln (n := 1) (m := 1) rfl rfl) rfl) 10 (by decide) (by decide) (Nat.le_of_ble_eq_true rfl) (by show 3 ≤ 5; exact Nat.le_of_ble_eq_true rfl) (by show 32 ≤ 53; exact Nat.le_of_ble_eq_true rfl) dX9_init_23 (fun H hL => ?_)
    refine k_putFT (M' := ((([.inr (9, [.ref (a0 + 1), .ref (a0 + 2), .ref (a0 + 3), .null, .null, .int 0])] ++ [.inl (eC E 0, 11, .inl (fun _ => 0))]) ++ [.inl (eC E 0, 11, .inl (fun _ => 0))]) ++ [.inl (eC E 0, 10, .inl (fun _ => 0))])) (fs := [.ref (a0 + 1), .ref (a0 + 2), .null, .null, .null, .int 0]) (g := 2) (ty := (.array .int)) C0 hin2 hL 0 (ap_gl (ap_gl (ap_gl (rfl)))) (ci := 9) TX9_2 rfl uGX9 tyX9 tyX9_ok nmX9 (by decide) qF_X9_18 (by decide +kernel) rfl rfl (Nat.le_of_ble_eq_true rfl) (ap_sl (ap_lt (ap_ln (n := 2) (m := 1) (ap_ln (n := 1) (m := 1) rfl rfl) rfl) (Nat.le_of_ble_eq_true rfl)) (ap_sl (ap_lt (ap_ln (n := 1) (m := 1) rfl rfl) (Nat.le_of_ble_eq_true rfl)) (ap_sl (ap_lt rfl (Nat.le_of_ble_eq_true rfl)) rfl))) dX9_init_25 (fun H locs hL => ?_)
    refine lv_aload_n hx hb dX9_init_28 rfl (lv_at hl 0 rfl) ?_
    refine lv_bipush (v := 11) hx hb dX9_init_29 (by decide) ?_
    refine k_newi C0 hL 4 (ap_ln (n := 3) (m := 1) (ap_ln (n := 2) (m := 1) (ap_ln (n := 1) (m := 1) rfl rfl) rfl) rfl) 11 (by decide) (by decide) (Nat.le_of_ble_eq_true rfl) (by show 4 ≤ 5; exact Nat.le_of_ble_eq_true rfl) (by show 43 ≤ 53; exact Nat.le_of_ble_eq_true rfl) dX9_init_31 (fun H hL => ?_)
    refine k_putFT (M' := (((([.inr (9, [.ref (a0 + 1), .ref (a0 + 2), .ref (a0 + 3), .ref (a0 + 4), .null, .int 0])] ++ [.inl (eC E 0, 11, .inl (fun _ => 0))]) ++ [.inl (eC E 0, 11, .inl (fun _ => 0))]) ++ [.inl (eC E 0, 10, .inl (fun _ => 0))]) ++ [.inl (eC E 0, 11, .inl (fun _ => 0))])) (fs := [.ref (a0 + 1), .ref (a0 + 2), .ref (a0 + 3), .null, .null, .int 0]) (g := 3) (ty := (.array .int)) C0 hin2 hL 0 (ap_gl (ap_gl (ap_gl (ap_gl (rfl))))) (ci := 9) TX9_3 rfl uGX9 tyX9 tyX9_ok nmX9 (by decide) qF_X9_21 (by decide +kernel) rfl rfl (Nat.le_of_ble_eq_true rfl) (ap_sl (ap_lt (ap_ln (n := 3) (m := 1) (ap_ln (n := 2) (m := 1) (ap_ln (n := 1) (m := 1) rfl rfl) rfl) rfl) (Nat.le_of_ble_eq_true rfl)) (ap_sl (ap_lt (ap_ln (n := 2) (m := 1) (ap_ln (n := 1) (m := 1) rfl rfl) rfl) (Nat.le_of_ble_eq_true rfl)) (ap_sl (ap_lt (ap_ln (n := 1) (m := 1) rfl rfl) (Nat.le_of_ble_eq_true rfl)) (ap_sl (ap_lt rfl (Nat.le_of_ble_eq_true rfl)) rfl)))) dX9_init_33 (fun H locs hL => ?_)
    refine lv_aload_n hx hb dX9_init_36 rfl (lv_at hl 0 rfl) ?_
    refine lv_bipush (v := 10) hx hb dX9_init_37 (by decide) ?_
    refine k_newi C0 hL 5 (ap_ln (n := 4) (m := 1) (ap_ln (n := 3) (m := 1) (ap_ln (n := 2) (m := 1) (ap_ln (n := 1) (m := 1) rfl rfl) rfl) rfl) rfl) 10 (by decide) (by decide) (Nat.le_of_ble_eq_true rfl) (by show 5 ≤ 5; exact Nat.le_of_ble_eq_true rfl) (by show 53 ≤ 53; exact Nat.le_of_ble_eq_true rfl) dX9_init_39 (fun H hL => ?_)
    refine k_putFT (M' := ((((([.inr (9, [.ref (a0 + 1), .ref (a0 + 2), .ref (a0 + 3), .ref (a0 + 4), .ref (a0 + 5), .int 0])] ++ [.inl (eC E 0, 11, .inl (fun _ => 0))]) ++ [.inl (eC E 0, 11, .inl (fun _ => 0))]) ++ [.inl (eC E 0, 10, .inl (fun _ => 0))]) ++ [.inl (eC E 0, 11, .inl (fun _ => 0))]) ++ [.inl (eC E 0, 10, .inl (fun _ => 0))])) (fs := [.ref (a0 + 1), .ref (a0 + 2), .ref (a0 + 3), .ref (a0 + 4), .null, .int 0]) (g := 4) (ty := (.array .int)) C0 hin2 hL 0 (ap_gl (ap_gl (ap_gl (ap_gl (ap_gl (rfl)))))) (ci := 9) TX9_4 rfl uGX9 tyX9 tyX9_ok nmX9 (by decide) qF_X9_24 (by decide +kernel) rfl rfl (Nat.le_of_ble_eq_true rfl) (ap_sl (ap_lt (ap_ln (n := 4) (m := 1) (ap_ln (n := 3) (m := 1) (ap_ln (n := 2) (m := 1) (ap_ln (n := 1) (m := 1) rfl rfl) rfl) rfl) rfl) (Nat.le_of_ble_eq_true rfl)) (ap_sl (ap_lt (ap_ln (n := 3) (m := 1) (ap_ln (n := 2) (m := 1) (ap_ln (n := 1) (m := 1) rfl rfl) rfl) rfl) (Nat.le_of_ble_eq_true rfl)) (ap_sl (ap_lt (ap_ln (n := 2) (m := 1) (ap_ln (n := 1) (m := 1) rfl rfl) rfl) (Nat.le_of_ble_eq_true rfl)) (ap_sl (ap_lt (ap_ln (n := 1) (m := 1) rfl rfl) (Nat.le_of_ble_eq_true rfl)) (ap_sl (ap_lt rfl (Nat.le_of_ble_eq_true rfl)) rfl))))) dX9_init_41 (fun H locs hL => ?_)
    refine lv_aload_n hx hb dX9_init_44 rfl (lv_at hl 0 rfl) ?_
    refine lv_iconst (v := 0) hx hb dX9_init_45 (by decide) ?_
    refine k_putT (M' := ((((([.inr (9, [.ref (a0 + 1), .ref (a0 + 2), .ref (a0 + 3), .ref (a0 + 4), .ref (a0 + 5), .int 0])] ++ [.inl (eC E 0, 11, .inl (fun _ => 0))]) ++ [.inl (eC E 0, 11, .inl (fun _ => 0))]) ++ [.inl (eC E 0, 10, .inl (fun _ => 0))]) ++ [.inl (eC E 0, 11, .inl (fun _ => 0))]) ++ [.inl (eC E 0, 10, .inl (fun _ => 0))])) (fs := [.ref (a0 + 1), .ref (a0 + 2), .ref (a0 + 3), .ref (a0 + 4), .ref (a0 + 5), .int 0]) (g := 5) (ty := .int) C0 hL 0 (ap_gl (ap_gl (ap_gl (ap_gl (ap_gl (rfl)))))) (ci := 9) TX9_5 rfl uGX9 tyX9 tyX9_ok nmX9 (by decide) qF_X9_27 (by decide +kernel) rfl rfl (Nat.le_of_ble_eq_true rfl) (ap_sl (ap_lt (ap_ln (n := 4) (m := 1) (ap_ln (n := 3) (m := 1) (ap_ln (n := 2) (m := 1) (ap_ln (n := 1) (m := 1) rfl rfl) rfl) rfl) rfl) (Nat.le_of_ble_eq_true rfl)) (ap_sl (ap_lt (ap_ln (n := 3) (m := 1) (ap_ln (n := 2) (m := 1) (ap_ln (n := 1) (m := 1) rfl rfl) rfl) rfl) (Nat.le_of_ble_eq_true rfl)) (ap_sl (ap_lt (ap_ln (n := 2) (m := 1) (ap_ln (n := 1) (m := 1) rfl rfl) rfl) (Nat.le_of_ble_eq_true rfl)) (ap_sl (ap_lt (ap_ln (n := 1) (m := 1) rfl rfl) (Nat.le_of_ble_eq_true rfl)) (ap_sl (ap_lt rfl (Nat.le_of_ble_eq_true rfl)) rfl))))) dX9_init_46 (fun H locs hL => ?_)
    exact k_vret C0 hL dX9_init_49 (by show 5 = 5; rfl) (by show 53 = 53; rfl))
theorem kc_9 {p : Program} {l : Launch} {e : Env} {R : Room} {s : State} {m : MethodId} {args : Array Value} {below : List Frame} {meth : Method} {c : Code} {H : Heap} {locs : List Loc} {Q : State → Prop} {cells slots : Nat} {E : EnvT} {cc : ByteArray} {nL : Nat} {own : String} {ret : Option FieldType} {pc : Nat} {ls : Array Slot} {rest : List Value} {sz a0 : Nat} {L0 M : List va_E} {n index : Nat} (C0 : Cx E p m c cc nL s args own meth ret) (hN0 : Nx s) (hL : Lc E s sz a0 L0 (M ++ [.inr (9, [.null, .null, .null, .null, .null, .int 0])]) H locs) (hn : M.length = n) (hl : va_Nw (.methodLinkNest own index yX9_init RX11) s) (hR1 : 2 ≤ R.frames) (hR2 : 128 ≤ R.locals) (hls : ls.size = nL) (hrest : (rest.map fun v => v.category).sum ≤ 8) (hf1 : cells + 5 ≤ R.cells) (hf2 : slots + 53 ≤ R.slots) (d : decode cc pc = .ok (.invokespecial index, 3))
    (kk : ∀ (H : Heap) (locs : List Loc), Lc E s sz a0 L0 (M ++ kX9 E (a0 + n)) H locs → W p l e R s m args below meth c H locs (cells + 5) (slots + 53) Q (F0 m (pc + 3) ls rest)) : W p l e R s m args below meth c H locs cells slots Q (F0 m pc ls (.ref (a0 + n) :: rest)) :=
  go_k (M' := M ++ kX9 E (a0 + n)) hL (run_IN (rest := rest) (L1 := L0 ++ M) (M1 := [.inr (9, [.null, .null, .null, .null, .null, .int 0])]) C0 hN0 hL (List.append_assoc _ _ _).symm (ha_of hn) (a1_of hL.2.2.2.1 hn) hl lkI_X9_init (k_X9_init C0.2.2.2.2 sz (a0 + n) (L0 ++ M)) ⟨hR1, hR2⟩ hls rfl hrest d ⟨hf1, hf2⟩) (List.append_assoc _ _ _) (hb_of hn) kk
def kX4 (E : EnvT) (a0 : Nat) : List va_E := ((((([.inr (4, [.ref (a0 + 1), .ref (a0 + 17), .ref (a0 + 23), .ref (a0 + 24), .int 0, .int 0, .ref (a0 + 35), .int 0])] ++ kX6 E (a0 + 1)) ++ kX9 E (a0 + 17)) ++ [.inl (eC E 0, 10, .inl (fun _ => 0))]) ++ (.inl (eC E 2, 10, .inr (.inr (.inr (.inr (fun i => some (a0 + 24 + 1 + i)))))) :: List.replicate 10 (.inl (eC E 0, 10, .inl (fun _ => 0))))) ++ [.inl (eC E 0, 64, .inl (fun _ => 0))])
theorem kX4_len (E : EnvT) (a0 : Nat) : (kX4 E a0).length = 36 := (ap_ln (n := 35) (m := 1) (ap_ln (n := 24) (m := 11) (ap_ln (n := 23) (m := 1) (ap_ln (n := 17) (m := 6) (ap_ln (n := 1) (m := 16) rfl (kX6_len _ _)) (kX9_len _ _)) rfl) rfl) rfl)
theorem kX4_g0 (E : EnvT) (a0 : Nat) : (kX4 E a0)[0]? = some (.inr (4, [.ref (a0 + 1), .ref (a0 + 17), .ref (a0 + 23), .ref (a0 + 24), .int 0, .int 0, .ref (a0 + 35), .int 0])) := (ap_gl (ap_gl (ap_gl (ap_gl (ap_gl (rfl))))))
theorem lkI_X4_init : LkI yX4_init cX4_init 1 := ⟨qI_X4_init, qi_X4, qC_X4_init, by decide +kernel, by decide +kernel, by decide +kernel, by decide +kernel, by decide⟩
set_option maxRecDepth 100000 in
set_option maxHeartbeats 4000000 in
theorem k_X4_init {l : Launch} {E : EnvT} (hAd : Ad E) (sz a0 : Nat) (L0 : List va_E) : Met l yX4_init (wsM yX4_init cX4_init 1 none) (rmK 3 35 390) (va_Pc [.ref a0] (PcK E sz a0 L0 [.inr (4, [.null, .null, .null, .null, .int 0, .int 0, .null, .int 0])])) (QvK E sz a0 L0 (kX4 E a0)) 35 390 (eA E) :=
  Met.ofK (by decide) rfl (by decide) hAd (fun p e s m below meth c ls C0 hin2 hN0 hL hl => by
    obtain ⟨⟨hx, hb, hml, hown, hts⟩, hr, hlocks, hF, hAd⟩ := id C0
    refine lv_aload_n hx hb dX4_init_0 rfl (lv_at hl 0 rfl) ?_
    refine k_oinit C0 qM_X4_3 hl.1 rfl ⟨(by show 1 ≤ 3; exact Nat.le_of_ble_eq_true rfl), (by show 12 ≤ 192; exact Nat.le_of_ble_eq_true rfl)⟩ dX4_init_1 ?_
    refine lv_aload_n hx hb dX4_init_4 rfl (lv_at hl 0 rfl) ?_
    refine k_new C0 hL 6 rfl uGX6 tyX6 tyX6_ok qA_X4_9 qn_X6 qi_X6 [.null, .null, .null, .int 0] (by intro j hj; match j, hj with | 0, _ => rfl | 1, _ => rfl | 2, _ => rfl | 3, _ => rfl) 1 rfl (by show 1 ≤ 35; exact Nat.le_of_ble_eq_true rfl) (by show 4 ≤ 390; exact Nat.le_of_ble_eq_true rfl) dX4_init_5 (fun H hL => ?_)
    refine lv_dup hx hb dX4_init_8 rfl ?_
    refine kc_6 (M := [.inr (4, [.null, .null, .null, .null, .int 0, .int 0, .null, .int 0])]) (n := 1) C0 hN0 hL rfl hN0.2.2.2.2.2.2.2.2.1 (by show 3 ≤ 3; exact Nat.le_of_ble_eq_true rfl) (by show 192 ≤ 192; exact Nat.le_of_ble_eq_true rfl) hl.1 (Nat.le_of_ble_eq_true rfl) (by show 16 ≤ 35; exact Nat.le_of_ble_eq_true rfl) (by show 147 ≤ 390; exact Nat.le_of_ble_eq_true rfl) dX4_init_9 (fun H locs hL => ?_)
    refine k_putFT (M' := ([.inr (4, [.ref (a0 + 1), .null, .null, .null, .int 0, .int 0, .null, .int 0])] ++ kX6 E (a0 + 1))) (fs := [.null, .null, .null, .null, .int 0, .int 0, .null, .int 0]) (g := 0) (ty := (.object "HandsInBook$Hands")) C0 hin2 hL 0 (ap_gl (rfl)) (ci := 4) TX4_0 rfl uGX4 tyX4 tyX4_ok nmX4 (by decide) qF_X4_12 (by decide +kernel) rfl rfl (Nat.le_of_ble_eq_true rfl) (ap_sl (ap_lt rfl (Nat.le_of_ble_eq_true rfl)) rfl) dX4_init_12 (fun H locs hL => ?_)
    refine lv_aload_n hx hb dX4_init_15 rfl (lv_at hl 0 rfl) ?_
    refine k_new C0 hL 9 rfl uGX9 tyX9 tyX9_ok qA_X4_18 qn_X9 qi_X9 [.null, .null, .null, .null, .null, .int 0] (by intro j hj; match j, hj with | 0, _ => rfl | 1, _ => rfl | 2, _ => rfl | 3, _ => rfl | 4, _ => rfl | 5, _ => rfl) 17 (ap_ln (n := 1) (m := 16) rfl (kX6_len _ _)) (by show 17 ≤ 35; exact Nat.le_of_ble_eq_true rfl) (by show 153 ≤ 390; exact Nat.le_of_ble_eq_true rfl) dX4_init_16 (fun H hL => ?_)
    refine lv_dup hx hb dX4_init_19 rfl ?_
    refine kc_9 (M := ([.inr (4, [.ref (a0 + 1), .null, .null, .null, .int 0, .int 0, .null, .int 0])] ++ kX6 E (a0 + 1))) (n := 17) C0 hN0 hL (ap_ln (n := 1) (m := 16) rfl (kX6_len _ _)) hN0.2.2.2.2.2.2.2.2.2.2.1 (by show 2 ≤ 3; exact Nat.le_of_ble_eq_true rfl) (by show 128 ≤ 192; exact Nat.le_of_ble_eq_true rfl) hl.1 (Nat.le_of_ble_eq_true rfl) (by show 22 ≤ 35; exact Nat.le_of_ble_eq_true rfl) (by show 206 ≤ 390; exact Nat.le_of_ble_eq_true rfl) dX4_init_20 (fun H locs hL => ?_)
    refine k_putFT (M' := (([.inr (4, [.ref (a0 + 1), .ref (a0 + 17), .null, .null, .int 0, .int 0, .null, .int 0])] ++ kX6 E (a0 + 1)) ++ kX9 E (a0 + 17))) (fs := [.ref (a0 + 1), .null, .null, .null, .int 0, .int 0, .null, .int 0]) (g := 1) (ty := (.object "HandsInBook$Runs")) C0 hin2 hL 0 (ap_gl (ap_gl (rfl))) (ci := 4) TX4_1 rfl uGX4 tyX4 tyX4_ok nmX4 (by decide) qF_X4_21 (by decide +kernel) rfl rfl (Nat.le_of_ble_eq_true rfl) (ap_sl (ap_lt (ap_ln (n := 1) (m := 16) rfl (kX6_len _ _)) (Nat.le_of_ble_eq_true rfl)) (ap_sl (ap_lt rfl (Nat.le_of_ble_eq_true rfl)) rfl)) dX4_init_23 (fun H locs hL => ?_)
    refine lv_aload_n hx hb dX4_init_26 rfl (lv_at hl 0 rfl) ?_
    refine lv_bipush (v := 10) hx hb dX4_init_27 (by decide) ?_
    refine k_newi C0 hL 23 (ap_ln (n := 17) (m := 6) (ap_ln (n := 1) (m := 16) rfl (kX6_len _ _)) (kX9_len _ _)) 10 (by decide) (by decide) (Nat.le_of_ble_eq_true rfl) (by show 23 ≤ 35; exact Nat.le_of_ble_eq_true rfl) (by show 216 ≤ 390; exact Nat.le_of_ble_eq_true rfl) dX4_init_29 (fun H hL => ?_)
    refine k_putFT (M' := ((([.inr (4, [.ref (a0 + 1), .ref (a0 + 17), .ref (a0 + 23), .null, .int 0, .int 0, .null, .int 0])] ++ kX6 E (a0 + 1)) ++ kX9 E (a0 + 17)) ++ [.inl (eC E 0, 10, .inl (fun _ => 0))])) (fs := [.ref (a0 + 1), .ref (a0 + 17), .null, .null, .int 0, .int 0, .null, .int 0]) (g := 2) (ty := (.array .int)) C0 hin2 hL 0 (ap_gl (ap_gl (ap_gl (rfl)))) (ci := 4) TX4_2 rfl uGX4 tyX4 tyX4_ok nmX4 (by decide) qF_X4_25 (by decide +kernel) rfl rfl (Nat.le_of_ble_eq_true rfl) (ap_sl (ap_lt (ap_ln (n := 17) (m := 6) (ap_ln (n := 1) (m := 16) rfl (kX6_len _ _)) (kX9_len _ _)) (Nat.le_of_ble_eq_true rfl)) (ap_sl (ap_lt (ap_ln (n := 1) (m := 16) rfl (kX6_len _ _)) (Nat.le_of_ble_eq_true rfl)) (ap_sl (ap_lt rfl (Nat.le_of_ble_eq_true rfl)) rfl))) dX4_init_31 (fun H locs hL => ?_)
    refine lv_aload_n hx hb dX4_init_34 rfl (lv_at hl 0 rfl) ?_
    refine lv_bipush (v := 10) hx hb dX4_init_35 (by decide) ?_
    refine lv_bipush (v := 10) hx hb dX4_init_37 (by decide) ?_
    refine k_mna C0 hN0 hL 24 (ap_ln (n := 23) (m := 1) (ap_ln (n := 17) (m := 6) (ap_ln (n := 1) (m := 16) rfl (kX6_len _ _)) (kX9_len _ _)) rfl) 10 10 (by decide) (by decide) (by decide) (by decide) (Nat.le_of_ble_eq_true rfl) (Nat.le_of_ble_eq_true rfl) (Nat.le_of_ble_eq_true rfl) qA_X4_29 (by show 34 ≤ 35; exact Nat.le_of_ble_eq_true rfl) (by show 326 ≤ 390; exact Nat.le_of_ble_eq_true rfl) dX4_init_39 (fun H hL => ?_)
    refine k_putFT (M' := (((([.inr (4, [.ref (a0 + 1), .ref (a0 + 17), .ref (a0 + 23), .ref (a0 + 24), .int 0, .int 0, .null, .int 0])] ++ kX6 E (a0 + 1)) ++ kX9 E (a0 + 17)) ++ [.inl (eC E 0, 10, .inl (fun _ => 0))]) ++ (.inl (eC E 2, 10, .inr (.inr (.inr (.inr (fun i => some (a0 + 24 + 1 + i)))))) :: List.replicate 10 (.inl (eC E 0, 10, .inl (fun _ => 0)))))) (fs := [.ref (a0 + 1), .ref (a0 + 17), .ref (a0 + 23), .null, .int 0, .int 0, .null, .int 0]) (g := 3) (ty := (.array (.array .int))) C0 hin2 hL 0 (ap_gl (ap_gl (ap_gl (ap_gl (rfl))))) (ci := 4) TX4_3 rfl uGX4 tyX4 tyX4_ok nmX4 (by decide) qF_X4_31 (by decide +kernel) rfl rfl (Nat.le_of_ble_eq_true rfl) (ap_sl (ap_lt (ap_ln (n := 23) (m := 1) (ap_ln (n := 17) (m := 6) (ap_ln (n := 1) (m := 16) rfl (kX6_len _ _)) (kX9_len _ _)) rfl) (Nat.le_of_ble_eq_true rfl)) (ap_sl (ap_lt (ap_ln (n := 17) (m := 6) (ap_ln (n := 1) (m := 16) rfl (kX6_len _ _)) (kX9_len _ _)) (Nat.le_of_ble_eq_true rfl)) (ap_sl (ap_lt (ap_ln (n := 1) (m := 16) rfl (kX6_len _ _)) (Nat.le_of_ble_eq_true rfl)) (ap_sl (ap_lt rfl (Nat.le_of_ble_eq_true rfl)) rfl)))) dX4_init_43 (fun H locs hL => ?_)
    refine lv_aload_n hx hb dX4_init_46 rfl (lv_at hl 0 rfl) ?_
    refine lv_iconst (v := 0) hx hb dX4_init_47 (by decide) ?_
    refine k_putT (M' := (((([.inr (4, [.ref (a0 + 1), .ref (a0 + 17), .ref (a0 + 23), .ref (a0 + 24), .int 0, .int 0, .null, .int 0])] ++ kX6 E (a0 + 1)) ++ kX9 E (a0 + 17)) ++ [.inl (eC E 0, 10, .inl (fun _ => 0))]) ++ (.inl (eC E 2, 10, .inr (.inr (.inr (.inr (fun i => some (a0 + 24 + 1 + i)))))) :: List.replicate 10 (.inl (eC E 0, 10, .inl (fun _ => 0)))))) (fs := [.ref (a0 + 1), .ref (a0 + 17), .ref (a0 + 23), .ref (a0 + 24), .int 0, .int 0, .null, .int 0]) (g := 4) (ty := .int) C0 hL 0 (ap_gl (ap_gl (ap_gl (ap_gl (rfl))))) (ci := 4) TX4_4 rfl uGX4 tyX4 tyX4_ok nmX4 (by decide) qF_X4_34 (by decide +kernel) rfl rfl (Nat.le_of_ble_eq_true rfl) (ap_sl (ap_lt (ap_ln (n := 23) (m := 1) (ap_ln (n := 17) (m := 6) (ap_ln (n := 1) (m := 16) rfl (kX6_len _ _)) (kX9_len _ _)) rfl) (Nat.le_of_ble_eq_true rfl)) (ap_sl (ap_lt (ap_ln (n := 17) (m := 6) (ap_ln (n := 1) (m := 16) rfl (kX6_len _ _)) (kX9_len _ _)) (Nat.le_of_ble_eq_true rfl)) (ap_sl (ap_lt (ap_ln (n := 1) (m := 16) rfl (kX6_len _ _)) (Nat.le_of_ble_eq_true rfl)) (ap_sl (ap_lt rfl (Nat.le_of_ble_eq_true rfl)) rfl)))) dX4_init_48 (fun H locs hL => ?_)
    refine lv_aload_n hx hb dX4_init_51 rfl (lv_at hl 0 rfl) ?_
    refine lv_iconst (v := 0) hx hb dX4_init_52 (by decide) ?_
    refine k_putT (M' := (((([.inr (4, [.ref (a0 + 1), .ref (a0 + 17), .ref (a0 + 23), .ref (a0 + 24), .int 0, .int 0, .null, .int 0])] ++ kX6 E (a0 + 1)) ++ kX9 E (a0 + 17)) ++ [.inl (eC E 0, 10, .inl (fun _ => 0))]) ++ (.inl (eC E 2, 10, .inr (.inr (.inr (.inr (fun i => some (a0 + 24 + 1 + i)))))) :: List.replicate 10 (.inl (eC E 0, 10, .inl (fun _ => 0)))))) (fs := [.ref (a0 + 1), .ref (a0 + 17), .ref (a0 + 23), .ref (a0 + 24), .int 0, .int 0, .null, .int 0]) (g := 5) (ty := .int) C0 hL 0 (ap_gl (ap_gl (ap_gl (ap_gl (rfl))))) (ci := 4) TX4_5 rfl uGX4 tyX4 tyX4_ok nmX4 (by decide) qF_X4_38 (by decide +kernel) rfl rfl (Nat.le_of_ble_eq_true rfl) (ap_sl (ap_lt (ap_ln (n := 23) (m := 1) (ap_ln (n := 17) (m := 6) (ap_ln (n := 1) (m := 16) rfl (kX6_len _ _)) (kX9_len _ _)) rfl) (Nat.le_of_ble_eq_true rfl)) (ap_sl (ap_lt (ap_ln (n := 17) (m := 6) (ap_ln (n := 1) (m := 16) rfl (kX6_len _ _)) (kX9_len _ _)) (Nat.le_of_ble_eq_true rfl)) (ap_sl (ap_lt (ap_ln (n := 1) (m := 16) rfl (kX6_len _ _)) (Nat.le_of_ble_eq_true rfl)) (ap_sl (ap_lt rfl (Nat.le_of_ble_eq_true rfl)) rfl)))) dX4_init_53 (fun H locs hL => ?_)
    refine lv_aload_n hx hb dX4_init_56 rfl (lv_at hl 0 rfl) ?_
    refine lv_bipush (v := 64) hx hb dX4_init_57 (by decide) ?_
    refine k_newi C0 hL 35 (ap_ln (n := 24) (m := 11) (ap_ln (n := 23) (m := 1) (ap_ln (n := 17) (m := 6) (ap_ln (n := 1) (m := 16) rfl (kX6_len _ _)) (kX9_len _ _)) rfl) rfl) 64 (by decide) (by decide) (Nat.le_of_ble_eq_true rfl) (by show 35 ≤ 35; exact Nat.le_of_ble_eq_true rfl) (by show 390 ≤ 390; exact Nat.le_of_ble_eq_true rfl) dX4_init_59 (fun H hL => ?_)
    refine k_putFT (M' := ((((([.inr (4, [.ref (a0 + 1), .ref (a0 + 17), .ref (a0 + 23), .ref (a0 + 24), .int 0, .int 0, .ref (a0 + 35), .int 0])] ++ kX6 E (a0 + 1)) ++ kX9 E (a0 + 17)) ++ [.inl (eC E 0, 10, .inl (fun _ => 0))]) ++ (.inl (eC E 2, 10, .inr (.inr (.inr (.inr (fun i => some (a0 + 24 + 1 + i)))))) :: List.replicate 10 (.inl (eC E 0, 10, .inl (fun _ => 0))))) ++ [.inl (eC E 0, 64, .inl (fun _ => 0))])) (fs := [.ref (a0 + 1), .ref (a0 + 17), .ref (a0 + 23), .ref (a0 + 24), .int 0, .int 0, .null, .int 0]) (g := 6) (ty := (.array .int)) C0 hin2 hL 0 (ap_gl (ap_gl (ap_gl (ap_gl (ap_gl (rfl)))))) (ci := 4) TX4_6 rfl uGX4 tyX4 tyX4_ok nmX4 (by decide) qF_X4_41 (by decide +kernel) rfl rfl (Nat.le_of_ble_eq_true rfl) (ap_sl (ap_lt (ap_ln (n := 24) (m := 11) (ap_ln (n := 23) (m := 1) (ap_ln (n := 17) (m := 6) (ap_ln (n := 1) (m := 16) rfl (kX6_len _ _)) (kX9_len _ _)) rfl) rfl) (Nat.le_of_ble_eq_true rfl)) (ap_sl (ap_lt (ap_ln (n := 23) (m := 1) (ap_ln (n := 17) (m := 6) (ap_ln (n := 1) (m := 16) rfl (kX6_len _ _)) (kX9_len _ _)) rfl) (Nat.le_of_ble_eq_true rfl)) (ap_sl (ap_lt (ap_ln (n := 17) (m := 6) (ap_ln (n := 1) (m := 16) rfl (kX6_len _ _)) (kX9_len _ _)) (Nat.le_of_ble_eq_true rfl)) (ap_sl (ap_lt (ap_ln (n := 1) (m := 16) rfl (kX6_len _ _)) (Nat.le_of_ble_eq_true rfl)) (ap_sl (ap_lt rfl (Nat.le_of_ble_eq_true rfl)) rfl))))) dX4_init_61 (fun H locs hL => ?_)
    refine lv_aload_n hx hb dX4_init_64 rfl (lv_at hl 0 rfl) ?_
    refine lv_iconst (v := 0) hx hb dX4_init_65 (by decide) ?_
    refine k_putT (M' := ((((([.inr (4, [.ref (a0 + 1), .ref (a0 + 17), .ref (a0 + 23), .ref (a0 + 24), .int 0, .int 0, .ref (a0 + 35), .int 0])] ++ kX6 E (a0 + 1)) ++ kX9 E (a0 + 17)) ++ [.inl (eC E 0, 10, .inl (fun _ => 0))]) ++ (.inl (eC E 2, 10, .inr (.inr (.inr (.inr (fun i => some (a0 + 24 + 1 + i)))))) :: List.replicate 10 (.inl (eC E 0, 10, .inl (fun _ => 0))))) ++ [.inl (eC E 0, 64, .inl (fun _ => 0))])) (fs := [.ref (a0 + 1), .ref (a0 + 17), .ref (a0 + 23), .ref (a0 + 24), .int 0, .int 0, .ref (a0 + 35), .int 0]) (g := 7) (ty := .int) C0 hL 0 (ap_gl (ap_gl (ap_gl (ap_gl (ap_gl (rfl)))))) (ci := 4) TX4_7 rfl uGX4 tyX4 tyX4_ok nmX4 (by decide) qF_X4_44 (by decide +kernel) rfl rfl (Nat.le_of_ble_eq_true rfl) (ap_sl (ap_lt (ap_ln (n := 24) (m := 11) (ap_ln (n := 23) (m := 1) (ap_ln (n := 17) (m := 6) (ap_ln (n := 1) (m := 16) rfl (kX6_len _ _)) (kX9_len _ _)) rfl) rfl) (Nat.le_of_ble_eq_true rfl)) (ap_sl (ap_lt (ap_ln (n := 23) (m := 1) (ap_ln (n := 17) (m := 6) (ap_ln (n := 1) (m := 16) rfl (kX6_len _ _)) (kX9_len _ _)) rfl) (Nat.le_of_ble_eq_true rfl)) (ap_sl (ap_lt (ap_ln (n := 17) (m := 6) (ap_ln (n := 1) (m := 16) rfl (kX6_len _ _)) (kX9_len _ _)) (Nat.le_of_ble_eq_true rfl)) (ap_sl (ap_lt (ap_ln (n := 1) (m := 16) rfl (kX6_len _ _)) (Nat.le_of_ble_eq_true rfl)) (ap_sl (ap_lt rfl (Nat.le_of_ble_eq_true rfl)) rfl))))) dX4_init_66 (fun H locs hL => ?_)
    exact k_vret C0 hL dX4_init_69 (by show 35 = 35; rfl) (by show 390 = 390; rfl))
theorem kc_4 {p : Program} {l : Launch} {e : Env} {R : Room} {s : State} {m : MethodId} {args : Array Value} {below : List Frame} {meth : Method} {c : Code} {H : Heap} {locs : List Loc} {Q : State → Prop} {cells slots : Nat} {E : EnvT} {cc : ByteArray} {nL : Nat} {own : String} {ret : Option FieldType} {pc : Nat} {ls : Array Slot} {rest : List Value} {sz a0 : Nat} {L0 M : List va_E} {n index : Nat} (C0 : Cx E p m c cc nL s args own meth ret) (hN0 : Nx s) (hL : Lc E s sz a0 L0 (M ++ [.inr (4, [.null, .null, .null, .null, .int 0, .int 0, .null, .int 0])]) H locs) (hn : M.length = n) (hl : va_Nw (.methodLinkNest own index yX4_init RX11) s) (hR1 : 4 ≤ R.frames) (hR2 : 256 ≤ R.locals) (hls : ls.size = nL) (hrest : (rest.map fun v => v.category).sum ≤ 8) (hf1 : cells + 35 ≤ R.cells) (hf2 : slots + 390 ≤ R.slots) (d : decode cc pc = .ok (.invokespecial index, 3))
    (kk : ∀ (H : Heap) (locs : List Loc), Lc E s sz a0 L0 (M ++ kX4 E (a0 + n)) H locs → W p l e R s m args below meth c H locs (cells + 35) (slots + 390) Q (F0 m (pc + 3) ls rest)) : W p l e R s m args below meth c H locs cells slots Q (F0 m pc ls (.ref (a0 + n) :: rest)) :=
  go_k (M' := M ++ kX4 E (a0 + n)) hL (run_IN (rest := rest) (L1 := L0 ++ M) (M1 := [.inr (4, [.null, .null, .null, .null, .int 0, .int 0, .null, .int 0])]) C0 hN0 hL (List.append_assoc _ _ _).symm (ha_of hn) (a1_of hL.2.2.2.1 hn) hl lkI_X4_init (k_X4_init C0.2.2.2.2 sz (a0 + n) (L0 ++ M)) ⟨hR1, hR2⟩ hls rfl hrest d ⟨hf1, hf2⟩) (List.append_assoc _ _ _) (hb_of hn) kk
def kX3 (E : EnvT) (a0 : Nat) : List va_E := ((((([.inr (3, [.ref (a0 + 1), .ref (a0 + 7), .ref (a0 + 23), .int 0, .ref (a0 + 24), .ref (a0 + 25)])] ++ kX2 E (a0 + 1)) ++ kX6 E (a0 + 7)) ++ [.inl (eC E 0, 10, .inl (fun _ => 0))]) ++ [.inl (eC E 0, 1024, .inl (fun _ => 0))]) ++ [.inl (eC E 0, 11, .inl (fun _ => 0))])
theorem kX3_len (E : EnvT) (a0 : Nat) : (kX3 E a0).length = 26 := (ap_ln (n := 25) (m := 1) (ap_ln (n := 24) (m := 1) (ap_ln (n := 23) (m := 1) (ap_ln (n := 7) (m := 16) (ap_ln (n := 1) (m := 6) rfl (kX2_len _ _)) (kX6_len _ _)) rfl) rfl) rfl)
theorem kX3_g0 (E : EnvT) (a0 : Nat) : (kX3 E a0)[0]? = some (.inr (3, [.ref (a0 + 1), .ref (a0 + 7), .ref (a0 + 23), .int 0, .ref (a0 + 24), .ref (a0 + 25)])) := (ap_gl (ap_gl (ap_gl (ap_gl (ap_gl (rfl))))))
theorem lkI_X3_init : LkI yX3_init cX3_init 1 := ⟨qI_X3_init, qi_X3, qC_X3_init, by decide +kernel, by decide +kernel, by decide +kernel, by decide +kernel, by decide⟩
set_option maxRecDepth 100000 in
set_option maxHeartbeats 4000000 in
theorem k_X3_init {l : Launch} {E : EnvT} (hAd : Ad E) (sz a0 : Nat) (L0 : List va_E) : Met l yX3_init (wsM yX3_init cX3_init 1 none) (rmK 3 25 1240) (va_Pc [.ref a0] (PcK E sz a0 L0 [.inr (3, [.null, .null, .null, .int 0, .null, .null])])) (QvK E sz a0 L0 (kX3 E a0)) 25 1240 (eA E) :=
  Met.ofK (by decide) rfl (by decide) hAd (fun p e s m below meth c ls C0 hin2 hN0 hL hl => by
    obtain ⟨⟨hx, hb, hml, hown, hts⟩, hr, hlocks, hF, hAd⟩ := id C0
    refine lv_aload_n hx hb dX3_init_0 rfl (lv_at hl 0 rfl) ?_
    refine k_oinit C0 qM_X3_3 hl.1 rfl ⟨(by show 1 ≤ 3; exact Nat.le_of_ble_eq_true rfl), (by show 12 ≤ 192; exact Nat.le_of_ble_eq_true rfl)⟩ dX3_init_1 ?_
    refine lv_aload_n hx hb dX3_init_4 rfl (lv_at hl 0 rfl) ?_
    refine k_new C0 hL 2 rfl uGX2 tyX2 tyX2_ok qA_X3_9 qn_X2 qi_X2 [.int 0, .int 0, .int 0, .null, .null] (by intro j hj; match j, hj with | 0, _ => rfl | 1, _ => rfl | 2, _ => rfl | 3, _ => rfl | 4, _ => rfl) 1 rfl (by show 1 ≤ 25; exact Nat.le_of_ble_eq_true rfl) (by show 5 ≤ 1240; exact Nat.le_of_ble_eq_true rfl) dX3_init_5 (fun H hL => ?_)
    refine lv_dup hx hb dX3_init_8 rfl ?_
    refine kc_2 (M := [.inr (3, [.null, .null, .null, .int 0, .null, .null])]) (n := 1) C0 hN0 hL rfl hN0.2.2.2.2.2.2.2.2.2.2.2.2.1 (by show 2 ≤ 3; exact Nat.le_of_ble_eq_true rfl) (by show 128 ≤ 192; exact Nat.le_of_ble_eq_true rfl) hl.1 (Nat.le_of_ble_eq_true rfl) (by show 6 ≤ 25; exact Nat.le_of_ble_eq_true rfl) (by show 48 ≤ 1240; exact Nat.le_of_ble_eq_true rfl) dX3_init_9 (fun H locs hL => ?_)
    refine k_putFT (M' := ([.inr (3, [.ref (a0 + 1), .null, .null, .int 0, .null, .null])] ++ kX2 E (a0 + 1))) (fs := [.null, .null, .null, .int 0, .null, .null]) (g := 0) (ty := (.object "HandsInBook$Book")) C0 hin2 hL 0 (ap_gl (rfl)) (ci := 3) TX3_0 rfl uGX3 tyX3 tyX3_ok nmX3 (by decide) qF_X3_12 (by decide +kernel) rfl rfl (Nat.le_of_ble_eq_true rfl) (ap_sl (ap_lt rfl (Nat.le_of_ble_eq_true rfl)) rfl) dX3_init_12 (fun H locs hL => ?_)
    refine lv_aload_n hx hb dX3_init_15 rfl (lv_at hl 0 rfl) ?_
    refine k_new C0 hL 6 rfl uGX6 tyX6 tyX6_ok qA_X3_18 qn_X6 qi_X6 [.null, .null, .null, .int 0] (by intro j hj; match j, hj with | 0, _ => rfl | 1, _ => rfl | 2, _ => rfl | 3, _ => rfl) 7 (ap_ln (n := 1) (m := 6) rfl (kX2_len _ _)) (by show 7 ≤ 25; exact Nat.le_of_ble_eq_true rfl) (by show 52 ≤ 1240; exact Nat.le_of_ble_eq_true rfl) dX3_init_16 (fun H hL => ?_)
    refine lv_dup hx hb dX3_init_19 rfl ?_
    refine kc_6 (M := ([.inr (3, [.ref (a0 + 1), .null, .null, .int 0, .null, .null])] ++ kX2 E (a0 + 1))) (n := 7) C0 hN0 hL (ap_ln (n := 1) (m := 6) rfl (kX2_len _ _)) hN0.2.2.2.2.2.2.2.2.2.2.2.2.2.1 (by show 3 ≤ 3; exact Nat.le_of_ble_eq_true rfl) (by show 192 ≤ 192; exact Nat.le_of_ble_eq_true rfl) hl.1 (Nat.le_of_ble_eq_true rfl) (by show 22 ≤ 25; exact Nat.le_of_ble_eq_true rfl) (by show 195 ≤ 1240; exact Nat.le_of_ble_eq_true rfl) dX3_init_20 (fun H locs hL => ?_)
    refine k_putFT (M' := (([.inr (3, [.ref (a0 + 1), .ref (a0 + 7), .null, .int 0, .null, .null])] ++ kX2 E (a0 + 1)) ++ kX6 E (a0 + 7))) (fs := [.ref (a0 + 1), .null, .null, .int 0, .null, .null]) (g := 1) (ty := (.object "HandsInBook$Hands")) C0 hin2 hL 0 (ap_gl (ap_gl (rfl))) (ci := 3) TX3_1 rfl uGX3 tyX3 tyX3_ok nmX3 (by decide) qF_X3_21 (by decide +kernel) rfl rfl (Nat.le_of_ble_eq_true rfl) (ap_sl (ap_lt (ap_ln (n := 1) (m := 6) rfl (kX2_len _ _)) (Nat.le_of_ble_eq_true rfl)) (ap_sl (ap_lt rfl (Nat.le_of_ble_eq_true rfl)) rfl)) dX3_init_23 (fun H locs hL => ?_)
    refine lv_aload_n hx hb dX3_init_26 rfl (lv_at hl 0 rfl) ?_
    refine lv_bipush (v := 10) hx hb dX3_init_27 (by decide) ?_
    refine k_newi C0 hL 23 (ap_ln (n := 7) (m := 16) (ap_ln (n := 1) (m := 6) rfl (kX2_len _ _)) (kX6_len _ _)) 10 (by decide) (by decide) (Nat.le_of_ble_eq_true rfl) (by show 23 ≤ 25; exact Nat.le_of_ble_eq_true rfl) (by show 205 ≤ 1240; exact Nat.le_of_ble_eq_true rfl) dX3_init_29 (fun H hL => ?_)
    refine k_putFT (M' := ((([.inr (3, [.ref (a0 + 1), .ref (a0 + 7), .ref (a0 + 23), .int 0, .null, .null])] ++ kX2 E (a0 + 1)) ++ kX6 E (a0 + 7)) ++ [.inl (eC E 0, 10, .inl (fun _ => 0))])) (fs := [.ref (a0 + 1), .ref (a0 + 7), .null, .int 0, .null, .null]) (g := 2) (ty := (.array .int)) C0 hin2 hL 0 (ap_gl (ap_gl (ap_gl (rfl)))) (ci := 3) TX3_2 rfl uGX3 tyX3 tyX3_ok nmX3 (by decide) qF_X3_25 (by decide +kernel) rfl rfl (Nat.le_of_ble_eq_true rfl) (ap_sl (ap_lt (ap_ln (n := 7) (m := 16) (ap_ln (n := 1) (m := 6) rfl (kX2_len _ _)) (kX6_len _ _)) (Nat.le_of_ble_eq_true rfl)) (ap_sl (ap_lt (ap_ln (n := 1) (m := 6) rfl (kX2_len _ _)) (Nat.le_of_ble_eq_true rfl)) (ap_sl (ap_lt rfl (Nat.le_of_ble_eq_true rfl)) rfl))) dX3_init_31 (fun H locs hL => ?_)
    refine lv_aload_n hx hb dX3_init_34 rfl (lv_at hl 0 rfl) ?_
    refine lv_iconst (v := 0) hx hb dX3_init_35 (by decide) ?_
    refine k_putT (M' := ((([.inr (3, [.ref (a0 + 1), .ref (a0 + 7), .ref (a0 + 23), .int 0, .null, .null])] ++ kX2 E (a0 + 1)) ++ kX6 E (a0 + 7)) ++ [.inl (eC E 0, 10, .inl (fun _ => 0))])) (fs := [.ref (a0 + 1), .ref (a0 + 7), .ref (a0 + 23), .int 0, .null, .null]) (g := 3) (ty := .int) C0 hL 0 (ap_gl (ap_gl (ap_gl (rfl)))) (ci := 3) TX3_3 rfl uGX3 tyX3 tyX3_ok nmX3 (by decide) qF_X3_29 (by decide +kernel) rfl rfl (Nat.le_of_ble_eq_true rfl) (ap_sl (ap_lt (ap_ln (n := 7) (m := 16) (ap_ln (n := 1) (m := 6) rfl (kX2_len _ _)) (kX6_len _ _)) (Nat.le_of_ble_eq_true rfl)) (ap_sl (ap_lt (ap_ln (n := 1) (m := 6) rfl (kX2_len _ _)) (Nat.le_of_ble_eq_true rfl)) (ap_sl (ap_lt rfl (Nat.le_of_ble_eq_true rfl)) rfl))) dX3_init_36 (fun H locs hL => ?_)
    refine lv_aload_n hx hb dX3_init_39 rfl (lv_at hl 0 rfl) ?_
    refine lv_sipush (v := 1024) hx hb dX3_init_40 (by decide) ?_
    refine k_newi C0 hL 24 (ap_ln (n := 23) (m := 1) (ap_ln (n := 7) (m := 16) (ap_ln (n := 1) (m := 6) rfl (kX2_len _ _)) (kX6_len _ _)) rfl) 1024 (by decide) (by decide) (Nat.le_of_ble_eq_true rfl) (by show 24 ≤ 25; exact Nat.le_of_ble_eq_true rfl) (by show 1229 ≤ 1240; exact Nat.le_of_ble_eq_true rfl) dX3_init_43 (fun H hL => ?_)
    refine k_putFT (M' := (((([.inr (3, [.ref (a0 + 1), .ref (a0 + 7), .ref (a0 + 23), .int 0, .ref (a0 + 24), .null])] ++ kX2 E (a0 + 1)) ++ kX6 E (a0 + 7)) ++ [.inl (eC E 0, 10, .inl (fun _ => 0))]) ++ [.inl (eC E 0, 1024, .inl (fun _ => 0))])) (fs := [.ref (a0 + 1), .ref (a0 + 7), .ref (a0 + 23), .int 0, .null, .null]) (g := 4) (ty := (.array .int)) C0 hin2 hL 0 (ap_gl (ap_gl (ap_gl (ap_gl (rfl))))) (ci := 3) TX3_4 rfl uGX3 tyX3 tyX3_ok nmX3 (by decide) qF_X3_33 (by decide +kernel) rfl rfl (Nat.le_of_ble_eq_true rfl) (ap_sl (ap_lt (ap_ln (n := 23) (m := 1) (ap_ln (n := 7) (m := 16) (ap_ln (n := 1) (m := 6) rfl (kX2_len _ _)) (kX6_len _ _)) rfl) (Nat.le_of_ble_eq_true rfl)) (ap_sl (ap_lt (ap_ln (n := 7) (m := 16) (ap_ln (n := 1) (m := 6) rfl (kX2_len _ _)) (kX6_len _ _)) (Nat.le_of_ble_eq_true rfl)) (ap_sl (ap_lt (ap_ln (n := 1) (m := 6) rfl (kX2_len _ _)) (Nat.le_of_ble_eq_true rfl)) (ap_sl (ap_lt rfl (Nat.le_of_ble_eq_true rfl)) rfl)))) dX3_init_45 (fun H locs hL => ?_)
    refine lv_aload_n hx hb dX3_init_48 rfl (lv_at hl 0 rfl) ?_
    refine lv_bipush (v := 11) hx hb dX3_init_49 (by decide) ?_
    refine k_newi C0 hL 25 (ap_ln (n := 24) (m := 1) (ap_ln (n := 23) (m := 1) (ap_ln (n := 7) (m := 16) (ap_ln (n := 1) (m := 6) rfl (kX2_len _ _)) (kX6_len _ _)) rfl) rfl) 11 (by decide) (by decide) (Nat.le_of_ble_eq_true rfl) (by show 25 ≤ 25; exact Nat.le_of_ble_eq_true rfl) (by show 1240 ≤ 1240; exact Nat.le_of_ble_eq_true rfl) dX3_init_51 (fun H hL => ?_)
    refine k_putFT (M' := ((((([.inr (3, [.ref (a0 + 1), .ref (a0 + 7), .ref (a0 + 23), .int 0, .ref (a0 + 24), .ref (a0 + 25)])] ++ kX2 E (a0 + 1)) ++ kX6 E (a0 + 7)) ++ [.inl (eC E 0, 10, .inl (fun _ => 0))]) ++ [.inl (eC E 0, 1024, .inl (fun _ => 0))]) ++ [.inl (eC E 0, 11, .inl (fun _ => 0))])) (fs := [.ref (a0 + 1), .ref (a0 + 7), .ref (a0 + 23), .int 0, .ref (a0 + 24), .null]) (g := 5) (ty := (.array .int)) C0 hin2 hL 0 (ap_gl (ap_gl (ap_gl (ap_gl (ap_gl (rfl)))))) (ci := 3) TX3_5 rfl uGX3 tyX3 tyX3_ok nmX3 (by decide) qF_X3_36 (by decide +kernel) rfl rfl (Nat.le_of_ble_eq_true rfl) (ap_sl (ap_lt (ap_ln (n := 24) (m := 1) (ap_ln (n := 23) (m := 1) (ap_ln (n := 7) (m := 16) (ap_ln (n := 1) (m := 6) rfl (kX2_len _ _)) (kX6_len _ _)) rfl) rfl) (Nat.le_of_ble_eq_true rfl)) (ap_sl (ap_lt (ap_ln (n := 23) (m := 1) (ap_ln (n := 7) (m := 16) (ap_ln (n := 1) (m := 6) rfl (kX2_len _ _)) (kX6_len _ _)) rfl) (Nat.le_of_ble_eq_true rfl)) (ap_sl (ap_lt (ap_ln (n := 7) (m := 16) (ap_ln (n := 1) (m := 6) rfl (kX2_len _ _)) (kX6_len _ _)) (Nat.le_of_ble_eq_true rfl)) (ap_sl (ap_lt (ap_ln (n := 1) (m := 6) rfl (kX2_len _ _)) (Nat.le_of_ble_eq_true rfl)) (ap_sl (ap_lt rfl (Nat.le_of_ble_eq_true rfl)) rfl))))) dX3_init_53 (fun H locs hL => ?_)
    exact k_vret C0 hL dX3_init_56 (by show 25 = 25; rfl) (by show 1240 = 1240; rfl))
theorem kc_3 {p : Program} {l : Launch} {e : Env} {R : Room} {s : State} {m : MethodId} {args : Array Value} {below : List Frame} {meth : Method} {c : Code} {H : Heap} {locs : List Loc} {Q : State → Prop} {cells slots : Nat} {E : EnvT} {cc : ByteArray} {nL : Nat} {own : String} {ret : Option FieldType} {pc : Nat} {ls : Array Slot} {rest : List Value} {sz a0 : Nat} {L0 M : List va_E} {n index : Nat} (C0 : Cx E p m c cc nL s args own meth ret) (hN0 : Nx s) (hL : Lc E s sz a0 L0 (M ++ [.inr (3, [.null, .null, .null, .int 0, .null, .null])]) H locs) (hn : M.length = n) (hl : va_Nw (.methodLinkNest own index yX3_init RX11) s) (hR1 : 4 ≤ R.frames) (hR2 : 256 ≤ R.locals) (hls : ls.size = nL) (hrest : (rest.map fun v => v.category).sum ≤ 8) (hf1 : cells + 25 ≤ R.cells) (hf2 : slots + 1240 ≤ R.slots) (d : decode cc pc = .ok (.invokespecial index, 3))
    (kk : ∀ (H : Heap) (locs : List Loc), Lc E s sz a0 L0 (M ++ kX3 E (a0 + n)) H locs → W p l e R s m args below meth c H locs (cells + 25) (slots + 1240) Q (F0 m (pc + 3) ls rest)) : W p l e R s m args below meth c H locs cells slots Q (F0 m pc ls (.ref (a0 + n) :: rest)) :=
  go_k (M' := M ++ kX3 E (a0 + n)) hL (run_IN (rest := rest) (L1 := L0 ++ M) (M1 := [.inr (3, [.null, .null, .null, .int 0, .null, .null])]) C0 hN0 hL (List.append_assoc _ _ _).symm (ha_of hn) (a1_of hL.2.2.2.1 hn) hl lkI_X3_init (k_X3_init C0.2.2.2.2 sz (a0 + n) (L0 ++ M)) ⟨hR1, hR2⟩ hls rfl hrest d ⟨hf1, hf2⟩) (List.append_assoc _ _ _) (hb_of hn) kk
def kX1 (E : EnvT) (a0 : Nat) : List va_E := ([.inr (1, [.ref (a0 + 1), .int 0, .int 0, .int 0, .int 0, .int 0])] ++ [.inl (eC E 0, 16, .inl (fun _ => 0))])
theorem kX1_len (E : EnvT) (a0 : Nat) : (kX1 E a0).length = 2 := (ap_ln (n := 1) (m := 1) rfl rfl)
theorem kX1_g0 (E : EnvT) (a0 : Nat) : (kX1 E a0)[0]? = some (.inr (1, [.ref (a0 + 1), .int 0, .int 0, .int 0, .int 0, .int 0])) := (ap_gl (rfl))
theorem lkI_X1_init : LkI yX1_init cX1_init 1 := ⟨qI_X1_init, qi_X1, qC_X1_init, by decide +kernel, by decide +kernel, by decide +kernel, by decide +kernel, by decide⟩
set_option maxRecDepth 100000 in
set_option maxHeartbeats 4000000 in
theorem k_X1_init {l : Launch} {E : EnvT} (hAd : Ad E) (sz a0 : Nat) (L0 : List va_E) : Met l yX1_init (wsM yX1_init cX1_init 1 none) (rmK 1 1 16) (va_Pc [.ref a0] (PcK E sz a0 L0 [.inr (1, [.null, .int 0, .int 0, .int 0, .int 0, .int 0])])) (QvK E sz a0 L0 (kX1 E a0)) 1 16 (eA E) :=
  Met.ofK (by decide) rfl (by decide) hAd (fun p e s m below meth c ls C0 hin2 hN0 hL hl => by
    obtain ⟨⟨hx, hb, hml, hown, hts⟩, hr, hlocks, hF, hAd⟩ := id C0
    refine lv_aload_n hx hb dX1_init_0 rfl (lv_at hl 0 rfl) ?_
    refine k_oinit C0 qM_X1_3 hl.1 rfl ⟨(by show 1 ≤ 1; exact Nat.le_of_ble_eq_true rfl), (by show 12 ≤ 64; exact Nat.le_of_ble_eq_true rfl)⟩ dX1_init_1 ?_
    refine lv_aload_n hx hb dX1_init_4 rfl (lv_at hl 0 rfl) ?_
    refine lv_bipush (v := 16) hx hb dX1_init_5 (by decide) ?_
    refine k_newi C0 hL 1 rfl 16 (by decide) (by decide) (Nat.le_of_ble_eq_true rfl) (by show 1 ≤ 1; exact Nat.le_of_ble_eq_true rfl) (by show 16 ≤ 16; exact Nat.le_of_ble_eq_true rfl) dX1_init_7 (fun H hL => ?_)
    refine k_putFT (M' := ([.inr (1, [.ref (a0 + 1), .int 0, .int 0, .int 0, .int 0, .int 0])] ++ [.inl (eC E 0, 16, .inl (fun _ => 0))])) (fs := [.null, .int 0, .int 0, .int 0, .int 0, .int 0]) (g := 0) (ty := (.array .int)) C0 hin2 hL 0 (ap_gl (rfl)) (ci := 1) TX1_0 rfl uGX1 tyX1 tyX1_ok nmX1 (by decide) qF_X1_9 (by decide +kernel) rfl rfl (Nat.le_of_ble_eq_true rfl) (ap_sl (ap_lt rfl (Nat.le_of_ble_eq_true rfl)) rfl) dX1_init_9 (fun H locs hL => ?_)
    refine lv_aload_n hx hb dX1_init_12 rfl (lv_at hl 0 rfl) ?_
    refine lv_iconst (v := 0) hx hb dX1_init_13 (by decide) ?_
    refine k_putT (M' := ([.inr (1, [.ref (a0 + 1), .int 0, .int 0, .int 0, .int 0, .int 0])] ++ [.inl (eC E 0, 16, .inl (fun _ => 0))])) (fs := [.ref (a0 + 1), .int 0, .int 0, .int 0, .int 0, .int 0]) (g := 1) (ty := .int) C0 hL 0 (ap_gl (rfl)) (ci := 1) TX1_1 rfl uGX1 tyX1 tyX1_ok nmX1 (by decide) qF_X1_15 (by decide +kernel) rfl rfl (Nat.le_of_ble_eq_true rfl) (ap_sl (ap_lt rfl (Nat.le_of_ble_eq_true rfl)) rfl) dX1_init_14 (fun H locs hL => ?_)
    refine lv_aload_n hx hb dX1_init_17 rfl (lv_at hl 0 rfl) ?_
    refine lv_iconst (v := 0) hx hb dX1_init_18 (by decide) ?_
    refine k_putT (M' := ([.inr (1, [.ref (a0 + 1), .int 0, .int 0, .int 0, .int 0, .int 0])] ++ [.inl (eC E 0, 16, .inl (fun _ => 0))])) (fs := [.ref (a0 + 1), .int 0, .int 0, .int 0, .int 0, .int 0]) (g := 2) (ty := .int) C0 hL 0 (ap_gl (rfl)) (ci := 1) TX1_2 rfl uGX1 tyX1 tyX1_ok nmX1 (by decide) qF_X1_19 (by decide +kernel) rfl rfl (Nat.le_of_ble_eq_true rfl) (ap_sl (ap_lt rfl (Nat.le_of_ble_eq_true rfl)) rfl) dX1_init_19 (fun H locs hL => ?_)
    refine lv_aload_n hx hb dX1_init_22 rfl (lv_at hl 0 rfl) ?_
    refine lv_iconst (v := 0) hx hb dX1_init_23 (by decide) ?_
    refine k_putT (M' := ([.inr (1, [.ref (a0 + 1), .int 0, .int 0, .int 0, .int 0, .int 0])] ++ [.inl (eC E 0, 16, .inl (fun _ => 0))])) (fs := [.ref (a0 + 1), .int 0, .int 0, .int 0, .int 0, .int 0]) (g := 3) (ty := .int) C0 hL 0 (ap_gl (rfl)) (ci := 1) TX1_3 rfl uGX1 tyX1 tyX1_ok nmX1 (by decide) qF_X1_22 (by decide +kernel) rfl rfl (Nat.le_of_ble_eq_true rfl) (ap_sl (ap_lt rfl (Nat.le_of_ble_eq_true rfl)) rfl) dX1_init_24 (fun H locs hL => ?_)
    refine lv_aload_n hx hb dX1_init_27 rfl (lv_at hl 0 rfl) ?_
    refine lv_iconst (v := 0) hx hb dX1_init_28 (by decide) ?_
    refine k_putT (M' := ([.inr (1, [.ref (a0 + 1), .int 0, .int 0, .int 0, .int 0, .int 0])] ++ [.inl (eC E 0, 16, .inl (fun _ => 0))])) (fs := [.ref (a0 + 1), .int 0, .int 0, .int 0, .int 0, .int 0]) (g := 4) (ty := .int) C0 hL 0 (ap_gl (rfl)) (ci := 1) TX1_4 rfl uGX1 tyX1 tyX1_ok nmX1 (by decide) qF_X1_25 (by decide +kernel) rfl rfl (Nat.le_of_ble_eq_true rfl) (ap_sl (ap_lt rfl (Nat.le_of_ble_eq_true rfl)) rfl) dX1_init_29 (fun H locs hL => ?_)
    refine lv_aload_n hx hb dX1_init_32 rfl (lv_at hl 0 rfl) ?_
    refine lv_iconst (v := 0) hx hb dX1_init_33 (by decide) ?_
    refine k_putT (M' := ([.inr (1, [.ref (a0 + 1), .int 0, .int 0, .int 0, .int 0, .int 0])] ++ [.inl (eC E 0, 16, .inl (fun _ => 0))])) (fs := [.ref (a0 + 1), .int 0, .int 0, .int 0, .int 0, .int 0]) (g := 5) (ty := .int) C0 hL 0 (ap_gl (rfl)) (ci := 1) TX1_5 rfl uGX1 tyX1 tyX1_ok nmX1 (by decide) qF_X1_28 (by decide +kernel) rfl rfl (Nat.le_of_ble_eq_true rfl) (ap_sl (ap_lt rfl (Nat.le_of_ble_eq_true rfl)) rfl) dX1_init_34 (fun H locs hL => ?_)
    exact k_vret C0 hL dX1_init_37 (by show 1 = 1; rfl) (by show 16 = 16; rfl))
theorem kc_1 {p : Program} {l : Launch} {e : Env} {R : Room} {s : State} {m : MethodId} {args : Array Value} {below : List Frame} {meth : Method} {c : Code} {H : Heap} {locs : List Loc} {Q : State → Prop} {cells slots : Nat} {E : EnvT} {cc : ByteArray} {nL : Nat} {own : String} {ret : Option FieldType} {pc : Nat} {ls : Array Slot} {rest : List Value} {sz a0 : Nat} {L0 M : List va_E} {n index : Nat} (C0 : Cx E p m c cc nL s args own meth ret) (hN0 : Nx s) (hL : Lc E s sz a0 L0 (M ++ [.inr (1, [.null, .int 0, .int 0, .int 0, .int 0, .int 0])]) H locs) (hn : M.length = n) (hl : va_Nw (.methodLinkNest own index yX1_init RX11) s) (hR1 : 2 ≤ R.frames) (hR2 : 128 ≤ R.locals) (hls : ls.size = nL) (hrest : (rest.map fun v => v.category).sum ≤ 8) (hf1 : cells + 1 ≤ R.cells) (hf2 : slots + 16 ≤ R.slots) (d : decode cc pc = .ok (.invokespecial index, 3))
    (kk : ∀ (H : Heap) (locs : List Loc), Lc E s sz a0 L0 (M ++ kX1 E (a0 + n)) H locs → W p l e R s m args below meth c H locs (cells + 1) (slots + 16) Q (F0 m (pc + 3) ls rest)) : W p l e R s m args below meth c H locs cells slots Q (F0 m pc ls (.ref (a0 + n) :: rest)) :=
  go_k (M' := M ++ kX1 E (a0 + n)) hL (run_IN (rest := rest) (L1 := L0 ++ M) (M1 := [.inr (1, [.null, .int 0, .int 0, .int 0, .int 0, .int 0])]) C0 hN0 hL (List.append_assoc _ _ _).symm (ha_of hn) (a1_of hL.2.2.2.1 hn) hl lkI_X1_init (k_X1_init C0.2.2.2.2 sz (a0 + n) (L0 ++ M)) ⟨hR1, hR2⟩ hls rfl hrest d ⟨hf1, hf2⟩) (List.append_assoc _ _ _) (hb_of hn) kk
def kX8 (E : EnvT) (a0 : Nat) : List va_E := ((([.inr (8, [.ref (a0 + 1), .ref (a0 + 10), .ref (a0 + 11)])] ++ (.inl (eC E 2, 8, .inr (.inr (.inr (.inr (fun i => some (a0 + 1 + 1 + i)))))) :: List.replicate 8 (.inl (eC E 0, 40, .inl (fun _ => 0))))) ++ [.inl (eC E 0, 8, .inl (fun _ => 0))]) ++ [.inl (eC E 0, 8, .inl (fun _ => -1))])
theorem kX8_len (E : EnvT) (a0 : Nat) : (kX8 E a0).length = 12 := (ap_ln (n := 11) (m := 1) (ap_ln (n := 10) (m := 1) (ap_ln (n := 1) (m := 9) rfl rfl) rfl) rfl)
theorem kX8_g0 (E : EnvT) (a0 : Nat) : (kX8 E a0)[0]? = some (.inr (8, [.ref (a0 + 1), .ref (a0 + 10), .ref (a0 + 11)])) := (ap_gl (ap_gl (ap_gl (rfl))))
theorem lkI_X8_init : LkI yX8_init cX8_init 1 := ⟨qI_X8_init, qi_X8, qC_X8_init, by decide +kernel, by decide +kernel, by decide +kernel, by decide +kernel, by decide⟩
set_option maxRecDepth 100000 in
set_option maxHeartbeats 4000000 in
theorem k_X8_init {l : Launch} {E : EnvT} (hAd : Ad E) (sz a0 : Nat) (L0 : List va_E) : Met l yX8_init (wsM yX8_init cX8_init 1 none) (rmK 1 11 344) (va_Pc [.ref a0] (PcK E sz a0 L0 [.inr (8, [.null, .null, .null])])) (QvK E sz a0 L0 (kX8 E a0)) 11 344 (eA E) :=
  Met.ofK (by decide) rfl (by decide) hAd (fun p e s m below meth c ls C0 hin2 hN0 hL hl => by
    obtain ⟨⟨hx, hb, hml, hown, hts⟩, hr, hlocks, hF, hAd⟩ := id C0
    refine lv_aload_n hx hb dX8_init_0 rfl (lv_at hl 0 rfl) ?_
    refine k_oinit C0 qM_X8_3 hl.1 rfl ⟨(by show 1 ≤ 1; exact Nat.le_of_ble_eq_true rfl), (by show 12 ≤ 64; exact Nat.le_of_ble_eq_true rfl)⟩ dX8_init_1 ?_
    refine lv_aload_n hx hb dX8_init_4 rfl (lv_at hl 0 rfl) ?_
    refine lv_bipush (v := 8) hx hb dX8_init_5 (by decide) ?_
    refine lv_bipush (v := 40) hx hb dX8_init_7 (by decide) ?_
    refine k_mna C0 hN0 hL 1 rfl 8 40 (by decide) (by decide) (by decide) (by decide) (Nat.le_of_ble_eq_true rfl) (Nat.le_of_ble_eq_true rfl) (Nat.le_of_ble_eq_true rfl) qA_X8_9 (by show 9 ≤ 11; exact Nat.le_of_ble_eq_true rfl) (by show 328 ≤ 344; exact Nat.le_of_ble_eq_true rfl) dX8_init_9 (fun H hL => ?_)
    refine k_putFT (M' := ([.inr (8, [.ref (a0 + 1), .null, .null])] ++ (.inl (eC E 2, 8, .inr (.inr (.inr (.inr (fun i => some (a0 + 1 + 1 + i)))))) :: List.replicate 8 (.inl (eC E 0, 40, .inl (fun _ => 0)))))) (fs := [.null, .null, .null]) (g := 0) (ty := (.array (.array .int))) C0 hin2 hL 0 (ap_gl (rfl)) (ci := 8) TX8_0 rfl uGX8 tyX8 tyX8_ok nmX8 (by decide) qF_X8_11 (by decide +kernel) rfl rfl (Nat.le_of_ble_eq_true rfl) (ap_sl (ap_lt rfl (Nat.le_of_ble_eq_true rfl)) rfl) dX8_init_13 (fun H locs hL => ?_)
    refine lv_aload_n hx hb dX8_init_16 rfl (lv_at hl 0 rfl) ?_
    refine lv_bipush (v := 8) hx hb dX8_init_17 (by decide) ?_
    refine k_newi C0 hL 10 (ap_ln (n := 1) (m := 9) rfl rfl) 8 (by decide) (by decide) (Nat.le_of_ble_eq_true rfl) (by show 10 ≤ 11; exact Nat.le_of_ble_eq_true rfl) (by show 336 ≤ 344; exact Nat.le_of_ble_eq_true rfl) dX8_init_19 (fun H hL => ?_)
    refine k_putFT (M' := (([.inr (8, [.ref (a0 + 1), .ref (a0 + 10), .null])] ++ (.inl (eC E 2, 8, .inr (.inr (.inr (.inr (fun i => some (a0 + 1 + 1 + i)))))) :: List.replicate 8 (.inl (eC E 0, 40, .inl (fun _ => 0))))) ++ [.inl (eC E 0, 8, .inl (fun _ => 0))])) (fs := [.ref (a0 + 1), .null, .null]) (g := 1) (ty := (.array .int)) C0 hin2 hL 0 (ap_gl (ap_gl (rfl))) (ci := 8) TX8_1 rfl uGX8 tyX8 tyX8_ok nmX8 (by decide) qF_X8_16 (by decide +kernel) rfl rfl (Nat.le_of_ble_eq_true rfl) (ap_sl (ap_lt (ap_ln (n := 1) (m := 9) rfl rfl) (Nat.le_of_ble_eq_true rfl)) (ap_sl (ap_lt rfl (Nat.le_of_ble_eq_true rfl)) rfl)) dX8_init_21 (fun H locs hL => ?_)
    refine lv_aload_n hx hb dX8_init_24 rfl (lv_at hl 0 rfl) ?_
    refine lv_bipush (v := 8) hx hb dX8_init_25 (by decide) ?_
    refine k_newi C0 hL 11 (ap_ln (n := 10) (m := 1) (ap_ln (n := 1) (m := 9) rfl rfl) rfl) 8 (by decide) (by decide) (Nat.le_of_ble_eq_true rfl) (by show 11 ≤ 11; exact Nat.le_of_ble_eq_true rfl) (by show 344 ≤ 344; exact Nat.le_of_ble_eq_true rfl) dX8_init_27 (fun H hL => ?_)
    refine k_putFT (M' := ((([.inr (8, [.ref (a0 + 1), .ref (a0 + 10), .ref (a0 + 11)])] ++ (.inl (eC E 2, 8, .inr (.inr (.inr (.inr (fun i => some (a0 + 1 + 1 + i)))))) :: List.replicate 8 (.inl (eC E 0, 40, .inl (fun _ => 0))))) ++ [.inl (eC E 0, 8, .inl (fun _ => 0))]) ++ [.inl (eC E 0, 8, .inl (fun _ => 0))])) (fs := [.ref (a0 + 1), .ref (a0 + 10), .null]) (g := 2) (ty := (.array .int)) C0 hin2 hL 0 (ap_gl (ap_gl (ap_gl (rfl)))) (ci := 8) TX8_2 rfl uGX8 tyX8 tyX8_ok nmX8 (by decide) qF_X8_20 (by decide +kernel) rfl rfl (Nat.le_of_ble_eq_true rfl) (ap_sl (ap_lt (ap_ln (n := 10) (m := 1) (ap_ln (n := 1) (m := 9) rfl rfl) rfl) (Nat.le_of_ble_eq_true rfl)) (ap_sl (ap_lt (ap_ln (n := 1) (m := 9) rfl rfl) (Nat.le_of_ble_eq_true rfl)) (ap_sl (ap_lt rfl (Nat.le_of_ble_eq_true rfl)) rfl))) dX8_init_29 (fun H locs hL => ?_)
    refine lv_aload_n hx hb dX8_init_32 rfl (lv_at hl 0 rfl) ?_
    refine k_get (fs := [.ref (a0 + 1), .ref (a0 + 10), .ref (a0 + 11)]) (g := 2) (v := .ref (a0 + 11)) C0 hL 0 (ap_gl (ap_gl (ap_gl (rfl)))) (ci := 8) rfl uGX8 (by decide) qF_X8_20 rfl dX8_init_33 ?_
    refine lv_iconst (v := (-1)) hx hb dX8_init_36 (by decide) ?_
    refine go_k (M' := ((([.inr (8, [.ref (a0 + 1), .ref (a0 + 10), .ref (a0 + 11)])] ++ (.inl (eC E 2, 8, .inr (.inr (.inr (.inr (fun i => some (a0 + 1 + 1 + i)))))) :: List.replicate 8 (.inl (eC E 0, 40, .inl (fun _ => 0))))) ++ [.inl (eC E 0, 8, .inl (fun _ => 0))]) ++ [.inl (eC E 0, 8, .inl (fun _ => -1))])) hL (run_SK (As := [.ref (a0 + 11), .int (-1)]) (rest := []) (L1 := (L0 ++ (([.inr (8, [.ref (a0 + 1), .ref (a0 + 10), .ref (a0 + 11)])] ++ (.inl (eC E 2, 8, .inr (.inr (.inr (.inr (fun i => some (a0 + 1 + 1 + i)))))) :: List.replicate 8 (.inl (eC E 0, 40, .inl (fun _ => 0))))) ++ [.inl (eC E 0, 8, .inl (fun _ => 0))]))) (M1 := [.inl (eC E 0, 8, .inl (fun _ => 0))]) C0 hN0 hL (List.append_assoc _ _ _).symm (ha_of (ap_ln (n := 10) (m := 1) (ap_ln (n := 1) (m := 9) rfl rfl) rfl)) (a1_of hL.2.2.2.1 (ap_ln (n := 10) (m := 1) (ap_ln (n := 1) (m := 9) rfl rfl) rfl)) lk_X8_23 (k_fill8 hAd sz (a0 + 11) (L0 ++ (([.inr (8, [.ref (a0 + 1), .ref (a0 + 10), .ref (a0 + 11)])] ++ (.inl (eC E 2, 8, .inr (.inr (.inr (.inr (fun i => some (a0 + 1 + 1 + i)))))) :: List.replicate 8 (.inl (eC E 0, 40, .inl (fun _ => 0))))) ++ [.inl (eC E 0, 8, .inl (fun _ => 0))]))) ⟨(by show 1 ≤ 1; exact Nat.le_of_ble_eq_true rfl), (by show 64 ≤ 64; exact Nat.le_of_ble_eq_true rfl)⟩ rfl hl.1 rfl (Nat.le_of_ble_eq_true rfl) dX8_init_37 ⟨(by show 11 ≤ 11; exact Nat.le_of_ble_eq_true rfl), (by show 344 ≤ 344; exact Nat.le_of_ble_eq_true rfl)⟩) (List.append_assoc _ _ _) (hb_of (ap_ln (n := 10) (m := 1) (ap_ln (n := 1) (m := 9) rfl rfl) rfl)) (fun H locs hL => ?_)
    exact k_vret C0 hL dX8_init_40 (by show 11 = 11; rfl) (by show 344 = 344; rfl))
theorem kc_8 {p : Program} {l : Launch} {e : Env} {R : Room} {s : State} {m : MethodId} {args : Array Value} {below : List Frame} {meth : Method} {c : Code} {H : Heap} {locs : List Loc} {Q : State → Prop} {cells slots : Nat} {E : EnvT} {cc : ByteArray} {nL : Nat} {own : String} {ret : Option FieldType} {pc : Nat} {ls : Array Slot} {rest : List Value} {sz a0 : Nat} {L0 M : List va_E} {n index : Nat} (C0 : Cx E p m c cc nL s args own meth ret) (hN0 : Nx s) (hL : Lc E s sz a0 L0 (M ++ [.inr (8, [.null, .null, .null])]) H locs) (hn : M.length = n) (hl : Cond.methodLink own index yX8_init ∈ Gw) (hR1 : 2 ≤ R.frames) (hR2 : 128 ≤ R.locals) (hls : ls.size = nL) (hrest : (rest.map fun v => v.category).sum ≤ 8) (hf1 : cells + 11 ≤ R.cells) (hf2 : slots + 344 ≤ R.slots) (d : decode cc pc = .ok (.invokespecial index, 3))
    (kk : ∀ (H : Heap) (locs : List Loc), Lc E s sz a0 L0 (M ++ kX8 E (a0 + n)) H locs → W p l e R s m args below meth c H locs (cells + 11) (slots + 344) Q (F0 m (pc + 3) ls rest)) : W p l e R s m args below meth c H locs cells slots Q (F0 m pc ls (.ref (a0 + n) :: rest)) :=
  go_k (M' := M ++ kX8 E (a0 + n)) hL (run_I (rest := rest) (L1 := L0 ++ M) (M1 := [.inr (8, [.null, .null, .null])]) C0 hN0 hL (List.append_assoc _ _ _).symm (ha_of hn) (a1_of hL.2.2.2.1 hn) hl lkI_X8_init (k_X8_init C0.2.2.2.2 sz (a0 + n) (L0 ++ M)) ⟨hR1, hR2⟩ hls rfl hrest d ⟨hf1, hf2⟩) (List.append_assoc _ _ _) (hb_of hn) kk
def kX10 (E : EnvT) (a0 : Nat) : List va_E := ([.inr (10, [.ref (a0 + 1), .int 0])] ++ [.inl (eC E 0, 130, .inl (fun _ => 0))])
theorem kX10_len (E : EnvT) (a0 : Nat) : (kX10 E a0).length = 2 := (ap_ln (n := 1) (m := 1) rfl rfl)
theorem kX10_g0 (E : EnvT) (a0 : Nat) : (kX10 E a0)[0]? = some (.inr (10, [.ref (a0 + 1), .int 0])) := (ap_gl (rfl))
theorem lkI_X10_init : LkI yX10_init cX10_init 1 := ⟨qI_X10_init, qi_X10, qC_X10_init, by decide +kernel, by decide +kernel, by decide +kernel, by decide +kernel, by decide⟩
set_option maxRecDepth 100000 in
set_option maxHeartbeats 4000000 in
theorem k_X10_init {l : Launch} {E : EnvT} (hAd : Ad E) (sz a0 : Nat) (L0 : List va_E) : Met l yX10_init (wsM yX10_init cX10_init 1 none) (rmK 1 1 130) (va_Pc [.ref a0] (PcK E sz a0 L0 [.inr (10, [.null, .int 0])])) (QvK E sz a0 L0 (kX10 E a0)) 1 130 (eA E) :=
  Met.ofK (by decide) rfl (by decide) hAd (fun p e s m below meth c ls C0 hin2 hN0 hL hl => by
    obtain ⟨⟨hx, hb, hml, hown, hts⟩, hr, hlocks, hF, hAd⟩ := id C0
    refine lv_aload_n hx hb dX10_init_0 rfl (lv_at hl 0 rfl) ?_
    refine k_oinit C0 qM_X10_3 hl.1 rfl ⟨(by show 1 ≤ 1; exact Nat.le_of_ble_eq_true rfl), (by show 12 ≤ 64; exact Nat.le_of_ble_eq_true rfl)⟩ dX10_init_1 ?_
    refine lv_aload_n hx hb dX10_init_4 rfl (lv_at hl 0 rfl) ?_
    refine lv_sipush (v := 130) hx hb dX10_init_5 (by decide) ?_
    refine k_newi C0 hL 1 rfl 130 (by decide) (by decide) (Nat.le_of_ble_eq_true rfl) (by show 1 ≤ 1; exact Nat.le_of_ble_eq_true rfl) (by show 130 ≤ 130; exact Nat.le_of_ble_eq_true rfl) dX10_init_8 (fun H hL => ?_)
    refine k_putFT (M' := ([.inr (10, [.ref (a0 + 1), .int 0])] ++ [.inl (eC E 0, 130, .inl (fun _ => 0))])) (fs := [.null, .int 0]) (g := 0) (ty := (.array .int)) C0 hin2 hL 0 (ap_gl (rfl)) (ci := 10) TX10_0 rfl uGX10 tyX10 tyX10_ok nmX10 (by decide) qF_X10_9 (by decide +kernel) rfl rfl (Nat.le_of_ble_eq_true rfl) (ap_sl (ap_lt rfl (Nat.le_of_ble_eq_true rfl)) rfl) dX10_init_10 (fun H locs hL => ?_)
    refine lv_aload_n hx hb dX10_init_13 rfl (lv_at hl 0 rfl) ?_
    refine lv_iconst (v := 0) hx hb dX10_init_14 (by decide) ?_
    refine k_putT (M' := ([.inr (10, [.ref (a0 + 1), .int 0])] ++ [.inl (eC E 0, 130, .inl (fun _ => 0))])) (fs := [.ref (a0 + 1), .int 0]) (g := 1) (ty := .int) C0 hL 0 (ap_gl (rfl)) (ci := 10) TX10_1 rfl uGX10 tyX10 tyX10_ok nmX10 (by decide) qF_X10_15 (by decide +kernel) rfl rfl (Nat.le_of_ble_eq_true rfl) (ap_sl (ap_lt rfl (Nat.le_of_ble_eq_true rfl)) rfl) dX10_init_15 (fun H locs hL => ?_)
    exact k_vret C0 hL dX10_init_18 (by show 1 = 1; rfl) (by show 130 = 130; rfl))
theorem kc_10 {p : Program} {l : Launch} {e : Env} {R : Room} {s : State} {m : MethodId} {args : Array Value} {below : List Frame} {meth : Method} {c : Code} {H : Heap} {locs : List Loc} {Q : State → Prop} {cells slots : Nat} {E : EnvT} {cc : ByteArray} {nL : Nat} {own : String} {ret : Option FieldType} {pc : Nat} {ls : Array Slot} {rest : List Value} {sz a0 : Nat} {L0 M : List va_E} {n index : Nat} (C0 : Cx E p m c cc nL s args own meth ret) (hN0 : Nx s) (hL : Lc E s sz a0 L0 (M ++ [.inr (10, [.null, .int 0])]) H locs) (hn : M.length = n) (hl : va_Nw (.methodLinkNest own index yX10_init RX11) s) (hR1 : 2 ≤ R.frames) (hR2 : 128 ≤ R.locals) (hls : ls.size = nL) (hrest : (rest.map fun v => v.category).sum ≤ 8) (hf1 : cells + 1 ≤ R.cells) (hf2 : slots + 130 ≤ R.slots) (d : decode cc pc = .ok (.invokespecial index, 3))
    (kk : ∀ (H : Heap) (locs : List Loc), Lc E s sz a0 L0 (M ++ kX10 E (a0 + n)) H locs → W p l e R s m args below meth c H locs (cells + 1) (slots + 130) Q (F0 m (pc + 3) ls rest)) : W p l e R s m args below meth c H locs cells slots Q (F0 m pc ls (.ref (a0 + n) :: rest)) :=
  go_k (M' := M ++ kX10 E (a0 + n)) hL (run_IN (rest := rest) (L1 := L0 ++ M) (M1 := [.inr (10, [.null, .int 0])]) C0 hN0 hL (List.append_assoc _ _ _).symm (ha_of hn) (a1_of hL.2.2.2.1 hn) hl lkI_X10_init (k_X10_init C0.2.2.2.2 sz (a0 + n) (L0 ++ M)) ⟨hR1, hR2⟩ hls rfl hrest d ⟨hf1, hf2⟩) (List.append_assoc _ _ _) (hb_of hn) kk
def kX7 (E : EnvT) (a0 : Nat) : List va_E := ([.inr (7, [.ref (a0 + 1), .int 0, .int 0])] ++ kX2 E (a0 + 1))
theorem kX7_len (E : EnvT) (a0 : Nat) : (kX7 E a0).length = 7 := (ap_ln (n := 1) (m := 6) rfl (kX2_len _ _))
theorem kX7_g0 (E : EnvT) (a0 : Nat) : (kX7 E a0)[0]? = some (.inr (7, [.ref (a0 + 1), .int 0, .int 0])) := (ap_gl (rfl))
theorem lkI_X7_init : LkI yX7_init cX7_init 1 := ⟨qI_X7_init, qi_X7, qC_X7_init, by decide +kernel, by decide +kernel, by decide +kernel, by decide +kernel, by decide⟩
set_option maxRecDepth 100000 in
set_option maxHeartbeats 4000000 in
theorem k_X7_init {l : Launch} {E : EnvT} (hAd : Ad E) (sz a0 : Nat) (L0 : List va_E) : Met l yX7_init (wsM yX7_init cX7_init 1 none) (rmK 2 6 48) (va_Pc [.ref a0] (PcK E sz a0 L0 [.inr (7, [.null, .int 0, .int 0])])) (QvK E sz a0 L0 (kX7 E a0)) 6 48 (eA E) :=
  Met.ofK (by decide) rfl (by decide) hAd (fun p e s m below meth c ls C0 hin2 hN0 hL hl => by
    obtain ⟨⟨hx, hb, hml, hown, hts⟩, hr, hlocks, hF, hAd⟩ := id C0
    refine lv_aload_n hx hb dX7_init_0 rfl (lv_at hl 0 rfl) ?_
    refine k_oinit C0 qM_X7_3 hl.1 rfl ⟨(by show 1 ≤ 2; exact Nat.le_of_ble_eq_true rfl), (by show 12 ≤ 128; exact Nat.le_of_ble_eq_true rfl)⟩ dX7_init_1 ?_
    refine lv_aload_n hx hb dX7_init_4 rfl (lv_at hl 0 rfl) ?_
    refine k_new C0 hL 2 rfl uGX2 tyX2 tyX2_ok qA_X7_9 qn_X2 qi_X2 [.int 0, .int 0, .int 0, .null, .null] (by intro j hj; match j, hj with | 0, _ => rfl | 1, _ => rfl | 2, _ => rfl | 3, _ => rfl | 4, _ => rfl) 1 rfl (by show 1 ≤ 6; exact Nat.le_of_ble_eq_true rfl) (by show 5 ≤ 48; exact Nat.le_of_ble_eq_true rfl) dX7_init_5 (fun H hL => ?_)
    refine lv_dup hx hb dX7_init_8 rfl ?_
    refine kc_2 (M := [.inr (7, [.null, .int 0, .int 0])]) (n := 1) C0 hN0 hL rfl hN0.2.2.2.2.1 (by show 2 ≤ 2; exact Nat.le_of_ble_eq_true rfl) (by show 128 ≤ 128; exact Nat.le_of_ble_eq_true rfl) hl.1 (Nat.le_of_ble_eq_true rfl) (by show 6 ≤ 6; exact Nat.le_of_ble_eq_true rfl) (by show 48 ≤ 48; exact Nat.le_of_ble_eq_true rfl) dX7_init_9 (fun H locs hL => ?_)
    refine k_putFT (M' := ([.inr (7, [.ref (a0 + 1), .int 0, .int 0])] ++ kX2 E (a0 + 1))) (fs := [.null, .int 0, .int 0]) (g := 0) (ty := (.object "HandsInBook$Book")) C0 hin2 hL 0 (ap_gl (rfl)) (ci := 7) TX7_0 rfl uGX7 tyX7 tyX7_ok nmX7 (by decide) qF_X7_12 (by decide +kernel) rfl rfl (Nat.le_of_ble_eq_true rfl) (ap_sl (ap_lt rfl (Nat.le_of_ble_eq_true rfl)) rfl) dX7_init_12 (fun H locs hL => ?_)
    refine lv_aload_n hx hb dX7_init_15 rfl (lv_at hl 0 rfl) ?_
    refine lv_iconst (v := 0) hx hb dX7_init_16 (by decide) ?_
    refine k_putT (M' := ([.inr (7, [.ref (a0 + 1), .int 0, .int 0])] ++ kX2 E (a0 + 1))) (fs := [.ref (a0 + 1), .int 0, .int 0]) (g := 1) (ty := .int) C0 hL 0 (ap_gl (rfl)) (ci := 7) TX7_1 rfl uGX7 tyX7 tyX7_ok nmX7 (by decide) qF_X7_18 (by decide +kernel) rfl rfl (Nat.le_of_ble_eq_true rfl) (ap_sl (ap_lt rfl (Nat.le_of_ble_eq_true rfl)) rfl) dX7_init_17 (fun H locs hL => ?_)
    refine lv_aload_n hx hb dX7_init_20 rfl (lv_at hl 0 rfl) ?_
    refine lv_iconst (v := 0) hx hb dX7_init_21 (by decide) ?_
    refine k_putT (M' := ([.inr (7, [.ref (a0 + 1), .int 0, .int 0])] ++ kX2 E (a0 + 1))) (fs := [.ref (a0 + 1), .int 0, .int 0]) (g := 2) (ty := .int) C0 hL 0 (ap_gl (rfl)) (ci := 7) TX7_2 rfl uGX7 tyX7 tyX7_ok nmX7 (by decide) qF_X7_22 (by decide +kernel) rfl rfl (Nat.le_of_ble_eq_true rfl) (ap_sl (ap_lt rfl (Nat.le_of_ble_eq_true rfl)) rfl) dX7_init_22 (fun H locs hL => ?_)
    exact k_vret C0 hL dX7_init_25 (by show 6 = 6; rfl) (by show 48 = 48; rfl))
theorem kc_7 {p : Program} {l : Launch} {e : Env} {R : Room} {s : State} {m : MethodId} {args : Array Value} {below : List Frame} {meth : Method} {c : Code} {H : Heap} {locs : List Loc} {Q : State → Prop} {cells slots : Nat} {E : EnvT} {cc : ByteArray} {nL : Nat} {own : String} {ret : Option FieldType} {pc : Nat} {ls : Array Slot} {rest : List Value} {sz a0 : Nat} {L0 M : List va_E} {n index : Nat} (C0 : Cx E p m c cc nL s args own meth ret) (hN0 : Nx s) (hL : Lc E s sz a0 L0 (M ++ [.inr (7, [.null, .int 0, .int 0])]) H locs) (hn : M.length = n) (hl : va_Nw (.methodLinkNest own index yX7_init RX11) s) (hR1 : 3 ≤ R.frames) (hR2 : 192 ≤ R.locals) (hls : ls.size = nL) (hrest : (rest.map fun v => v.category).sum ≤ 8) (hf1 : cells + 6 ≤ R.cells) (hf2 : slots + 48 ≤ R.slots) (d : decode cc pc = .ok (.invokespecial index, 3))
    (kk : ∀ (H : Heap) (locs : List Loc), Lc E s sz a0 L0 (M ++ kX7 E (a0 + n)) H locs → W p l e R s m args below meth c H locs (cells + 6) (slots + 48) Q (F0 m (pc + 3) ls rest)) : W p l e R s m args below meth c H locs cells slots Q (F0 m pc ls (.ref (a0 + n) :: rest)) :=
  go_k (M' := M ++ kX7 E (a0 + n)) hL (run_IN (rest := rest) (L1 := L0 ++ M) (M1 := [.inr (7, [.null, .int 0, .int 0])]) C0 hN0 hL (List.append_assoc _ _ _).symm (ha_of hn) (a1_of hL.2.2.2.1 hn) hl lkI_X7_init (k_X7_init C0.2.2.2.2 sz (a0 + n) (L0 ++ M)) ⟨hR1, hR2⟩ hls rfl hrest d ⟨hf1, hf2⟩) (List.append_assoc _ _ _) (hb_of hn) kk
