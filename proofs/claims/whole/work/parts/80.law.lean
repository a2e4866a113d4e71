/-! THE LAW: calls of class and reference, one after the other. -/
section
variable {p : Program} {l : Launch} {e : Env} {R : Room} {s : State} {m : MethodId} {args : Array Value} {below : List Frame} {meth : Method} {c : Code} {H : Heap} {locs : List Loc} {Q : State → Prop} {cells slots : Nat}
variable {E : EnvT} {cc : ByteArray} {nL : Nat} {own : String} {ret ret0 : Option FieldType} {σ σ' : Mem} {pc : Nat} {ls : Array Slot} {rest : List Value} {k : Nat} {y : MethodName} {bytes : ByteArray} {maxL index n h : Nat} {As st : List Value} {C : String}
theorem va_run_VL {Qc : Array Value → State → Outcome → State → Prop} (C0 : Cx E p m c cc nL s args own meth ret0) (hH : Hs E s σ H locs) (L : LkV own index C y bytes maxL ret n) (hM : Met l y (wsM y bytes maxL ret) (rmD h) (PcM E (.ref (ea E k) :: As) σ) Qc 0 0 (eA E)) (hh : h + 1 ≤ R.frames ∧ 64 * (h + 1) ≤ R.locals) {cd ci : Nat} (hk : kd k = cd) (h9 : cd ≠ 99) {fs : List Value} (hcell : cellE E (σ k) k cd = .inr (ci, fs)) {T : u_T} {N : Nat} (hcl : vwCl[ci]? = some (C, T, N)) (hn : As.length = n) (hls : ls.size = nL) (hst : st = As.reverse ++ .ref (ea E k) :: rest) (hrest : (rest.map fun v => v.category).sum ≤ 8) (d : decode cc pc = .ok (.invokevirtual index, 3)) (hf : cells ≤ R.cells ∧ slots ≤ R.slots) :
    va_Run p l e R s m args below meth c H locs cells slots 0 0 (F0 m pc ls st) rest (Qc (Value.ref (ea E k) :: As).toArray) (eA E) := by
  obtain ⟨⟨hx, hb, hml, hown, hts⟩, hr, hlocks, hF, hA⟩ := C0
  obtain ⟨l1, l2, l3, l4, l5, l6, l7, l8, l9⟩ := L
  have cw : CallW R s args own C index y bytes maxL ret (wsM y bytes maxL ret) (rmD h) 0 0 n := ⟨callB_of n hts (wsM_good l5) rfl rfl rfl (hts _ l4) (hts _ l1) ⟨l6, l7, l8⟩ ⟨hh.1, by show 8 + (maxL + 11) + 64 * h ≤ R.locals; have := hh.2; omega⟩, hts _ l2, hts _ l3⟩
  have hp : PreV s H C (ea E k) (PcM E (.ref (ea E k) :: As) σ) As := ⟨PcM_blind _ _, va_recv hF.1 hH.1 hcl (by rw [wd_at E σ hk h9, hcell]), PcM_at hF hH _⟩
  exact va_runV ⟨hx, hb, hml, hown, hts⟩ hM cw hp rfl hn hls hst (lv_room hrest) d hf
theorem go_iL {r : Int32} {a : Array Value} (hH : Hs E s σ H locs) (hr : va_Run p l e R s m args below meth c H locs cells slots 0 0 (F0 m pc ls st) rest (QiM E r σ' a) (eA E)) (kk : ∀ (H : Heap) (locs : List Loc), Hs E s σ' H locs → W p l e R s m args below meth c H locs cells slots Q (F0 m (pc + 3) ls (.int r :: rest))) : W p l e R s m args below meth c H locs cells slots Q (F0 m pc ls st) :=
  va_calli hr hH.2 (fun _ _ h => h) (fun _ h => h) (fun r' u t H1 locs1 ht _ hp hB _ _ hS => by
    obtain ⟨rfl, rfl⟩ := hp
    subst ht
    exact kk _ _ ⟨hB, hS⟩)
theorem go_lL {r : Int64} {a : Array Value} (hH : Hs E s σ H locs) (hr : va_Run p l e R s m args below meth c H locs cells slots 0 0 (F0 m pc ls st) rest (QlM E r σ' a) (eA E)) (kk : ∀ (H : Heap) (locs : List Loc), Hs E s σ' H locs → W p l e R s m args below meth c H locs cells slots Q (F0 m (pc + 3) ls (.long r :: rest))) : W p l e R s m args below meth c H locs cells slots Q (F0 m pc ls st) :=
  va_calll hr hH.2 (fun _ _ h => h) (fun _ h => h) (fun r' u t H1 locs1 ht _ hp hB _ _ hS => by
    obtain ⟨rfl, rfl⟩ := hp
    subst ht
    exact kk _ _ ⟨hB, hS⟩)
end
theorem kd_0 : kd 0 = 11 := by decide +kernel
theorem kd_251 : kd 251 = 12 := by decide +kernel
def Op0 (Inv : Mem → Prop) (σ : Mem) : Prop := ∀ v1 v2 v3 : Int32, ∃ (r : Int32) (σ1 : Mem) (σ2 : Mem), X11_row 0 v1 v2 v3 σ = some (r, σ1) ∧ X12_row 251 v1 v2 v3 σ1 = some (r, σ2) ∧ Inv σ2
def Op1 (Inv : Mem → Prop) (σ : Mem) : Prop := ∀ v1 v2 v3 : Int32, ∃ (r : Int32) (σ1 : Mem) (σ2 : Mem), X11_set 0 v1 v2 v3 σ = some (r, σ1) ∧ X12_set 251 v1 v2 v3 σ1 = some (r, σ2) ∧ Inv σ2
def Op2 (Inv : Mem → Prop) (σ : Mem) : Prop := ∀ v1 v2 v3 v4 v5 : Int32, ∃ (r : Int32) (σ1 : Mem) (σ2 : Mem), X11_copy 0 v1 v2 v3 v4 v5 σ = some (r, σ1) ∧ X12_copy 251 v1 v2 v3 v4 v5 σ1 = some (r, σ2) ∧ Inv σ2
def Op3 (Inv : Mem → Prop) (σ : Mem) : Prop := ∀ v1 : Int32, ∃ (r : Int32) (σ1 : Mem) (σ2 : Mem), X11_drop 0 v1 σ = some (r, σ1) ∧ X12_drop 251 v1 σ1 = some (r, σ2) ∧ Inv σ2
def Op4 (Inv : Mem → Prop) (σ : Mem) : Prop := ∀ v1 : Int32, ∃ (r : Int32) (σ1 : Mem) (σ2 : Mem), X11_feed 0 v1 σ = some (r, σ1) ∧ X12_feed 251 v1 σ1 = some (r, σ2) ∧ Inv σ2
def Op5 (Inv : Mem → Prop) (σ : Mem) : Prop := ∃ (r : Int32) (σ1 : Mem) (σ2 : Mem), X11_book 0 σ = some (r, σ1) ∧ X12_book 251 σ1 = some (r, σ2) ∧ Inv σ2
def Op6 (Inv : Mem → Prop) (σ : Mem) : Prop := ∃ (r : Int32), X11_fault 0 σ = r ∧ X12_fault 251 σ = r ∧ Inv σ
def Op7 (Inv : Mem → Prop) (σ : Mem) : Prop := ∃ (r : Int32) (σ1 : Mem) (σ2 : Mem), X11_undo 0 σ = some (r, σ1) ∧ X12_undo 251 σ1 = some (r, σ2) ∧ Inv σ2
def Op8 (Inv : Mem → Prop) (σ : Mem) : Prop := ∀ v1 v2 v3 v4 v5 : Int32, ∃ (r : Int32) (σ1 : Mem) (σ2 : Mem), X11_put 0 v1 v2 v3 v4 v5 σ = some (r, σ1) ∧ X12_put 251 v1 v2 v3 v4 v5 σ1 = some (r, σ2) ∧ Inv σ2
def Op9 (Inv : Mem → Prop) (σ : Mem) : Prop := ∀ v1 : Int32, ∃ (r : Int32) (σ1 : Mem) (σ2 : Mem), X11_take 0 v1 σ = some (r, σ1) ∧ X12_take 251 v1 σ1 = some (r, σ2) ∧ Inv σ2
def Op10 (Inv : Mem → Prop) (σ : Mem) : Prop := ∀ v1 v2 : Int32, ∃ (r : Int32) (σ1 : Mem) (σ2 : Mem), X11_move 0 v1 v2 σ = some (r, σ1) ∧ X12_move 251 v1 v2 σ1 = some (r, σ2) ∧ Inv σ2
def Op11 (Inv : Mem → Prop) (σ : Mem) : Prop := ∀ v1 v2 v3 : Int32, ∃ (r : Int32) (σ1 : Mem) (σ2 : Mem), X11_measure 0 v1 v2 v3 σ = some (r, σ1) ∧ X12_measure 251 v1 v2 v3 σ1 = some (r, σ2) ∧ Inv σ2
def Op12 (Inv : Mem → Prop) (σ : Mem) : Prop := ∀ v1 v2 : Int32, ∃ (r : Int32) (σ1 : Mem) (σ2 : Mem), X11_become 0 v1 v2 σ = some (r, σ1) ∧ X12_become 251 v1 v2 σ1 = some (r, σ2) ∧ Inv σ2
def Op13 (Inv : Mem → Prop) (σ : Mem) : Prop := ∀ v1 v2 : Int32, ∃ (r : Int32) (σ1 : Mem) (σ2 : Mem), X11_law 0 v1 v2 σ = some (r, σ1) ∧ X12_law 251 v1 v2 σ1 = some (r, σ2) ∧ Inv σ2
def Op14 (Inv : Mem → Prop) (σ : Mem) : Prop := ∀ v1 v2 : Int32, ∃ (r : Int32) (σ1 : Mem) (σ2 : Mem), X11_page 0 v1 v2 σ = some (r, σ1) ∧ X12_page 251 v1 v2 σ1 = some (r, σ2) ∧ Inv σ2
def Op15 (Inv : Mem → Prop) (σ : Mem) : Prop := ∀ v1 v2 : Int32, ∃ (r : Int32) (σ1 : Mem), X11_apart 0 v1 v2 σ = some (r, σ1) ∧ X12_apart 251 v1 v2 σ1 = some r ∧ Inv σ1
def Op16 (Inv : Mem → Prop) (σ : Mem) : Prop := ∀ v1 : Int32, ∃ (r : Int32) (σ1 : Mem), X11_spread 0 v1 σ = some (r, σ1) ∧ X12_spread 251 v1 σ1 = some r ∧ Inv σ1
def Op17 (Inv : Mem → Prop) (σ : Mem) : Prop := ∀ v1 : Int32, ∃ (r : Int32) (σ1 : Mem) (σ2 : Mem), X11_whole 0 v1 σ = some (r, σ1) ∧ X12_whole 251 v1 σ1 = some (r, σ2) ∧ Inv σ2
def Op18 (Inv : Mem → Prop) (σ : Mem) : Prop := ∀ v1 v2 : Int32, ∃ (r : Int32) (σ1 : Mem) (σ2 : Mem), X11_hand 0 v1 v2 σ = some (r, σ1) ∧ X12_hand 251 v1 v2 σ1 = some (r, σ2) ∧ Inv σ2
def Op19 (Inv : Mem → Prop) (σ : Mem) : Prop := ∀ v1 v2 : Int32, ∃ (r : Int32) (σ1 : Mem) (σ2 : Mem), X11_run 0 v1 v2 σ = some (r, σ1) ∧ X12_run 251 v1 v2 σ1 = some (r, σ2) ∧ Inv σ2
def Op20 (Inv : Mem → Prop) (σ : Mem) : Prop := ∀ v1 : Int32, ∃ (r : Int32) (σ1 : Mem) (σ2 : Mem), X11_sign 0 v1 σ = some (r, σ1) ∧ X12_sign 251 v1 σ1 = some (r, σ2) ∧ Inv σ2
def Op21 (Inv : Mem → Prop) (σ : Mem) : Prop := ∃ (r : Int32) (σ1 : Mem) (σ2 : Mem), X11_say 0 σ = some (r, σ1) ∧ X12_say 251 σ1 = some (r, σ2) ∧ Inv σ2
def Op22 (Inv : Mem → Prop) (σ : Mem) : Prop := ∀ v1 : Int32, ∃ (r : Int32) (σ1 : Mem) (σ2 : Mem), X11_without 0 v1 σ = some (r, σ1) ∧ X12_without 251 v1 σ1 = some (r, σ2) ∧ Inv σ2
def Op23 (Inv : Mem → Prop) (σ : Mem) : Prop := ∀ v1 : Int32, ∃ (r : Int32) (σ1 : Mem) (σ2 : Mem), X11_least 0 v1 σ = some (r, σ1) ∧ X12_least 251 v1 σ1 = some (r, σ2) ∧ Inv σ2
def Op24 (Inv : Mem → Prop) (σ : Mem) : Prop := ∀ v1 : Int32, ∃ (r : Int32) (σ1 : Mem) (σ2 : Mem), X11_pairs 0 v1 σ = some (r, σ1) ∧ X12_pairs 251 v1 σ1 = some (r, σ2) ∧ Inv σ2
def Op25 (Inv : Mem → Prop) (σ : Mem) : Prop := ∀ v1 v2 v3 v4 v5 : Int32, ∃ (r : Int32) (σ1 : Mem) (σ2 : Mem), X11_who 0 v1 v2 v3 v4 v5 σ = some (r, σ1) ∧ X12_who 251 v1 v2 v3 v4 v5 σ1 = some (r, σ2) ∧ Inv σ2
def Op26 (Inv : Mem → Prop) (σ : Mem) : Prop := ∀ v1 v2 v3 : Int32, ∃ (r : Int64) (σ1 : Mem) (σ2 : Mem), X11_lost 0 v1 v2 v3 σ = some (r, σ1) ∧ X12_lost 251 v1 v2 v3 σ1 = some (r, σ2) ∧ Inv σ2
def Op27 (Inv : Mem → Prop) (σ : Mem) : Prop := ∀ v1 v2 v3 : Int32, ∃ (r : Int32) (σ1 : Mem) (σ2 : Mem), X11_drawn 0 v1 v2 v3 σ = some (r, σ1) ∧ X12_drawn 251 v1 v2 v3 σ1 = some (r, σ2) ∧ Inv σ2
def Op28 (Inv : Mem → Prop) (σ : Mem) : Prop := ∀ v1 : Int32, ∃ (r : Int32) (σ1 : Mem) (σ2 : Mem), X11_image 0 v1 σ = some (r, σ1) ∧ X12_image 251 v1 σ1 = some (r, σ2) ∧ Inv σ2
def Op29 (Inv : Mem → Prop) (σ : Mem) : Prop := ∀ v1 : Int32, ∃ (r : Int32) (σ1 : Mem) (σ2 : Mem), X11_restore 0 v1 σ = some (r, σ1) ∧ X12_restore 251 v1 σ1 = some (r, σ2) ∧ Inv σ2
def Op30 (Inv : Mem → Prop) (σ : Mem) : Prop := ∀ v1 : Int32, ∃ (r : Int32), X11_kind 0 v1 σ = some r ∧ X12_kind 251 v1 σ = some r ∧ Inv σ
def Op31 (Inv : Mem → Prop) (σ : Mem) : Prop := ∀ v1 v2 : Int32, ∃ (r : Int32) (σ1 : Mem) (σ2 : Mem), X11_as 0 v1 v2 σ = some (r, σ1) ∧ X12_as 251 v1 v2 σ1 = some (r, σ2) ∧ Inv σ2
def Op32 (Inv : Mem → Prop) (σ : Mem) : Prop := ∀ v1 v2 : Int32, ∃ (r : Int32) (σ1 : Mem) (σ2 : Mem), X11_ask 0 v1 v2 σ = some (r, σ1) ∧ X12_ask 251 v1 v2 σ1 = some (r, σ2) ∧ Inv σ2
def Op33 (Inv : Mem → Prop) (σ : Mem) : Prop := ∀ v1 : Int32, ∃ (r : Int32), X11_trace 0 v1 σ = some r ∧ X12_trace 251 v1 σ = some r ∧ Inv σ
def Op34 (Inv : Mem → Prop) (σ : Mem) : Prop := ∀ v1 : Int32, ∃ (r : Int32), X11_count 0 v1 σ = some r ∧ X12_count 251 v1 σ = some r ∧ Inv σ
def Op35 (Inv : Mem → Prop) (σ : Mem) : Prop := ∃ (r : Int32), X11_status 0 σ = r ∧ X12_status 251 σ = r ∧ Inv σ
/-- whatever is called, class and reference answer alike, and what holds between them holds again -/
def LawStep (Inv : Mem → Prop) : Prop := ∀ σ : Mem, Inv σ → Op0 Inv σ ∧ Op1 Inv σ ∧ Op2 Inv σ ∧ Op3 Inv σ ∧ Op4 Inv σ ∧ Op5 Inv σ ∧ Op6 Inv σ ∧ Op7 Inv σ ∧ Op8 Inv σ ∧ Op9 Inv σ ∧ Op10 Inv σ ∧ Op11 Inv σ ∧ Op12 Inv σ ∧ Op13 Inv σ ∧ Op14 Inv σ ∧ Op15 Inv σ ∧ Op16 Inv σ ∧ Op17 Inv σ ∧ Op18 Inv σ ∧ Op19 Inv σ ∧ Op20 Inv σ ∧ Op21 Inv σ ∧ Op22 Inv σ ∧ Op23 Inv σ ∧ Op24 Inv σ ∧ Op25 Inv σ ∧ Op26 Inv σ ∧ Op27 Inv σ ∧ Op28 Inv σ ∧ Op29 Inv σ ∧ Op30 Inv σ ∧ Op31 Inv σ ∧ Op32 Inv σ ∧ Op33 Inv σ ∧ Op34 Inv σ ∧ Op35 Inv σ
theorem lw_in {n L j : Nat} (h : n + 6 ≤ L) (hL : L ≤ 3072) (hj : j < 6) : vp_in (nI n + nI j) L := by
  have e : nI n + nI j = nI (n + j) := by
    show Int32.ofNat n + Int32.ofNat j = Int32.ofNat (n + j)
    exact (Int32.ofNat_add n j).symm
  rw [e]
  exact nI_in (by omega) (by omega)
theorem lk_L_13 : LkV RL 13 RX11 yX11_row cX11_row 4 (some .int) 3 := ⟨qM_L_13, qI_X11_row, qS_X11_row, qi_X11, qC_X11_row, by decide +kernel, by decide +kernel, by decide +kernel, by decide⟩
theorem lk_L_17 : LkV RL 17 RX12 yX12_row cX12_row 5 (some .int) 3 := ⟨qM_L_17, qI_X12_row, qS_X12_row, qi_X12, qC_X12_row, by decide +kernel, by decide +kernel, by decide +kernel, by decide⟩
theorem lk_L_18 : LkV RL 18 RX11 yX11_set cX11_set 4 (some .int) 3 := ⟨qM_L_18, qI_X11_set, qS_X11_set, qi_X11, qC_X11_set, by decide +kernel, by decide +kernel, by decide +kernel, by decide⟩
theorem lk_L_21 : LkV RL 21 RX12 yX12_set cX12_set 4 (some .int) 3 := ⟨qM_L_21, qI_X12_set, qS_X12_set, qi_X12, qC_X12_set, by decide +kernel, by decide +kernel, by decide +kernel, by decide⟩
theorem lk_L_22 : LkV RL 22 RX11 yX11_copy cX11_copy 6 (some .int) 5 := ⟨qM_L_22, qI_X11_copy, qS_X11_copy, qi_X11, qC_X11_copy, by decide +kernel, by decide +kernel, by decide +kernel, by decide⟩
theorem lk_L_26 : LkV RL 26 RX12 yX12_copy cX12_copy 9 (some .int) 5 := ⟨qM_L_26, qI_X12_copy, qS_X12_copy, qi_X12, qC_X12_copy, by decide +kernel, by decide +kernel, by decide +kernel, by decide⟩
theorem lk_L_27 : LkV RL 27 RX11 yX11_drop cX11_drop 2 (some .int) 1 := ⟨qM_L_27, qI_X11_drop, qS_X11_drop, qi_X11, qC_X11_drop, by decide +kernel, by decide +kernel, by decide +kernel, by decide⟩
theorem lk_L_31 : LkV RL 31 RX12 yX12_drop cX12_drop 2 (some .int) 1 := ⟨qM_L_31, qI_X12_drop, qS_X12_drop, qi_X12, qC_X12_drop, by decide +kernel, by decide +kernel, by decide +kernel, by decide⟩
theorem lk_L_32 : LkV RL 32 RX11 yX11_feed cX11_feed 2 (some .int) 1 := ⟨qM_L_32, qI_X11_feed, qS_X11_feed, qi_X11, qC_X11_feed, by decide +kernel, by decide +kernel, by decide +kernel, by decide⟩
theorem lk_L_35 : LkV RL 35 RX12 yX12_feed cX12_feed 2 (some .int) 1 := ⟨qM_L_35, qI_X12_feed, qS_X12_feed, qi_X12, qC_X12_feed, by decide +kernel, by decide +kernel, by decide +kernel, by decide⟩
theorem lk_L_36 : LkV RL 36 RX11 yX11_book cX11_book 2 (some .int) 0 := ⟨qM_L_36, qI_X11_book, qS_X11_book, qi_X11, qC_X11_book, by decide +kernel, by decide +kernel, by decide +kernel, by decide⟩
theorem lk_L_40 : LkV RL 40 RX12 yX12_book cX12_book 2 (some .int) 0 := ⟨qM_L_40, qI_X12_book, qS_X12_book, qi_X12, qC_X12_book, by decide +kernel, by decide +kernel, by decide +kernel, by decide⟩
theorem lk_L_41 : LkV RL 41 RX11 yX11_fault cX11_fault 1 (some .int) 0 := ⟨qM_L_41, qI_X11_fault, qS_X11_fault, qi_X11, qC_X11_fault, by decide +kernel, by decide +kernel, by decide +kernel, by decide⟩
theorem lk_L_44 : LkV RL 44 RX12 yX12_fault cX12_fault 1 (some .int) 0 := ⟨qM_L_44, qI_X12_fault, qS_X12_fault, qi_X12, qC_X12_fault, by decide +kernel, by decide +kernel, by decide +kernel, by decide⟩
theorem lk_L_45 : LkV RL 45 RX11 yX11_undo cX11_undo 1 (some .int) 0 := ⟨qM_L_45, qI_X11_undo, qS_X11_undo, qi_X11, qC_X11_undo, by decide +kernel, by decide +kernel, by decide +kernel, by decide⟩
theorem lk_L_48 : LkV RL 48 RX12 yX12_undo cX12_undo 2 (some .int) 0 := ⟨qM_L_48, qI_X12_undo, qS_X12_undo, qi_X12, qC_X12_undo, by decide +kernel, by decide +kernel, by decide +kernel, by decide⟩
theorem lk_L_49 : LkV RL 49 RX11 yX11_put cX11_put 6 (some .int) 5 := ⟨qM_L_49, qI_X11_put, qS_X11_put, qi_X11, qC_X11_put, by decide +kernel, by decide +kernel, by decide +kernel, by decide⟩
theorem lk_L_52 : LkV RL 52 RX12 yX12_put cX12_put 6 (some .int) 5 := ⟨qM_L_52, qI_X12_put, qS_X12_put, qi_X12, qC_X12_put, by decide +kernel, by decide +kernel, by decide +kernel, by decide⟩
theorem lk_L_53 : LkV RL 53 RX11 yX11_take cX11_take 2 (some .int) 1 := ⟨qM_L_53, qI_X11_take, qS_X11_take, qi_X11, qC_X11_take, by decide +kernel, by decide +kernel, by decide +kernel, by decide⟩
theorem lk_L_56 : LkV RL 56 RX12 yX12_take cX12_take 2 (some .int) 1 := ⟨qM_L_56, qI_X12_take, qS_X12_take, qi_X12, qC_X12_take, by decide +kernel, by decide +kernel, by decide +kernel, by decide⟩
theorem lk_L_57 : LkV RL 57 RX11 yX11_move cX11_move 3 (some .int) 2 := ⟨qM_L_57, qI_X11_move, qS_X11_move, qi_X11, qC_X11_move, by decide +kernel, by decide +kernel, by decide +kernel, by decide⟩
theorem lk_L_61 : LkV RL 61 RX12 yX12_move cX12_move 8 (some .int) 2 := ⟨qM_L_61, qI_X12_move, qS_X12_move, qi_X12, qC_X12_move, by decide +kernel, by decide +kernel, by decide +kernel, by decide⟩
theorem lk_L_62 : LkV RL 62 RX11 yX11_measure cX11_measure 5 (some .int) 3 := ⟨qM_L_62, qI_X11_measure, qS_X11_measure, qi_X11, qC_X11_measure, by decide +kernel, by decide +kernel, by decide +kernel, by decide⟩
theorem lk_L_65 : LkV RL 65 RX12 yX12_measure cX12_measure 6 (some .int) 3 := ⟨qM_L_65, qI_X12_measure, qS_X12_measure, qi_X12, qC_X12_measure, by decide +kernel, by decide +kernel, by decide +kernel, by decide⟩
theorem lk_L_66 : LkV RL 66 RX11 yX11_become cX11_become 4 (some .int) 2 := ⟨qM_L_66, qI_X11_become, qS_X11_become, qi_X11, qC_X11_become, by decide +kernel, by decide +kernel, by decide +kernel, by decide⟩
theorem lk_L_69 : LkV RL 69 RX12 yX12_become cX12_become 4 (some .int) 2 := ⟨qM_L_69, qI_X12_become, qS_X12_become, qi_X12, qC_X12_become, by decide +kernel, by decide +kernel, by decide +kernel, by decide⟩
theorem lk_L_70 : LkV RL 70 RX11 yX11_law cX11_law 4 (some .int) 2 := ⟨qM_L_70, qI_X11_law, qS_X11_law, qi_X11, qC_X11_law, by decide +kernel, by decide +kernel, by decide +kernel, by decide⟩
theorem lk_L_73 : LkV RL 73 RX12 yX12_law cX12_law 4 (some .int) 2 := ⟨qM_L_73, qI_X12_law, qS_X12_law, qi_X12, qC_X12_law, by decide +kernel, by decide +kernel, by decide +kernel, by decide⟩
theorem lk_L_74 : LkV RL 74 RX11 yX11_page cX11_page 3 (some .int) 2 := ⟨qM_L_74, qI_X11_page, qS_X11_page, qi_X11, qC_X11_page, by decide +kernel, by decide +kernel, by decide +kernel, by decide⟩
theorem lk_L_77 : LkV RL 77 RX12 yX12_page cX12_page 4 (some .int) 2 := ⟨qM_L_77, qI_X12_page, qS_X12_page, qi_X12, qC_X12_page, by decide +kernel, by decide +kernel, by decide +kernel, by decide⟩
theorem lk_L_78 : LkV RL 78 RX11 yX11_apart cX11_apart 3 (some .int) 2 := ⟨qM_L_78, qI_X11_apart, qS_X11_apart, qi_X11, qC_X11_apart, by decide +kernel, by decide +kernel, by decide +kernel, by decide⟩
theorem lk_L_81 : LkV RL 81 RX12 yX12_apart cX12_apart 3 (some .int) 2 := ⟨qM_L_81, qI_X12_apart, qS_X12_apart, qi_X12, qC_X12_apart, by decide +kernel, by decide +kernel, by decide +kernel, by decide⟩
theorem lk_L_82 : LkV RL 82 RX11 yX11_spread cX11_spread 2 (some .int) 1 := ⟨qM_L_82, qI_X11_spread, qS_X11_spread, qi_X11, qC_X11_spread, by decide +kernel, by decide +kernel, by decide +kernel, by decide⟩
theorem lk_L_85 : LkV RL 85 RX12 yX12_spread cX12_spread 2 (some .int) 1 := ⟨qM_L_85, qI_X12_spread, qS_X12_spread, qi_X12, qC_X12_spread, by decide +kernel, by decide +kernel, by decide +kernel, by decide⟩
theorem lk_L_86 : LkV RL 86 RX11 yX11_whole cX11_whole 2 (some .int) 1 := ⟨qM_L_86, qI_X11_whole, qS_X11_whole, qi_X11, qC_X11_whole, by decide +kernel, by decide +kernel, by decide +kernel, by decide⟩
theorem lk_L_89 : LkV RL 89 RX12 yX12_whole cX12_whole 3 (some .int) 1 := ⟨qM_L_89, qI_X12_whole, qS_X12_whole, qi_X12, qC_X12_whole, by decide +kernel, by decide +kernel, by decide +kernel, by decide⟩
theorem lk_L_90 : LkV RL 90 RX11 yX11_hand cX11_hand 4 (some .int) 2 := ⟨qM_L_90, qI_X11_hand, qS_X11_hand, qi_X11, qC_X11_hand, by decide +kernel, by decide +kernel, by decide +kernel, by decide⟩
theorem lk_L_93 : LkV RL 93 RX12 yX12_hand cX12_hand 4 (some .int) 2 := ⟨qM_L_93, qI_X12_hand, qS_X12_hand, qi_X12, qC_X12_hand, by decide +kernel, by decide +kernel, by decide +kernel, by decide⟩
theorem lk_L_94 : LkV RL 94 RX11 yX11_run cX11_run 5 (some .int) 2 := ⟨qM_L_94, qI_X11_run, qS_X11_run, qi_X11, qC_X11_run, by decide +kernel, by decide +kernel, by decide +kernel, by decide⟩
theorem lk_L_97 : LkV RL 97 RX12 yX12_run cX12_run 5 (some .int) 2 := ⟨qM_L_97, qI_X12_run, qS_X12_run, qi_X12, qC_X12_run, by decide +kernel, by decide +kernel, by decide +kernel, by decide⟩
theorem lk_L_98 : LkV RL 98 RX11 yX11_sign cX11_sign 2 (some .int) 1 := ⟨qM_L_98, qI_X11_sign, qS_X11_sign, qi_X11, qC_X11_sign, by decide +kernel, by decide +kernel, by decide +kernel, by decide⟩
theorem lk_L_101 : LkV RL 101 RX12 yX12_sign cX12_sign 2 (some .int) 1 := ⟨qM_L_101, qI_X12_sign, qS_X12_sign, qi_X12, qC_X12_sign, by decide +kernel, by decide +kernel, by decide +kernel, by decide⟩
theorem lk_L_102 : LkV RL 102 RX11 yX11_say cX11_say 2 (some .int) 0 := ⟨qM_L_102, qI_X11_say, qS_X11_say, qi_X11, qC_X11_say, by decide +kernel, by decide +kernel, by decide +kernel, by decide⟩
theorem lk_L_105 : LkV RL 105 RX12 yX12_say cX12_say 2 (some .int) 0 := ⟨qM_L_105, qI_X12_say, qS_X12_say, qi_X12, qC_X12_say, by decide +kernel, by decide +kernel, by decide +kernel, by decide⟩
theorem lk_L_106 : LkV RL 106 RX11 yX11_without cX11_without 2 (some .int) 1 := ⟨qM_L_106, qI_X11_without, qS_X11_without, qi_X11, qC_X11_without, by decide +kernel, by decide +kernel, by decide +kernel, by decide⟩
theorem lk_L_109 : LkV RL 109 RX12 yX12_without cX12_without 2 (some .int) 1 := ⟨qM_L_109, qI_X12_without, qS_X12_without, qi_X12, qC_X12_without, by decide +kernel, by decide +kernel, by decide +kernel, by decide⟩
theorem lk_L_110 : LkV RL 110 RX11 yX11_least cX11_least 2 (some .int) 1 := ⟨qM_L_110, qI_X11_least, qS_X11_least, qi_X11, qC_X11_least, by decide +kernel, by decide +kernel, by decide +kernel, by decide⟩
theorem lk_L_113 : LkV RL 113 RX12 yX12_least cX12_least 3 (some .int) 1 := ⟨qM_L_113, qI_X12_least, qS_X12_least, qi_X12, qC_X12_least, by decide +kernel, by decide +kernel, by decide +kernel, by decide⟩
theorem lk_L_114 : LkV RL 114 RX11 yX11_pairs cX11_pairs 2 (some .int) 1 := ⟨qM_L_114, qI_X11_pairs, qS_X11_pairs, qi_X11, qC_X11_pairs, by decide +kernel, by decide +kernel, by decide +kernel, by decide⟩
theorem lk_L_117 : LkV RL 117 RX12 yX12_pairs cX12_pairs 2 (some .int) 1 := ⟨qM_L_117, qI_X12_pairs, qS_X12_pairs, qi_X12, qC_X12_pairs, by decide +kernel, by decide +kernel, by decide +kernel, by decide⟩
theorem lk_L_118 : LkV RL 118 RX11 yX11_who cX11_who 8 (some .int) 5 := ⟨qM_L_118, qI_X11_who, qS_X11_who, qi_X11, qC_X11_who, by decide +kernel, by decide +kernel, by decide +kernel, by decide⟩
theorem lk_L_121 : LkV RL 121 RX12 yX12_who cX12_who 8 (some .int) 5 := ⟨qM_L_121, qI_X12_who, qS_X12_who, qi_X12, qC_X12_who, by decide +kernel, by decide +kernel, by decide +kernel, by decide⟩
theorem lk_L_122 : LkV RL 122 RX11 yX11_lost cX11_lost 10 (some .long) 3 := ⟨qM_L_122, qI_X11_lost, qS_X11_lost, qi_X11, qC_X11_lost, by decide +kernel, by decide +kernel, by decide +kernel, by decide⟩
theorem lk_L_126 : LkV RL 126 RX12 yX12_lost cX12_lost 14 (some .long) 3 := ⟨qM_L_126, qI_X12_lost, qS_X12_lost, qi_X12, qC_X12_lost, by decide +kernel, by decide +kernel, by decide +kernel, by decide⟩
theorem lk_L_127 : LkV RL 127 RX11 yX11_drawn cX11_drawn 5 (some .int) 3 := ⟨qM_L_127, qI_X11_drawn, qS_X11_drawn, qi_X11, qC_X11_drawn, by decide +kernel, by decide +kernel, by decide +kernel, by decide⟩
theorem lk_L_130 : LkV RL 130 RX12 yX12_drawn cX12_drawn 10 (some .int) 3 := ⟨qM_L_130, qI_X12_drawn, qS_X12_drawn, qi_X12, qC_X12_drawn, by decide +kernel, by decide +kernel, by decide +kernel, by decide⟩
theorem lk_L_131 : LkV RL 131 RX11 yX11_image cX11_image 2 (some .int) 1 := ⟨qM_L_131, qI_X11_image, qS_X11_image, qi_X11, qC_X11_image, by decide +kernel, by decide +kernel, by decide +kernel, by decide⟩
theorem lk_L_134 : LkV RL 134 RX12 yX12_image cX12_image 3 (some .int) 1 := ⟨qM_L_134, qI_X12_image, qS_X12_image, qi_X12, qC_X12_image, by decide +kernel, by decide +kernel, by decide +kernel, by decide⟩
theorem lk_L_135 : LkV RL 135 RX11 yX11_restore cX11_restore 2 (some .int) 1 := ⟨qM_L_135, qI_X11_restore, qS_X11_restore, qi_X11, qC_X11_restore, by decide +kernel, by decide +kernel, by decide +kernel, by decide⟩
theorem lk_L_138 : LkV RL 138 RX12 yX12_restore cX12_restore 3 (some .int) 1 := ⟨qM_L_138, qI_X12_restore, qS_X12_restore, qi_X12, qC_X12_restore, by decide +kernel, by decide +kernel, by decide +kernel, by decide⟩
theorem lk_L_139 : LkV RL 139 RX11 yX11_kind cX11_kind 2 (some .int) 1 := ⟨qM_L_139, qI_X11_kind, qS_X11_kind, qi_X11, qC_X11_kind, by decide +kernel, by decide +kernel, by decide +kernel, by decide⟩
theorem lk_L_142 : LkV RL 142 RX12 yX12_kind cX12_kind 2 (some .int) 1 := ⟨qM_L_142, qI_X12_kind, qS_X12_kind, qi_X12, qC_X12_kind, by decide +kernel, by decide +kernel, by decide +kernel, by decide⟩
theorem lk_L_143 : LkV RL 143 RX11 yX11_as cX11_as 3 (some .int) 2 := ⟨qM_L_143, qI_X11_as, qS_X11_as, qi_X11, qC_X11_as, by decide +kernel, by decide +kernel, by decide +kernel, by decide⟩
theorem lk_L_146 : LkV RL 146 RX12 yX12_as cX12_as 3 (some .int) 2 := ⟨qM_L_146, qI_X12_as, qS_X12_as, qi_X12, qC_X12_as, by decide +kernel, by decide +kernel, by decide +kernel, by decide⟩
theorem lk_L_147 : LkV RL 147 RX11 yX11_ask cX11_ask 3 (some .int) 2 := ⟨qM_L_147, qI_X11_ask, qS_X11_ask, qi_X11, qC_X11_ask, by decide +kernel, by decide +kernel, by decide +kernel, by decide⟩
theorem lk_L_150 : LkV RL 150 RX12 yX12_ask cX12_ask 3 (some .int) 2 := ⟨qM_L_150, qI_X12_ask, qS_X12_ask, qi_X12, qC_X12_ask, by decide +kernel, by decide +kernel, by decide +kernel, by decide⟩
theorem lk_L_151 : LkV RL 151 RX11 yX11_trace cX11_trace 2 (some .int) 1 := ⟨qM_L_151, qI_X11_trace, qS_X11_trace, qi_X11, qC_X11_trace, by decide +kernel, by decide +kernel, by decide +kernel, by decide⟩
theorem lk_L_154 : LkV RL 154 RX12 yX12_trace cX12_trace 2 (some .int) 1 := ⟨qM_L_154, qI_X12_trace, qS_X12_trace, qi_X12, qC_X12_trace, by decide +kernel, by decide +kernel, by decide +kernel, by decide⟩
theorem lk_L_155 : LkV RL 155 RX11 yX11_count cX11_count 2 (some .int) 1 := ⟨qM_L_155, qI_X11_count, qS_X11_count, qi_X11, qC_X11_count, by decide +kernel, by decide +kernel, by decide +kernel, by decide⟩
theorem lk_L_158 : LkV RL 158 RX12 yX12_count cX12_count 4 (some .int) 1 := ⟨qM_L_158, qI_X12_count, qS_X12_count, qi_X12, qC_X12_count, by decide +kernel, by decide +kernel, by decide +kernel, by decide⟩
theorem lk_L_159 : LkV RL 159 RX11 yX11_status cX11_status 1 (some .int) 0 := ⟨qM_L_159, qI_X11_status, qS_X11_status, qi_X11, qC_X11_status, by decide +kernel, by decide +kernel, by decide +kernel, by decide⟩
theorem lk_L_162 : LkV RL 162 RX12 yX12_status cX12_status 1 (some .int) 0 := ⟨qM_L_162, qI_X12_status, qS_X12_status, qi_X12, qC_X12_status, by decide +kernel, by decide +kernel, by decide +kernel, by decide⟩
theorem lg_cmp_self (x : Int64) : lg_cmp x x = 0 := by
  unfold lg_cmp
  simp
theorem lw_small {n : Nat} (h : n < 2 ^ 31) : (nI n).toInt = (n : Int) := nI_toInt h
theorem lw_sub {L : Nat} (hL : L ≤ 3072) : (Int32.ofNat L - 6).toInt = (L : Int) - 6 := by
  rw [Int32.toInt_sub, Int32.toInt_ofNat_of_lt (by omega)]
  have h6 : (6 : Int32).toInt = 6 := by decide
  rw [h6, Int.bmod_eq_of_le (by omega) (by omega)]
theorem lw_gt {n L : Nat} (h : L < n + 6) (hn : n ≤ L + 6) (hL : L ≤ 3072) : Int32.ofNat L - 6 < nI n := by
  rw [Int32.lt_iff_toInt_lt, lw_sub hL, nI_toInt (by omega)]
  omega
theorem lw_le {n L : Nat} (h : ¬ Int32.ofNat L - 6 < nI n) (hn : n ≤ L + 6) (hL : L ≤ 3072) : n + 6 ≤ L := by
  rw [Int32.lt_iff_toInt_lt, lw_sub hL, nI_toInt (by omega)] at h
  omega
section
variable {p : Program} {l : Launch} {e : Env} {s : State} {m : MethodId} {below : List Frame} {meth : Method} {c : Code} {E : EnvT} {b L : Nat} {xs : Nat → Int32} {Inv : Mem → Prop} {Q : State → Prop} {cells slots : Nat}
set_option maxRecDepth 100000 in
set_option maxHeartbeats 4000000 in
theorem lw_case0 (hL : L ≤ 3072) (C0 : Cx E p m c code 4 s #[Value.ref b] RL meth (some .boolean)) (hX : va_X b L xs s s.heap) (hbl : b < s.heap.size) (hbA : ¬ eA E b) (hcl : cells ≤ room_1.cells ∧ slots ≤ room_1.slots) {n : Nat} (hn : n + 6 ≤ L) {σ : Mem} {H : Heap} {locs : List Loc} {ls : Array Slot} (hH : Hs E s σ H locs) (hl : lv_has ls 4 [(3, .int (nI n)), (0, .ref b), (1, .ref (ea E 0)), (2, .ref (ea E 251))]) (hOp : Op0 Inv σ) (kk : (∀ (σ : Mem) (H : Heap) (locs : List Loc) (ls : Array Slot), Inv σ → Hs E s σ H locs → lv_has ls 4 [(3, .int (nI n)), (0, .ref b), (1, .ref (ea E 0)), (2, .ref (ea E 251))] → W p l e room_1 s m #[Value.ref b] below meth c H locs cells slots Q (F0 m 1281 ls []))) : W p l e room_1 s m #[Value.ref b] below meth c H locs cells slots Q (F0 m 192 ls []) := by
  obtain ⟨⟨hx, hb, hml, hown, hts⟩, hr, hlocks, hF, hAd⟩ := id C0
  obtain ⟨r, σ1, σ2, q1, q2, hI⟩ := hOp (xs (nI n + 1).toNatClampNeg) (xs (nI n + 2).toNatClampNeg) (xs (nI n + 3).toNatClampNeg)
  refine lv_aload_n hx hb dL_law_192 rfl (lv_at hl 2 rfl) ?_
  refine lv_aload_n hx hb dL_law_193 rfl (lv_at hl 1 rfl) ?_
  refine lv_iload_n hx hb dL_law_194 rfl (lv_at hl 0 rfl) ?_
  refine lv_iconst (v := 1) hx hb dL_law_195 (by decide) ?_
  refine lv_iadd hx hb dL_law_196 ?_
  refine va_sld hx hb hX hbl hbA hH.2 (lw_in (j := 1) hn hL (by decide)) dL_law_197 ?_
  refine lv_aload_n hx hb dL_law_198 rfl (lv_at hl 1 rfl) ?_
  refine lv_iload_n hx hb dL_law_199 rfl (lv_at hl 0 rfl) ?_
  refine lv_iconst (v := 2) hx hb dL_law_200 (by decide) ?_
  refine lv_iadd hx hb dL_law_201 ?_
  refine va_sld hx hb hX hbl hbA hH.2 (lw_in (j := 2) hn hL (by decide)) dL_law_202 ?_
  refine lv_aload_n hx hb dL_law_203 rfl (lv_at hl 1 rfl) ?_
  refine lv_iload_n hx hb dL_law_204 rfl (lv_at hl 0 rfl) ?_
  refine lv_iconst (v := 3) hx hb dL_law_205 (by decide) ?_
  refine lv_iadd hx hb dL_law_206 ?_
  refine va_sld hx hb hX hbl hbA hH.2 (lw_in (j := 3) hn hL (by decide)) dL_law_207 ?_
  refine go_iL hH (va_run_VL (As := [.int (xs (nI n + 1).toNatClampNeg), .int (xs (nI n + 2).toNatClampNeg), .int (xs (nI n + 3).toNatClampNeg)]) (rest := []) C0 hH lk_L_13 (c_X11_row hAd 0 (xs (nI n + 1).toNatClampNeg) (xs (nI n + 2).toNatClampNeg) (xs (nI n + 3).toNatClampNeg) kd_0 σ q1) ⟨Nat.le_of_ble_eq_true rfl, Nat.le_of_ble_eq_true rfl⟩ (ci := 11) kd_0 (by decide) (cob_11 _ _ _) rfl rfl hl.1 rfl (Nat.le_of_ble_eq_true rfl) dL_law_208 hcl) (fun H locs hH => ?_)
  refine lv_aload_n hx hb dL_law_211 rfl (lv_at hl 3 rfl) ?_
  refine lv_aload_n hx hb dL_law_212 rfl (lv_at hl 1 rfl) ?_
  refine lv_iload_n hx hb dL_law_213 rfl (lv_at hl 0 rfl) ?_
  refine lv_iconst (v := 1) hx hb dL_law_214 (by decide) ?_
  refine lv_iadd hx hb dL_law_215 ?_
  refine va_sld hx hb hX hbl hbA hH.2 (lw_in (j := 1) hn hL (by decide)) dL_law_216 ?_
  refine lv_aload_n hx hb dL_law_217 rfl (lv_at hl 1 rfl) ?_
  refine lv_iload_n hx hb dL_law_218 rfl (lv_at hl 0 rfl) ?_
  refine lv_iconst (v := 2) hx hb dL_law_219 (by decide) ?_
  refine lv_iadd hx hb dL_law_220 ?_
  refine va_sld hx hb hX hbl hbA hH.2 (lw_in (j := 2) hn hL (by decide)) dL_law_221 ?_
  refine lv_aload_n hx hb dL_law_222 rfl (lv_at hl 1 rfl) ?_
  refine lv_iload_n hx hb dL_law_223 rfl (lv_at hl 0 rfl) ?_
  refine lv_iconst (v := 3) hx hb dL_law_224 (by decide) ?_
  refine lv_iadd hx hb dL_law_225 ?_
  refine va_sld hx hb hX hbl hbA hH.2 (lw_in (j := 3) hn hL (by decide)) dL_law_226 ?_
  refine go_iL hH (va_run_VL (As := [.int (xs (nI n + 1).toNatClampNeg), .int (xs (nI n + 2).toNatClampNeg), .int (xs (nI n + 3).toNatClampNeg)]) (rest := [.int r]) C0 hH lk_L_17 (c_X12_row hAd 251 (xs (nI n + 1).toNatClampNeg) (xs (nI n + 2).toNatClampNeg) (xs (nI n + 3).toNatClampNeg) kd_251 σ1 q2) ⟨Nat.le_of_ble_eq_true rfl, Nat.le_of_ble_eq_true rfl⟩ (ci := 12) kd_251 (by decide) (cob_12 _ _ _) rfl rfl hl.1 rfl (Nat.le_of_ble_eq_true rfl) dL_law_227 hcl) (fun H locs hH => ?_)
  refine lv_icmp_eq (tgt := 1281) hx hb dL_law_230 (by decide) (fun _ => ?_) (fun c1 => absurd rfl c1)
  exact kk _ _ _ _ hI hH hl
set_option maxRecDepth 100000 in
set_option maxHeartbeats 4000000 in
theorem lw_case1 (hL : L ≤ 3072) (C0 : Cx E p m c code 4 s #[Value.ref b] RL meth (some .boolean)) (hX : va_X b L xs s s.heap) (hbl : b < s.heap.size) (hbA : ¬ eA E b) (hcl : cells ≤ room_1.cells ∧ slots ≤ room_1.slots) {n : Nat} (hn : n + 6 ≤ L) {σ : Mem} {H : Heap} {locs : List Loc} {ls : Array Slot} (hH : Hs E s σ H locs) (hl : lv_has ls 4 [(3, .int (nI n)), (0, .ref b), (1, .ref (ea E 0)), (2, .ref (ea E 251))]) (hOp : Op1 Inv σ) (kk : (∀ (σ : Mem) (H : Heap) (locs : List Loc) (ls : Array Slot), Inv σ → Hs E s σ H locs → lv_has ls 4 [(3, .int (nI n)), (0, .ref b), (1, .ref (ea E 0)), (2, .ref (ea E 251))] → W p l e room_1 s m #[Value.ref b] below meth c H locs cells slots Q (F0 m 1281 ls []))) : W p l e room_1 s m #[Value.ref b] below meth c H locs cells slots Q (F0 m 235 ls []) := by
  obtain ⟨⟨hx, hb, hml, hown, hts⟩, hr, hlocks, hF, hAd⟩ := id C0
  obtain ⟨r, σ1, σ2, q1, q2, hI⟩ := hOp (xs (nI n + 1).toNatClampNeg) (xs (nI n + 2).toNatClampNeg) (xs (nI n + 3).toNatClampNeg)
  refine lv_aload_n hx hb dL_law_235 rfl (lv_at hl 2 rfl) ?_
  refine lv_aload_n hx hb dL_law_236 rfl (lv_at hl 1 rfl) ?_
  refine lv_iload_n hx hb dL_law_237 rfl (lv_at hl 0 rfl) ?_
  refine lv_iconst (v := 1) hx hb dL_law_238 (by decide) ?_
  refine lv_iadd hx hb dL_law_239 ?_
  refine va_sld hx hb hX hbl hbA hH.2 (lw_in (j := 1) hn hL (by decide)) dL_law_240 ?_
  refine lv_aload_n hx hb dL_law_241 rfl (lv_at hl 1 rfl) ?_
  refine lv_iload_n hx hb dL_law_242 rfl (lv_at hl 0 rfl) ?_
  refine lv_iconst (v := 2) hx hb dL_law_243 (by decide) ?_
  refine lv_iadd hx hb dL_law_244 ?_
  refine va_sld hx hb hX hbl hbA hH.2 (lw_in (j := 2) hn hL (by decide)) dL_law_245 ?_
  refine lv_aload_n hx hb dL_law_246 rfl (lv_at hl 1 rfl) ?_
  refine lv_iload_n hx hb dL_law_247 rfl (lv_at hl 0 rfl) ?_
  refine lv_iconst (v := 3) hx hb dL_law_248 (by decide) ?_
  refine lv_iadd hx hb dL_law_249 ?_
  refine va_sld hx hb hX hbl hbA hH.2 (lw_in (j := 3) hn hL (by decide)) dL_law_250 ?_
  refine go_iL hH (va_run_VL (As := [.int (xs (nI n + 1).toNatClampNeg), .int (xs (nI n + 2).toNatClampNeg), .int (xs (nI n + 3).toNatClampNeg)]) (rest := []) C0 hH lk_L_18 (c_X11_set hAd 0 (xs (nI n + 1).toNatClampNeg) (xs (nI n + 2).toNatClampNeg) (xs (nI n + 3).toNatClampNeg) kd_0 σ q1) ⟨Nat.le_of_ble_eq_true rfl, Nat.le_of_ble_eq_true rfl⟩ (ci := 11) kd_0 (by decide) (cob_11 _ _ _) rfl rfl hl.1 rfl (Nat.le_of_ble_eq_true rfl) dL_law_251 hcl) (fun H locs hH => ?_)
  refine lv_aload_n hx hb dL_law_254 rfl (lv_at hl 3 rfl) ?_
  refine lv_aload_n hx hb dL_law_255 rfl (lv_at hl 1 rfl) ?_
  refine lv_iload_n hx hb dL_law_256 rfl (lv_at hl 0 rfl) ?_
  refine lv_iconst (v := 1) hx hb dL_law_257 (by decide) ?_
  refine lv_iadd hx hb dL_law_258 ?_
  refine va_sld hx hb hX hbl hbA hH.2 (lw_in (j := 1) hn hL (by decide)) dL_law_259 ?_
  refine lv_aload_n hx hb dL_law_260 rfl (lv_at hl 1 rfl) ?_
  refine lv_iload_n hx hb dL_law_261 rfl (lv_at hl 0 rfl) ?_
  refine lv_iconst (v := 2) hx hb dL_law_262 (by decide) ?_
  refine lv_iadd hx hb dL_law_263 ?_
  refine va_sld hx hb hX hbl hbA hH.2 (lw_in (j := 2) hn hL (by decide)) dL_law_264 ?_
  refine lv_aload_n hx hb dL_law_265 rfl (lv_at hl 1 rfl) ?_
  refine lv_iload_n hx hb dL_law_266 rfl (lv_at hl 0 rfl) ?_
  refine lv_iconst (v := 3) hx hb dL_law_267 (by decide) ?_
  refine lv_iadd hx hb dL_law_268 ?_
  refine va_sld hx hb hX hbl hbA hH.2 (lw_in (j := 3) hn hL (by decide)) dL_law_269 ?_
  refine go_iL hH (va_run_VL (As := [.int (xs (nI n + 1).toNatClampNeg), .int (xs (nI n + 2).toNatClampNeg), .int (xs (nI n + 3).toNatClampNeg)]) (rest := [.int r]) C0 hH lk_L_21 (c_X12_set hAd 251 (xs (nI n + 1).toNatClampNeg) (xs (nI n + 2).toNatClampNeg) (xs (nI n + 3).toNatClampNeg) kd_251 σ1 q2) ⟨Nat.le_of_ble_eq_true rfl, Nat.le_of_ble_eq_true rfl⟩ (ci := 12) kd_251 (by decide) (cob_12 _ _ _) rfl rfl hl.1 rfl (Nat.le_of_ble_eq_true rfl) dL_law_270 hcl) (fun H locs hH => ?_)
  refine lv_icmp_eq (tgt := 1281) hx hb dL_law_273 (by decide) (fun _ => ?_) (fun c1 => absurd rfl c1)
  exact kk _ _ _ _ hI hH hl
set_option maxRecDepth 100000 in
set_option maxHeartbeats 4000000 in
theorem lw_case2 (hL : L ≤ 3072) (C0 : Cx E p m c code 4 s #[Value.ref b] RL meth (some .boolean)) (hX : va_X b L xs s s.heap) (hbl : b < s.heap.size) (hbA : ¬ eA E b) (hcl : cells ≤ room_1.cells ∧ slots ≤ room_1.slots) {n : Nat} (hn : n + 6 ≤ L) {σ : Mem} {H : Heap} {locs : List Loc} {ls : Array Slot} (hH : Hs E s σ H locs) (hl : lv_has ls 4 [(3, .int (nI n)), (0, .ref b), (1, .ref (ea E 0)), (2, .ref (ea E 251))]) (hOp : Op2 Inv σ) (kk : (∀ (σ : Mem) (H : Heap) (locs : List Loc) (ls : Array Slot), Inv σ → Hs E s σ H locs → lv_has ls 4 [(3, .int (nI n)), (0, .ref b), (1, .ref (ea E 0)), (2, .ref (ea E 251))] → W p l e room_1 s m #[Value.ref b] below meth c H locs cells slots Q (F0 m 1281 ls []))) : W p l e room_1 s m #[Value.ref b] below meth c H locs cells slots Q (F0 m 278 ls []) := by
  obtain ⟨⟨hx, hb, hml, hown, hts⟩, hr, hlocks, hF, hAd⟩ := id C0
  obtain ⟨r, σ1, σ2, q1, q2, hI⟩ := hOp (xs (nI n + 1).toNatClampNeg) (xs (nI n + 2).toNatClampNeg) (xs (nI n + 3).toNatClampNeg) (xs (nI n + 4).toNatClampNeg) (xs (nI n + 5).toNatClampNeg)
  refine lv_aload_n hx hb dL_law_278 rfl (lv_at hl 2 rfl) ?_
  refine lv_aload_n hx hb dL_law_279 rfl (lv_at hl 1 rfl) ?_
  refine lv_iload_n hx hb dL_law_280 rfl (lv_at hl 0 rfl) ?_
  refine lv_iconst (v := 1) hx hb dL_law_281 (by decide) ?_
  refine lv_iadd hx hb dL_law_282 ?_
  refine va_sld hx hb hX hbl hbA hH.2 (lw_in (j := 1) hn hL (by decide)) dL_law_283 ?_
  refine lv_aload_n hx hb dL_law_284 rfl (lv_at hl 1 rfl) ?_
  refine lv_iload_n hx hb dL_law_285 rfl (lv_at hl 0 rfl) ?_
  refine lv_iconst (v := 2) hx hb dL_law_286 (by decide) ?_
  refine lv_iadd hx hb dL_law_287 ?_
  refine va_sld hx hb hX hbl hbA hH.2 (lw_in (j := 2) hn hL (by decide)) dL_law_288 ?_
  refine lv_aload_n hx hb dL_law_289 rfl (lv_at hl 1 rfl) ?_
  refine lv_iload_n hx hb dL_law_290 rfl (lv_at hl 0 rfl) ?_
  refine lv_iconst (v := 3) hx hb dL_law_291 (by decide) ?_
  refine lv_iadd hx hb dL_law_292 ?_
  refine va_sld hx hb hX hbl hbA hH.2 (lw_in (j := 3) hn hL (by decide)) dL_law_293 ?_
  refine lv_aload_n hx hb dL_law_294 rfl (lv_at hl 1 rfl) ?_
  refine lv_iload_n hx hb dL_law_295 rfl (lv_at hl 0 rfl) ?_
  refine lv_iconst (v := 4) hx hb dL_law_296 (by decide) ?_
  refine lv_iadd hx hb dL_law_297 ?_
  refine va_sld hx hb hX hbl hbA hH.2 (lw_in (j := 4) hn hL (by decide)) dL_law_298 ?_
  refine lv_aload_n hx hb dL_law_299 rfl (lv_at hl 1 rfl) ?_
  refine lv_iload_n hx hb dL_law_300 rfl (lv_at hl 0 rfl) ?_
  refine lv_iconst (v := 5) hx hb dL_law_301 (by decide) ?_
  refine lv_iadd hx hb dL_law_302 ?_
  refine va_sld hx hb hX hbl hbA hH.2 (lw_in (j := 5) hn hL (by decide)) dL_law_303 ?_
  refine go_iL hH (va_run_VL (As := [.int (xs (nI n + 1).toNatClampNeg), .int (xs (nI n + 2).toNatClampNeg), .int (xs (nI n + 3).toNatClampNeg), .int (xs (nI n + 4).toNatClampNeg), .int (xs (nI n + 5).toNatClampNeg)]) (rest := []) C0 hH lk_L_22 (c_X11_copy hAd 0 (xs (nI n + 1).toNatClampNeg) (xs (nI n + 2).toNatClampNeg) (xs (nI n + 3).toNatClampNeg) (xs (nI n + 4).toNatClampNeg) (xs (nI n + 5).toNatClampNeg) kd_0 σ q1) ⟨Nat.le_of_ble_eq_true rfl, Nat.le_of_ble_eq_true rfl⟩ (ci := 11) kd_0 (by decide) (cob_11 _ _ _) rfl rfl hl.1 rfl (Nat.le_of_ble_eq_true rfl) dL_law_304 hcl) (fun H locs hH => ?_)
  refine lv_aload_n hx hb dL_law_307 rfl (lv_at hl 3 rfl) ?_
  refine lv_aload_n hx hb dL_law_308 rfl (lv_at hl 1 rfl) ?_
  refine lv_iload_n hx hb dL_law_309 rfl (lv_at hl 0 rfl) ?_
  refine lv_iconst (v := 1) hx hb dL_law_310 (by decide) ?_
  refine lv_iadd hx hb dL_law_311 ?_
  refine va_sld hx hb hX hbl hbA hH.2 (lw_in (j := 1) hn hL (by decide)) dL_law_312 ?_
  refine lv_aload_n hx hb dL_law_313 rfl (lv_at hl 1 rfl) ?_
  refine lv_iload_n hx hb dL_law_314 rfl (lv_at hl 0 rfl) ?_
  refine lv_iconst (v := 2) hx hb dL_law_315 (by decide) ?_
  refine lv_iadd hx hb dL_law_316 ?_
  refine va_sld hx hb hX hbl hbA hH.2 (lw_in (j := 2) hn hL (by decide)) dL_law_317 ?_
  refine lv_aload_n hx hb dL_law_318 rfl (lv_at hl 1 rfl) ?_
  refine lv_iload_n hx hb dL_law_319 rfl (lv_at hl 0 rfl) ?_
  refine lv_iconst (v := 3) hx hb dL_law_320 (by decide) ?_
  refine lv_iadd hx hb dL_law_321 ?_
  refine va_sld hx hb hX hbl hbA hH.2 (lw_in (j := 3) hn hL (by decide)) dL_law_322 ?_
  refine lv_aload_n hx hb dL_law_323 rfl (lv_at hl 1 rfl) ?_
  refine lv_iload_n hx hb dL_law_324 rfl (lv_at hl 0 rfl) ?_
  refine lv_iconst (v := 4) hx hb dL_law_325 (by decide) ?_
  refine lv_iadd hx hb dL_law_326 ?_
  refine va_sld hx hb hX hbl hbA hH.2 (lw_in (j := 4) hn hL (by decide)) dL_law_327 ?_
  refine lv_aload_n hx hb dL_law_328 rfl (lv_at hl 1 rfl) ?_
  refine lv_iload_n hx hb dL_law_329 rfl (lv_at hl 0 rfl) ?_
  refine lv_iconst (v := 5) hx hb dL_law_330 (by decide) ?_
  refine lv_iadd hx hb dL_law_331 ?_
  refine va_sld hx hb hX hbl hbA hH.2 (lw_in (j := 5) hn hL (by decide)) dL_law_332 ?_
  refine go_iL hH (va_run_VL (As := [.int (xs (nI n + 1).toNatClampNeg), .int (xs (nI n + 2).toNatClampNeg), .int (xs (nI n + 3).toNatClampNeg), .int (xs (nI n + 4).toNatClampNeg), .int (xs (nI n + 5).toNatClampNeg)]) (rest := [.int r]) C0 hH lk_L_26 (c_X12_copy hAd 251 (xs (nI n + 1).toNatClampNeg) (xs (nI n + 2).toNatClampNeg) (xs (nI n + 3).toNatClampNeg) (xs (nI n + 4).toNatClampNeg) (xs (nI n + 5).toNatClampNeg) kd_251 σ1 q2) ⟨Nat.le_of_ble_eq_true rfl, Nat.le_of_ble_eq_true rfl⟩ (ci := 12) kd_251 (by decide) (cob_12 _ _ _) rfl rfl hl.1 rfl (Nat.le_of_ble_eq_true rfl) dL_law_333 hcl) (fun H locs hH => ?_)
  refine lv_icmp_eq (tgt := 1281) hx hb dL_law_336 (by decide) (fun _ => ?_) (fun c1 => absurd rfl c1)
  exact kk _ _ _ _ hI hH hl
set_option maxRecDepth 100000 in
set_option maxHeartbeats 4000000 in
theorem lw_case3 (hL : L ≤ 3072) (C0 : Cx E p m c code 4 s #[Value.ref b] RL meth (some .boolean)) (hX : va_X b L xs s s.heap) (hbl : b < s.heap.size) (hbA : ¬ eA E b) (hcl : cells ≤ room_1.cells ∧ slots ≤ room_1.slots) {n : Nat} (hn : n + 6 ≤ L) {σ : Mem} {H : Heap} {locs : List Loc} {ls : Array Slot} (hH : Hs E s σ H locs) (hl : lv_has ls 4 [(3, .int (nI n)), (0, .ref b), (1, .ref (ea E 0)), (2, .ref (ea E 251))]) (hOp : Op3 Inv σ) (kk : (∀ (σ : Mem) (H : Heap) (locs : List Loc) (ls : Array Slot), Inv σ → Hs E s σ H locs → lv_has ls 4 [(3, .int (nI n)), (0, .ref b), (1, .ref (ea E 0)), (2, .ref (ea E 251))] → W p l e room_1 s m #[Value.ref b] below meth c H locs cells slots Q (F0 m 1281 ls []))) : W p l e room_1 s m #[Value.ref b] below meth c H locs cells slots Q (F0 m 341 ls []) := by
  obtain ⟨⟨hx, hb, hml, hown, hts⟩, hr, hlocks, hF, hAd⟩ := id C0
  obtain ⟨r, σ1, σ2, q1, q2, hI⟩ := hOp (xs (nI n + 1).toNatClampNeg)
  refine lv_aload_n hx hb dL_law_341 rfl (lv_at hl 2 rfl) ?_
  refine lv_aload_n hx hb dL_law_342 rfl (lv_at hl 1 rfl) ?_
  refine lv_iload_n hx hb dL_law_343 rfl (lv_at hl 0 rfl) ?_
  refine lv_iconst (v := 1) hx hb dL_law_344 (by decide) ?_
  refine lv_iadd hx hb dL_law_345 ?_
  refine va_sld hx hb hX hbl hbA hH.2 (lw_in (j := 1) hn hL (by decide)) dL_law_346 ?_
  refine go_iL hH (va_run_VL (As := [.int (xs (nI n + 1).toNatClampNeg)]) (rest := []) C0 hH lk_L_27 (c_X11_drop hAd 0 (xs (nI n + 1).toNatClampNeg) kd_0 σ q1) ⟨Nat.le_of_ble_eq_true rfl, Nat.le_of_ble_eq_true rfl⟩ (ci := 11) kd_0 (by decide) (cob_11 _ _ _) rfl rfl hl.1 rfl (Nat.le_of_ble_eq_true rfl) dL_law_347 hcl) (fun H locs hH => ?_)
  refine lv_aload_n hx hb dL_law_350 rfl (lv_at hl 3 rfl) ?_
  refine lv_aload_n hx hb dL_law_351 rfl (lv_at hl 1 rfl) ?_
  refine lv_iload_n hx hb dL_law_352 rfl (lv_at hl 0 rfl) ?_
  refine lv_iconst (v := 1) hx hb dL_law_353 (by decide) ?_
  refine lv_iadd hx hb dL_law_354 ?_
  refine va_sld hx hb hX hbl hbA hH.2 (lw_in (j := 1) hn hL (by decide)) dL_law_355 ?_
  refine go_iL hH (va_run_VL (As := [.int (xs (nI n + 1).toNatClampNeg)]) (rest := [.int r]) C0 hH lk_L_31 (c_X12_drop hAd 251 (xs (nI n + 1).toNatClampNeg) kd_251 σ1 q2) ⟨Nat.le_of_ble_eq_true rfl, Nat.le_of_ble_eq_true rfl⟩ (ci := 12) kd_251 (by decide) (cob_12 _ _ _) rfl rfl hl.1 rfl (Nat.le_of_ble_eq_true rfl) dL_law_356 hcl) (fun H locs hH => ?_)
  refine lv_icmp_eq (tgt := 1281) hx hb dL_law_359 (by decide) (fun _ => ?_) (fun c1 => absurd rfl c1)
  exact kk _ _ _ _ hI hH hl
set_option maxRecDepth 100000 in
set_option maxHeartbeats 4000000 in
theorem lw_case4 (hL : L ≤ 3072) (C0 : Cx E p m c code 4 s #[Value.ref b] RL meth (some .boolean)) (hX : va_X b L xs s s.heap) (hbl : b < s.heap.size) (hbA : ¬ eA E b) (hcl : cells ≤ room_1.cells ∧ slots ≤ room_1.slots) {n : Nat} (hn : n + 6 ≤ L) {σ : Mem} {H : Heap} {locs : List Loc} {ls : Array Slot} (hH : Hs E s σ H locs) (hl : lv_has ls 4 [(3, .int (nI n)), (0, .ref b), (1, .ref (ea E 0)), (2, .ref (ea E 251))]) (hOp : Op4 Inv σ) (kk : (∀ (σ : Mem) (H : Heap) (locs : List Loc) (ls : Array Slot), Inv σ → Hs E s σ H locs → lv_has ls 4 [(3, .int (nI n)), (0, .ref b), (1, .ref (ea E 0)), (2, .ref (ea E 251))] → W p l e room_1 s m #[Value.ref b] below meth c H locs cells slots Q (F0 m 1281 ls []))) : W p l e room_1 s m #[Value.ref b] below meth c H locs cells slots Q (F0 m 364 ls []) := by
  obtain ⟨⟨hx, hb, hml, hown, hts⟩, hr, hlocks, hF, hAd⟩ := id C0
  obtain ⟨r, σ1, σ2, q1, q2, hI⟩ := hOp (xs (nI n + 1).toNatClampNeg)
  refine lv_aload_n hx hb dL_law_364 rfl (lv_at hl 2 rfl) ?_
  refine lv_aload_n hx hb dL_law_365 rfl (lv_at hl 1 rfl) ?_
  refine lv_iload_n hx hb dL_law_366 rfl (lv_at hl 0 rfl) ?_
  refine lv_iconst (v := 1) hx hb dL_law_367 (by decide) ?_
  refine lv_iadd hx hb dL_law_368 ?_
  refine va_sld hx hb hX hbl hbA hH.2 (lw_in (j := 1) hn hL (by decide)) dL_law_369 ?_
  refine go_iL hH (va_run_VL (As := [.int (xs (nI n + 1).toNatClampNeg)]) (rest := []) C0 hH lk_L_32 (c_X11_feed hAd 0 (xs (nI n + 1).toNatClampNeg) kd_0 σ q1) ⟨Nat.le_of_ble_eq_true rfl, Nat.le_of_ble_eq_true rfl⟩ (ci := 11) kd_0 (by decide) (cob_11 _ _ _) rfl rfl hl.1 rfl (Nat.le_of_ble_eq_true rfl) dL_law_370 hcl) (fun H locs hH => ?_)
  refine lv_aload_n hx hb dL_law_373 rfl (lv_at hl 3 rfl) ?_
  refine lv_aload_n hx hb dL_law_374 rfl (lv_at hl 1 rfl) ?_
  refine lv_iload_n hx hb dL_law_375 rfl (lv_at hl 0 rfl) ?_
  refine lv_iconst (v := 1) hx hb dL_law_376 (by decide) ?_
  refine lv_iadd hx hb dL_law_377 ?_
  refine va_sld hx hb hX hbl hbA hH.2 (lw_in (j := 1) hn hL (by decide)) dL_law_378 ?_
  refine go_iL hH (va_run_VL (As := [.int (xs (nI n + 1).toNatClampNeg)]) (rest := [.int r]) C0 hH lk_L_35 (c_X12_feed hAd 251 (xs (nI n + 1).toNatClampNeg) kd_251 σ1 q2) ⟨Nat.le_of_ble_eq_true rfl, Nat.le_of_ble_eq_true rfl⟩ (ci := 12) kd_251 (by decide) (cob_12 _ _ _) rfl rfl hl.1 rfl (Nat.le_of_ble_eq_true rfl) dL_law_379 hcl) (fun H locs hH => ?_)
  refine lv_icmp_eq (tgt := 1281) hx hb dL_law_382 (by decide) (fun _ => ?_) (fun c1 => absurd rfl c1)
  exact kk _ _ _ _ hI hH hl
set_option maxRecDepth 100000 in
set_option maxHeartbeats 4000000 in
theorem lw_case5 (hL : L ≤ 3072) (C0 : Cx E p m c code 4 s #[Value.ref b] RL meth (some .boolean)) (hX : va_X b L xs s s.heap) (hbl : b < s.heap.size) (hbA : ¬ eA E b) (hcl : cells ≤ room_1.cells ∧ slots ≤ room_1.slots) {n : Nat} (hn : n + 6 ≤ L) {σ : Mem} {H : Heap} {locs : List Loc} {ls : Array Slot} (hH : Hs E s σ H locs) (hl : lv_has ls 4 [(3, .int (nI n)), (0, .ref b), (1, .ref (ea E 0)), (2, .ref (ea E 251))]) (hOp : Op5 Inv σ) (kk : (∀ (σ : Mem) (H : Heap) (locs : List Loc) (ls : Array Slot), Inv σ → Hs E s σ H locs → lv_has ls 4 [(3, .int (nI n)), (0, .ref b), (1, .ref (ea E 0)), (2, .ref (ea E 251))] → W p l e room_1 s m #[Value.ref b] below meth c H locs cells slots Q (F0 m 1281 ls []))) : W p l e room_1 s m #[Value.ref b] below meth c H locs cells slots Q (F0 m 387 ls []) := by
  obtain ⟨⟨hx, hb, hml, hown, hts⟩, hr, hlocks, hF, hAd⟩ := id C0
  obtain ⟨r, σ1, σ2, q1, q2, hI⟩ := hOp
  refine lv_aload_n hx hb dL_law_387 rfl (lv_at hl 2 rfl) ?_
  refine go_iL hH (va_run_VL (As := []) (rest := []) C0 hH lk_L_36 (c_X11_book hAd 0 kd_0 σ q1) ⟨Nat.le_of_ble_eq_true rfl, Nat.le_of_ble_eq_true rfl⟩ (ci := 11) kd_0 (by decide) (cob_11 _ _ _) rfl rfl hl.1 rfl (Nat.le_of_ble_eq_true rfl) dL_law_388 hcl) (fun H locs hH => ?_)
  refine lv_aload_n hx hb dL_law_391 rfl (lv_at hl 3 rfl) ?_
  refine go_iL hH (va_run_VL (As := []) (rest := [.int r]) C0 hH lk_L_40 (c_X12_book hAd 251 kd_251 σ1 q2) ⟨Nat.le_of_ble_eq_true rfl, Nat.le_of_ble_eq_true rfl⟩ (ci := 12) kd_251 (by decide) (cob_12 _ _ _) rfl rfl hl.1 rfl (Nat.le_of_ble_eq_true rfl) dL_law_392 hcl) (fun H locs hH => ?_)
  refine lv_icmp_eq (tgt := 1281) hx hb dL_law_395 (by decide) (fun _ => ?_) (fun c1 => absurd rfl c1)
  exact kk _ _ _ _ hI hH hl
set_option maxRecDepth 100000 in
set_option maxHeartbeats 4000000 in
theorem lw_case6 (hL : L ≤ 3072) (C0 : Cx E p m c code 4 s #[Value.ref b] RL meth (some .boolean)) (hX : va_X b L xs s s.heap) (hbl : b < s.heap.size) (hbA : ¬ eA E b) (hcl : cells ≤ room_1.cells ∧ slots ≤ room_1.slots) {n : Nat} (hn : n + 6 ≤ L) {σ : Mem} {H : Heap} {locs : List Loc} {ls : Array Slot} (hH : Hs E s σ H locs) (hl : lv_has ls 4 [(3, .int (nI n)), (0, .ref b), (1, .ref (ea E 0)), (2, .ref (ea E 251))]) (hOp : Op6 Inv σ) (kk : (∀ (σ : Mem) (H : Heap) (locs : List Loc) (ls : Array Slot), Inv σ → Hs E s σ H locs → lv_has ls 4 [(3, .int (nI n)), (0, .ref b), (1, .ref (ea E 0)), (2, .ref (ea E 251))] → W p l e room_1 s m #[Value.ref b] below meth c H locs cells slots Q (F0 m 1281 ls []))) : W p l e room_1 s m #[Value.ref b] below meth c H locs cells slots Q (F0 m 400 ls []) := by
  obtain ⟨⟨hx, hb, hml, hown, hts⟩, hr, hlocks, hF, hAd⟩ := id C0
  obtain ⟨r, q1, q2, hI⟩ := hOp
  refine lv_aload_n hx hb dL_law_400 rfl (lv_at hl 2 rfl) ?_
  refine go_iL hH (va_run_VL (As := []) (rest := []) C0 hH lk_L_41 (c_X11_fault hAd 0 kd_0 σ q1) ⟨Nat.le_of_ble_eq_true rfl, Nat.le_of_ble_eq_true rfl⟩ (ci := 11) kd_0 (by decide) (cob_11 _ _ _) rfl rfl hl.1 rfl (Nat.le_of_ble_eq_true rfl) dL_law_401 hcl) (fun H locs hH => ?_)
  refine lv_aload_n hx hb dL_law_404 rfl (lv_at hl 3 rfl) ?_
  refine go_iL hH (va_run_VL (As := []) (rest := [.int r]) C0 hH lk_L_44 (c_X12_fault hAd 251 kd_251 σ q2) ⟨Nat.le_of_ble_eq_true rfl, Nat.le_of_ble_eq_true rfl⟩ (ci := 12) kd_251 (by decide) (cob_12 _ _ _) rfl rfl hl.1 rfl (Nat.le_of_ble_eq_true rfl) dL_law_405 hcl) (fun H locs hH => ?_)
  refine lv_icmp_eq (tgt := 1281) hx hb dL_law_408 (by decide) (fun _ => ?_) (fun c1 => absurd rfl c1)
  exact kk _ _ _ _ hI hH hl
set_option maxRecDepth 100000 in
set_option maxHeartbeats 4000000 in
theorem lw_case7 (hL : L ≤ 3072) (C0 : Cx E p m c code 4 s #[Value.ref b] RL meth (some .boolean)) (hX : va_X b L xs s s.heap) (hbl : b < s.heap.size) (hbA : ¬ eA E b) (hcl : cells ≤ room_1.cells ∧ slots ≤ room_1.slots) {n : Nat} (hn : n + 6 ≤ L) {σ : Mem} {H : Heap} {locs : List Loc} {ls : Array Slot} (hH : Hs E s σ H locs) (hl : lv_has ls 4 [(3, .int (nI n)), (0, .ref b), (1, .ref (ea E 0)), (2, .ref (ea E 251))]) (hOp : Op7 Inv σ) (kk : (∀ (σ : Mem) (H : Heap) (locs : List Loc) (ls : Array Slot), Inv σ → Hs E s σ H locs → lv_has ls 4 [(3, .int (nI n)), (0, .ref b), (1, .ref (ea E 0)), (2, .ref (ea E 251))] → W p l e room_1 s m #[Value.ref b] below meth c H locs cells slots Q (F0 m 1281 ls []))) : W p l e room_1 s m #[Value.ref b] below meth c H locs cells slots Q (F0 m 413 ls []) := by
  obtain ⟨⟨hx, hb, hml, hown, hts⟩, hr, hlocks, hF, hAd⟩ := id C0
  obtain ⟨r, σ1, σ2, q1, q2, hI⟩ := hOp
  refine lv_aload_n hx hb dL_law_413 rfl (lv_at hl 2 rfl) ?_
  refine go_iL hH (va_run_VL (As := []) (rest := []) C0 hH lk_L_45 (c_X11_undo hAd 0 kd_0 σ q1) ⟨Nat.le_of_ble_eq_true rfl, Nat.le_of_ble_eq_true rfl⟩ (ci := 11) kd_0 (by decide) (cob_11 _ _ _) rfl rfl hl.1 rfl (Nat.le_of_ble_eq_true rfl) dL_law_414 hcl) (fun H locs hH => ?_)
  refine lv_aload_n hx hb dL_law_417 rfl (lv_at hl 3 rfl) ?_
  refine go_iL hH (va_run_VL (As := []) (rest := [.int r]) C0 hH lk_L_48 (c_X12_undo hAd 251 kd_251 σ1 q2) ⟨Nat.le_of_ble_eq_true rfl, Nat.le_of_ble_eq_true rfl⟩ (ci := 12) kd_251 (by decide) (cob_12 _ _ _) rfl rfl hl.1 rfl (Nat.le_of_ble_eq_true rfl) dL_law_418 hcl) (fun H locs hH => ?_)
  refine lv_icmp_eq (tgt := 1281) hx hb dL_law_421 (by decide) (fun _ => ?_) (fun c1 => absurd rfl c1)
  exact kk _ _ _ _ hI hH hl
set_option maxRecDepth 100000 in
set_option maxHeartbeats 4000000 in
theorem lw_case8 (hL : L ≤ 3072) (C0 : Cx E p m c code 4 s #[Value.ref b] RL meth (some .boolean)) (hX : va_X b L xs s s.heap) (hbl : b < s.heap.size) (hbA : ¬ eA E b) (hcl : cells ≤ room_1.cells ∧ slots ≤ room_1.slots) {n : Nat} (hn : n + 6 ≤ L) {σ : Mem} {H : Heap} {locs : List Loc} {ls : Array Slot} (hH : Hs E s σ H locs) (hl : lv_has ls 4 [(3, .int (nI n)), (0, .ref b), (1, .ref (ea E 0)), (2, .ref (ea E 251))]) (hOp : Op8 Inv σ) (kk : (∀ (σ : Mem) (H : Heap) (locs : List Loc) (ls : Array Slot), Inv σ → Hs E s σ H locs → lv_has ls 4 [(3, .int (nI n)), (0, .ref b), (1, .ref (ea E 0)), (2, .ref (ea E 251))] → W p l e room_1 s m #[Value.ref b] below meth c H locs cells slots Q (F0 m 1281 ls []))) : W p l e room_1 s m #[Value.ref b] below meth c H locs cells slots Q (F0 m 426 ls []) := by
  obtain ⟨⟨hx, hb, hml, hown, hts⟩, hr, hlocks, hF, hAd⟩ := id C0
  obtain ⟨r, σ1, σ2, q1, q2, hI⟩ := hOp (xs (nI n + 1).toNatClampNeg) (xs (nI n + 2).toNatClampNeg) (xs (nI n + 3).toNatClampNeg) (xs (nI n + 4).toNatClampNeg) (xs (nI n + 5).toNatClampNeg)
  refine lv_aload_n hx hb dL_law_426 rfl (lv_at hl 2 rfl) ?_
  refine lv_aload_n hx hb dL_law_427 rfl (lv_at hl 1 rfl) ?_
  refine lv_iload_n hx hb dL_law_428 rfl (lv_at hl 0 rfl) ?_
  refine lv_iconst (v := 1) hx hb dL_law_429 (by decide) ?_
  refine lv_iadd hx hb dL_law_430 ?_
  refine va_sld hx hb hX hbl hbA hH.2 (lw_in (j := 1) hn hL (by decide)) dL_law_431 ?_
  refine lv_aload_n hx hb dL_law_432 rfl (lv_at hl 1 rfl) ?_
  refine lv_iload_n hx hb dL_law_433 rfl (lv_at hl 0 rfl) ?_
  refine lv_iconst (v := 2) hx hb dL_law_434 (by decide) ?_
  refine lv_iadd hx hb dL_law_435 ?_
  refine va_sld hx hb hX hbl hbA hH.2 (lw_in (j := 2) hn hL (by decide)) dL_law_436 ?_
  refine lv_aload_n hx hb dL_law_437 rfl (lv_at hl 1 rfl) ?_
  refine lv_iload_n hx hb dL_law_438 rfl (lv_at hl 0 rfl) ?_
  refine lv_iconst (v := 3) hx hb dL_law_439 (by decide) ?_
  refine lv_iadd hx hb dL_law_440 ?_
  refine va_sld hx hb hX hbl hbA hH.2 (lw_in (j := 3) hn hL (by decide)) dL_law_441 ?_
  refine lv_aload_n hx hb dL_law_442 rfl (lv_at hl 1 rfl) ?_
  refine lv_iload_n hx hb dL_law_443 rfl (lv_at hl 0 rfl) ?_
  refine lv_iconst (v := 4) hx hb dL_law_444 (by decide) ?_
  refine lv_iadd hx hb dL_law_445 ?_
  refine va_sld hx hb hX hbl hbA hH.2 (lw_in (j := 4) hn hL (by decide)) dL_law_446 ?_
  refine lv_aload_n hx hb dL_law_447 rfl (lv_at hl 1 rfl) ?_
  refine lv_iload_n hx hb dL_law_448 rfl (lv_at hl 0 rfl) ?_
  refine lv_iconst (v := 5) hx hb dL_law_449 (by decide) ?_
  refine lv_iadd hx hb dL_law_450 ?_
  refine va_sld hx hb hX hbl hbA hH.2 (lw_in (j := 5) hn hL (by decide)) dL_law_451 ?_
  refine go_iL hH (va_run_VL (As := [.int (xs (nI n + 1).toNatClampNeg), .int (xs (nI n + 2).toNatClampNeg), .int (xs (nI n + 3).toNatClampNeg), .int (xs (nI n + 4).toNatClampNeg), .int (xs (nI n + 5).toNatClampNeg)]) (rest := []) C0 hH lk_L_49 (c_X11_put hAd 0 (xs (nI n + 1).toNatClampNeg) (xs (nI n + 2).toNatClampNeg) (xs (nI n + 3).toNatClampNeg) (xs (nI n + 4).toNatClampNeg) (xs (nI n + 5).toNatClampNeg) kd_0 σ q1) ⟨Nat.le_of_ble_eq_true rfl, Nat.le_of_ble_eq_true rfl⟩ (ci := 11) kd_0 (by decide) (cob_11 _ _ _) rfl rfl hl.1 rfl (Nat.le_of_ble_eq_true rfl) dL_law_452 hcl) (fun H locs hH => ?_)
  refine lv_aload_n hx hb dL_law_455 rfl (lv_at hl 3 rfl) ?_
  refine lv_aload_n hx hb dL_law_456 rfl (lv_at hl 1 rfl) ?_
  refine lv_iload_n hx hb dL_law_457 rfl (lv_at hl 0 rfl) ?_
  refine lv_iconst (v := 1) hx hb dL_law_458 (by decide) ?_
  refine lv_iadd hx hb dL_law_459 ?_
  refine va_sld hx hb hX hbl hbA hH.2 (lw_in (j := 1) hn hL (by decide)) dL_law_460 ?_
  refine lv_aload_n hx hb dL_law_461 rfl (lv_at hl 1 rfl) ?_
  refine lv_iload_n hx hb dL_law_462 rfl (lv_at hl 0 rfl) ?_
  refine lv_iconst (v := 2) hx hb dL_law_463 (by decide) ?_
  refine lv_iadd hx hb dL_law_464 ?_
  refine va_sld hx hb hX hbl hbA hH.2 (lw_in (j := 2) hn hL (by decide)) dL_law_465 ?_
  refine lv_aload_n hx hb dL_law_466 rfl (lv_at hl 1 rfl) ?_
  refine lv_iload_n hx hb dL_law_467 rfl (lv_at hl 0 rfl) ?_
  refine lv_iconst (v := 3) hx hb dL_law_468 (by decide) ?_
  refine lv_iadd hx hb dL_law_469 ?_
  refine va_sld hx hb hX hbl hbA hH.2 (lw_in (j := 3) hn hL (by decide)) dL_law_470 ?_
  refine lv_aload_n hx hb dL_law_471 rfl (lv_at hl 1 rfl) ?_
  refine lv_iload_n hx hb dL_law_472 rfl (lv_at hl 0 rfl) ?_
  refine lv_iconst (v := 4) hx hb dL_law_473 (by decide) ?_
  refine lv_iadd hx hb dL_law_474 ?_
  refine va_sld hx hb hX hbl hbA hH.2 (lw_in (j := 4) hn hL (by decide)) dL_law_475 ?_
  refine lv_aload_n hx hb dL_law_476 rfl (lv_at hl 1 rfl) ?_
  refine lv_iload_n hx hb dL_law_477 rfl (lv_at hl 0 rfl) ?_
  refine lv_iconst (v := 5) hx hb dL_law_478 (by decide) ?_
  refine lv_iadd hx hb dL_law_479 ?_
  refine va_sld hx hb hX hbl hbA hH.2 (lw_in (j := 5) hn hL (by decide)) dL_law_480 ?_
  refine go_iL hH (va_run_VL (As := [.int (xs (nI n + 1).toNatClampNeg), .int (xs (nI n + 2).toNatClampNeg), .int (xs (nI n + 3).toNatClampNeg), .int (xs (nI n + 4).toNatClampNeg), .int (xs (nI n + 5).toNatClampNeg)]) (rest := [.int r]) C0 hH lk_L_52 (c_X12_put hAd 251 (xs (nI n + 1).toNatClampNeg) (xs (nI n + 2).toNatClampNeg) (xs (nI n + 3).toNatClampNeg) (xs (nI n + 4).toNatClampNeg) (xs (nI n + 5).toNatClampNeg) kd_251 σ1 q2) ⟨Nat.le_of_ble_eq_true rfl, Nat.le_of_ble_eq_true rfl⟩ (ci := 12) kd_251 (by decide) (cob_12 _ _ _) rfl rfl hl.1 rfl (Nat.le_of_ble_eq_true rfl) dL_law_481 hcl) (fun H locs hH => ?_)
  refine lv_icmp_eq (tgt := 1281) hx hb dL_law_484 (by decide) (fun _ => ?_) (fun c1 => absurd rfl c1)
  exact kk _ _ _ _ hI hH hl
set_option maxRecDepth 100000 in
set_option maxHeartbeats 4000000 in
theorem lw_case9 (hL : L ≤ 3072) (C0 : Cx E p m c code 4 s #[Value.ref b] RL meth (some .boolean)) (hX : va_X b L xs s s.heap) (hbl : b < s.heap.size) (hbA : ¬ eA E b) (hcl : cells ≤ room_1.cells ∧ slots ≤ room_1.slots) {n : Nat} (hn : n + 6 ≤ L) {σ : Mem} {H : Heap} {locs : List Loc} {ls : Array Slot} (hH : Hs E s σ H locs) (hl : lv_has ls 4 [(3, .int (nI n)), (0, .ref b), (1, .ref (ea E 0)), (2, .ref (ea E 251))]) (hOp : Op9 Inv σ) (kk : (∀ (σ : Mem) (H : Heap) (locs : List Loc) (ls : Array Slot), Inv σ → Hs E s σ H locs → lv_has ls 4 [(3, .int (nI n)), (0, .ref b), (1, .ref (ea E 0)), (2, .ref (ea E 251))] → W p l e room_1 s m #[Value.ref b] below meth c H locs cells slots Q (F0 m 1281 ls []))) : W p l e room_1 s m #[Value.ref b] below meth c H locs cells slots Q (F0 m 489 ls []) := by
  obtain ⟨⟨hx, hb, hml, hown, hts⟩, hr, hlocks, hF, hAd⟩ := id C0
  obtain ⟨r, σ1, σ2, q1, q2, hI⟩ := hOp (xs (nI n + 1).toNatClampNeg)
  refine lv_aload_n hx hb dL_law_489 rfl (lv_at hl 2 rfl) ?_
  refine lv_aload_n hx hb dL_law_490 rfl (lv_at hl 1 rfl) ?_
  refine lv_iload_n hx hb dL_law_491 rfl (lv_at hl 0 rfl) ?_
  refine lv_iconst (v := 1) hx hb dL_law_492 (by decide) ?_
  refine lv_iadd hx hb dL_law_493 ?_
  refine va_sld hx hb hX hbl hbA hH.2 (lw_in (j := 1) hn hL (by decide)) dL_law_494 ?_
  refine go_iL hH (va_run_VL (As := [.int (xs (nI n + 1).toNatClampNeg)]) (rest := []) C0 hH lk_L_53 (c_X11_take hAd 0 (xs (nI n + 1).toNatClampNeg) kd_0 σ q1) ⟨Nat.le_of_ble_eq_true rfl, Nat.le_of_ble_eq_true rfl⟩ (ci := 11) kd_0 (by decide) (cob_11 _ _ _) rfl rfl hl.1 rfl (Nat.le_of_ble_eq_true rfl) dL_law_495 hcl) (fun H locs hH => ?_)
  refine lv_aload_n hx hb dL_law_498 rfl (lv_at hl 3 rfl) ?_
  refine lv_aload_n hx hb dL_law_499 rfl (lv_at hl 1 rfl) ?_
  refine lv_iload_n hx hb dL_law_500 rfl (lv_at hl 0 rfl) ?_
  refine lv_iconst (v := 1) hx hb dL_law_501 (by decide) ?_
  refine lv_iadd hx hb dL_law_502 ?_
  refine va_sld hx hb hX hbl hbA hH.2 (lw_in (j := 1) hn hL (by decide)) dL_law_503 ?_
  refine go_iL hH (va_run_VL (As := [.int (xs (nI n + 1).toNatClampNeg)]) (rest := [.int r]) C0 hH lk_L_56 (c_X12_take hAd 251 (xs (nI n + 1).toNatClampNeg) kd_251 σ1 q2) ⟨Nat.le_of_ble_eq_true rfl, Nat.le_of_ble_eq_true rfl⟩ (ci := 12) kd_251 (by decide) (cob_12 _ _ _) rfl rfl hl.1 rfl (Nat.le_of_ble_eq_true rfl) dL_law_504 hcl) (fun H locs hH => ?_)
  refine lv_icmp_eq (tgt := 1281) hx hb dL_law_507 (by decide) (fun _ => ?_) (fun c1 => absurd rfl c1)
  exact kk _ _ _ _ hI hH hl
set_option maxRecDepth 100000 in
set_option maxHeartbeats 4000000 in
theorem lw_case10 (hL : L ≤ 3072) (C0 : Cx E p m c code 4 s #[Value.ref b] RL meth (some .boolean)) (hX : va_X b L xs s s.heap) (hbl : b < s.heap.size) (hbA : ¬ eA E b) (hcl : cells ≤ room_1.cells ∧ slots ≤ room_1.slots) {n : Nat} (hn : n + 6 ≤ L) {σ : Mem} {H : Heap} {locs : List Loc} {ls : Array Slot} (hH : Hs E s σ H locs) (hl : lv_has ls 4 [(3, .int (nI n)), (0, .ref b), (1, .ref (ea E 0)), (2, .ref (ea E 251))]) (hOp : Op10 Inv σ) (kk : (∀ (σ : Mem) (H : Heap) (locs : List Loc) (ls : Array Slot), Inv σ → Hs E s σ H locs → lv_has ls 4 [(3, .int (nI n)), (0, .ref b), (1, .ref (ea E 0)), (2, .ref (ea E 251))] → W p l e room_1 s m #[Value.ref b] below meth c H locs cells slots Q (F0 m 1281 ls []))) : W p l e room_1 s m #[Value.ref b] below meth c H locs cells slots Q (F0 m 512 ls []) := by
  obtain ⟨⟨hx, hb, hml, hown, hts⟩, hr, hlocks, hF, hAd⟩ := id C0
  obtain ⟨r, σ1, σ2, q1, q2, hI⟩ := hOp (xs (nI n + 1).toNatClampNeg) (xs (nI n + 2).toNatClampNeg)
  refine lv_aload_n hx hb dL_law_512 rfl (lv_at hl 2 rfl) ?_
  refine lv_aload_n hx hb dL_law_513 rfl (lv_at hl 1 rfl) ?_
  refine lv_iload_n hx hb dL_law_514 rfl (lv_at hl 0 rfl) ?_
  refine lv_iconst (v := 1) hx hb dL_law_515 (by decide) ?_
  refine lv_iadd hx hb dL_law_516 ?_
  refine va_sld hx hb hX hbl hbA hH.2 (lw_in (j := 1) hn hL (by decide)) dL_law_517 ?_
  refine lv_aload_n hx hb dL_law_518 rfl (lv_at hl 1 rfl) ?_
  refine lv_iload_n hx hb dL_law_519 rfl (lv_at hl 0 rfl) ?_
  refine lv_iconst (v := 2) hx hb dL_law_520 (by decide) ?_
  refine lv_iadd hx hb dL_law_521 ?_
  refine va_sld hx hb hX hbl hbA hH.2 (lw_in (j := 2) hn hL (by decide)) dL_law_522 ?_
  refine go_iL hH (va_run_VL (As := [.int (xs (nI n + 1).toNatClampNeg), .int (xs (nI n + 2).toNatClampNeg)]) (rest := []) C0 hH lk_L_57 (c_X11_move hAd 0 (xs (nI n + 1).toNatClampNeg) (xs (nI n + 2).toNatClampNeg) kd_0 σ q1) ⟨Nat.le_of_ble_eq_true rfl, Nat.le_of_ble_eq_true rfl⟩ (ci := 11) kd_0 (by decide) (cob_11 _ _ _) rfl rfl hl.1 rfl (Nat.le_of_ble_eq_true rfl) dL_law_523 hcl) (fun H locs hH => ?_)
  refine lv_aload_n hx hb dL_law_526 rfl (lv_at hl 3 rfl) ?_
  refine lv_aload_n hx hb dL_law_527 rfl (lv_at hl 1 rfl) ?_
  refine lv_iload_n hx hb dL_law_528 rfl (lv_at hl 0 rfl) ?_
  refine lv_iconst (v := 1) hx hb dL_law_529 (by decide) ?_
  refine lv_iadd hx hb dL_law_530 ?_
  refine va_sld hx hb hX hbl hbA hH.2 (lw_in (j := 1) hn hL (by decide)) dL_law_531 ?_
  refine lv_aload_n hx hb dL_law_532 rfl (lv_at hl 1 rfl) ?_
  refine lv_iload_n hx hb dL_law_533 rfl (lv_at hl 0 rfl) ?_
  refine lv_iconst (v := 2) hx hb dL_law_534 (by decide) ?_
  refine lv_iadd hx hb dL_law_535 ?_
  refine va_sld hx hb hX hbl hbA hH.2 (lw_in (j := 2) hn hL (by decide)) dL_law_536 ?_
  refine go_iL hH (va_run_VL (As := [.int (xs (nI n + 1).toNatClampNeg), .int (xs (nI n + 2).toNatClampNeg)]) (rest := [.int r]) C0 hH lk_L_61 (c_X12_move hAd 251 (xs (nI n + 1).toNatClampNeg) (xs (nI n + 2).toNatClampNeg) kd_251 σ1 q2) ⟨Nat.le_of_ble_eq_true rfl, Nat.le_of_ble_eq_true rfl⟩ (ci := 12) kd_251 (by decide) (cob_12 _ _ _) rfl rfl hl.1 rfl (Nat.le_of_ble_eq_true rfl) dL_law_537 hcl) (fun H locs hH => ?_)
  refine lv_icmp_eq (tgt := 1281) hx hb dL_law_540 (by decide) (fun _ => ?_) (fun c1 => absurd rfl c1)
  exact kk _ _ _ _ hI hH hl
set_option maxRecDepth 100000 in
set_option maxHeartbeats 4000000 in
theorem lw_case11 (hL : L ≤ 3072) (C0 : Cx E p m c code 4 s #[Value.ref b] RL meth (some .boolean)) (hX : va_X b L xs s s.heap) (hbl : b < s.heap.size) (hbA : ¬ eA E b) (hcl : cells ≤ room_1.cells ∧ slots ≤ room_1.slots) {n : Nat} (hn : n + 6 ≤ L) {σ : Mem} {H : Heap} {locs : List Loc} {ls : Array Slot} (hH : Hs E s σ H locs) (hl : lv_has ls 4 [(3, .int (nI n)), (0, .ref b), (1, .ref (ea E 0)), (2, .ref (ea E 251))]) (hOp : Op11 Inv σ) (kk : (∀ (σ : Mem) (H : Heap) (locs : List Loc) (ls : Array Slot), Inv σ → Hs E s σ H locs → lv_has ls 4 [(3, .int (nI n)), (0, .ref b), (1, .ref (ea E 0)), (2, .ref (ea E 251))] → W p l e room_1 s m #[Value.ref b] below meth c H locs cells slots Q (F0 m 1281 ls []))) : W p l e room_1 s m #[Value.ref b] below meth c H locs cells slots Q (F0 m 545 ls []) := by
  obtain ⟨⟨hx, hb, hml, hown, hts⟩, hr, hlocks, hF, hAd⟩ := id C0
  obtain ⟨r, σ1, σ2, q1, q2, hI⟩ := hOp (xs (nI n + 1).toNatClampNeg) (xs (nI n + 2).toNatClampNeg) (xs (nI n + 3).toNatClampNeg)
  refine lv_aload_n hx hb dL_law_545 rfl (lv_at hl 2 rfl) ?_
  refine lv_aload_n hx hb dL_law_546 rfl (lv_at hl 1 rfl) ?_
  refine lv_iload_n hx hb dL_law_547 rfl (lv_at hl 0 rfl) ?_
  refine lv_iconst (v := 1) hx hb dL_law_548 (by decide) ?_
  refine lv_iadd hx hb dL_law_549 ?_
  refine va_sld hx hb hX hbl hbA hH.2 (lw_in (j := 1) hn hL (by decide)) dL_law_550 ?_
  refine lv_aload_n hx hb dL_law_551 rfl (lv_at hl 1 rfl) ?_
  refine lv_iload_n hx hb dL_law_552 rfl (lv_at hl 0 rfl) ?_
  refine lv_iconst (v := 2) hx hb dL_law_553 (by decide) ?_
  refine lv_iadd hx hb dL_law_554 ?_
  refine va_sld hx hb hX hbl hbA hH.2 (lw_in (j := 2) hn hL (by decide)) dL_law_555 ?_
  refine lv_aload_n hx hb dL_law_556 rfl (lv_at hl 1 rfl) ?_
  refine lv_iload_n hx hb dL_law_557 rfl (lv_at hl 0 rfl) ?_
  refine lv_iconst (v := 3) hx hb dL_law_558 (by decide) ?_
  refine lv_iadd hx hb dL_law_559 ?_
  refine va_sld hx hb hX hbl hbA hH.2 (lw_in (j := 3) hn hL (by decide)) dL_law_560 ?_
  refine go_iL hH (va_run_VL (As := [.int (xs (nI n + 1).toNatClampNeg), .int (xs (nI n + 2).toNatClampNeg), .int (xs (nI n + 3).toNatClampNeg)]) (rest := []) C0 hH lk_L_62 (c_X11_measure hAd 0 (xs (nI n + 1).toNatClampNeg) (xs (nI n + 2).toNatClampNeg) (xs (nI n + 3).toNatClampNeg) kd_0 σ q1) ⟨Nat.le_of_ble_eq_true rfl, Nat.le_of_ble_eq_true rfl⟩ (ci := 11) kd_0 (by decide) (cob_11 _ _ _) rfl rfl hl.1 rfl (Nat.le_of_ble_eq_true rfl) dL_law_561 hcl) (fun H locs hH => ?_)
  refine lv_aload_n hx hb dL_law_564 rfl (lv_at hl 3 rfl) ?_
  refine lv_aload_n hx hb dL_law_565 rfl (lv_at hl 1 rfl) ?_
  refine lv_iload_n hx hb dL_law_566 rfl (lv_at hl 0 rfl) ?_
  refine lv_iconst (v := 1) hx hb dL_law_567 (by decide) ?_
  refine lv_iadd hx hb dL_law_568 ?_
  refine va_sld hx hb hX hbl hbA hH.2 (lw_in (j := 1) hn hL (by decide)) dL_law_569 ?_
  refine lv_aload_n hx hb dL_law_570 rfl (lv_at hl 1 rfl) ?_
  refine lv_iload_n hx hb dL_law_571 rfl (lv_at hl 0 rfl) ?_
  refine lv_iconst (v := 2) hx hb dL_law_572 (by decide) ?_
  refine lv_iadd hx hb dL_law_573 ?_
  refine va_sld hx hb hX hbl hbA hH.2 (lw_in (j := 2) hn hL (by decide)) dL_law_574 ?_
  refine lv_aload_n hx hb dL_law_575 rfl (lv_at hl 1 rfl) ?_
  refine lv_iload_n hx hb dL_law_576 rfl (lv_at hl 0 rfl) ?_
  refine lv_iconst (v := 3) hx hb dL_law_577 (by decide) ?_
  refine lv_iadd hx hb dL_law_578 ?_
  refine va_sld hx hb hX hbl hbA hH.2 (lw_in (j := 3) hn hL (by decide)) dL_law_579 ?_
  refine go_iL hH (va_run_VL (As := [.int (xs (nI n + 1).toNatClampNeg), .int (xs (nI n + 2).toNatClampNeg), .int (xs (nI n + 3).toNatClampNeg)]) (rest := [.int r]) C0 hH lk_L_65 (c_X12_measure hAd 251 (xs (nI n + 1).toNatClampNeg) (xs (nI n + 2).toNatClampNeg) (xs (nI n + 3).toNatClampNeg) kd_251 σ1 q2) ⟨Nat.le_of_ble_eq_true rfl, Nat.le_of_ble_eq_true rfl⟩ (ci := 12) kd_251 (by decide) (cob_12 _ _ _) rfl rfl hl.1 rfl (Nat.le_of_ble_eq_true rfl) dL_law_580 hcl) (fun H locs hH => ?_)
  refine lv_icmp_eq (tgt := 1281) hx hb dL_law_583 (by decide) (fun _ => ?_) (fun c1 => absurd rfl c1)
  exact kk _ _ _ _ hI hH hl
set_option maxRecDepth 100000 in
set_option maxHeartbeats 4000000 in
theorem lw_case12 (hL : L ≤ 3072) (C0 : Cx E p m c code 4 s #[Value.ref b] RL meth (some .boolean)) (hX : va_X b L xs s s.heap) (hbl : b < s.heap.size) (hbA : ¬ eA E b) (hcl : cells ≤ room_1.cells ∧ slots ≤ room_1.slots) {n : Nat} (hn : n + 6 ≤ L) {σ : Mem} {H : Heap} {locs : List Loc} {ls : Array Slot} (hH : Hs E s σ H locs) (hl : lv_has ls 4 [(3, .int (nI n)), (0, .ref b), (1, .ref (ea E 0)), (2, .ref (ea E 251))]) (hOp : Op12 Inv σ) (kk : (∀ (σ : Mem) (H : Heap) (locs : List Loc) (ls : Array Slot), Inv σ → Hs E s σ H locs → lv_has ls 4 [(3, .int (nI n)), (0, .ref b), (1, .ref (ea E 0)), (2, .ref (ea E 251))] → W p l e room_1 s m #[Value.ref b] below meth c H locs cells slots Q (F0 m 1281 ls []))) : W p l e room_1 s m #[Value.ref b] below meth c H locs cells slots Q (F0 m 588 ls []) := by
  obtain ⟨⟨hx, hb, hml, hown, hts⟩, hr, hlocks, hF, hAd⟩ := id C0
  obtain ⟨r, σ1, σ2, q1, q2, hI⟩ := hOp (xs (nI n + 1).toNatClampNeg) (xs (nI n + 2).toNatClampNeg)
  refine lv_aload_n hx hb dL_law_588 rfl (lv_at hl 2 rfl) ?_
  refine lv_aload_n hx hb dL_law_589 rfl (lv_at hl 1 rfl) ?_
  refine lv_iload_n hx hb dL_law_590 rfl (lv_at hl 0 rfl) ?_
  refine lv_iconst (v := 1) hx hb dL_law_591 (by decide) ?_
  refine lv_iadd hx hb dL_law_592 ?_
  refine va_sld hx hb hX hbl hbA hH.2 (lw_in (j := 1) hn hL (by decide)) dL_law_593 ?_
  refine lv_aload_n hx hb dL_law_594 rfl (lv_at hl 1 rfl) ?_
  refine lv_iload_n hx hb dL_law_595 rfl (lv_at hl 0 rfl) ?_
  refine lv_iconst (v := 2) hx hb dL_law_596 (by decide) ?_
  refine lv_iadd hx hb dL_law_597 ?_
  refine va_sld hx hb hX hbl hbA hH.2 (lw_in (j := 2) hn hL (by decide)) dL_law_598 ?_
  refine go_iL hH (va_run_VL (As := [.int (xs (nI n + 1).toNatClampNeg), .int (xs (nI n + 2).toNatClampNeg)]) (rest := []) C0 hH lk_L_66 (c_X11_become hAd 0 (xs (nI n + 1).toNatClampNeg) (xs (nI n + 2).toNatClampNeg) kd_0 σ q1) ⟨Nat.le_of_ble_eq_true rfl, Nat.le_of_ble_eq_true rfl⟩ (ci := 11) kd_0 (by decide) (cob_11 _ _ _) rfl rfl hl.1 rfl (Nat.le_of_ble_eq_true rfl) dL_law_599 hcl) (fun H locs hH => ?_)
  refine lv_aload_n hx hb dL_law_602 rfl (lv_at hl 3 rfl) ?_
  refine lv_aload_n hx hb dL_law_603 rfl (lv_at hl 1 rfl) ?_
  refine lv_iload_n hx hb dL_law_604 rfl (lv_at hl 0 rfl) ?_
  refine lv_iconst (v := 1) hx hb dL_law_605 (by decide) ?_
  refine lv_iadd hx hb dL_law_606 ?_
  refine va_sld hx hb hX hbl hbA hH.2 (lw_in (j := 1) hn hL (by decide)) dL_law_607 ?_
  refine lv_aload_n hx hb dL_law_608 rfl (lv_at hl 1 rfl) ?_
  refine lv_iload_n hx hb dL_law_609 rfl (lv_at hl 0 rfl) ?_
  refine lv_iconst (v := 2) hx hb dL_law_610 (by decide) ?_
  refine lv_iadd hx hb dL_law_611 ?_
  refine va_sld hx hb hX hbl hbA hH.2 (lw_in (j := 2) hn hL (by decide)) dL_law_612 ?_
  refine go_iL hH (va_run_VL (As := [.int (xs (nI n + 1).toNatClampNeg), .int (xs (nI n + 2).toNatClampNeg)]) (rest := [.int r]) C0 hH lk_L_69 (c_X12_become hAd 251 (xs (nI n + 1).toNatClampNeg) (xs (nI n + 2).toNatClampNeg) kd_251 σ1 q2) ⟨Nat.le_of_ble_eq_true rfl, Nat.le_of_ble_eq_true rfl⟩ (ci := 12) kd_251 (by decide) (cob_12 _ _ _) rfl rfl hl.1 rfl (Nat.le_of_ble_eq_true rfl) dL_law_613 hcl) (fun H locs hH => ?_)
  refine lv_icmp_eq (tgt := 1281) hx hb dL_law_616 (by decide) (fun _ => ?_) (fun c1 => absurd rfl c1)
  exact kk _ _ _ _ hI hH hl
set_option maxRecDepth 100000 in
set_option maxHeartbeats 4000000 in
theorem lw_case13 (hL : L ≤ 3072) (C0 : Cx E p m c code 4 s #[Value.ref b] RL meth (some .boolean)) (hX : va_X b L xs s s.heap) (hbl : b < s.heap.size) (hbA : ¬ eA E b) (hcl : cells ≤ room_1.cells ∧ slots ≤ room_1.slots) {n : Nat} (hn : n + 6 ≤ L) {σ : Mem} {H : Heap} {locs : List Loc} {ls : Array Slot} (hH : Hs E s σ H locs) (hl : lv_has ls 4 [(3, .int (nI n)), (0, .ref b), (1, .ref (ea E 0)), (2, .ref (ea E 251))]) (hOp : Op13 Inv σ) (kk : (∀ (σ : Mem) (H : Heap) (locs : List Loc) (ls : Array Slot), Inv σ → Hs E s σ H locs → lv_has ls 4 [(3, .int (nI n)), (0, .ref b), (1, .ref (ea E 0)), (2, .ref (ea E 251))] → W p l e room_1 s m #[Value.ref b] below meth c H locs cells slots Q (F0 m 1281 ls []))) : W p l e room_1 s m #[Value.ref b] below meth c H locs cells slots Q (F0 m 621 ls []) := by
  obtain ⟨⟨hx, hb, hml, hown, hts⟩, hr, hlocks, hF, hAd⟩ := id C0
  obtain ⟨r, σ1, σ2, q1, q2, hI⟩ := hOp (xs (nI n + 1).toNatClampNeg) (xs (nI n + 2).toNatClampNeg)
  refine lv_aload_n hx hb dL_law_621 rfl (lv_at hl 2 rfl) ?_
  refine lv_aload_n hx hb dL_law_622 rfl (lv_at hl 1 rfl) ?_
  refine lv_iload_n hx hb dL_law_623 rfl (lv_at hl 0 rfl) ?_
  refine lv_iconst (v := 1) hx hb dL_law_624 (by decide) ?_
  refine lv_iadd hx hb dL_law_625 ?_
  refine va_sld hx hb hX hbl hbA hH.2 (lw_in (j := 1) hn hL (by decide)) dL_law_626 ?_
  refine lv_aload_n hx hb dL_law_627 rfl (lv_at hl 1 rfl) ?_
  refine lv_iload_n hx hb dL_law_628 rfl (lv_at hl 0 rfl) ?_
  refine lv_iconst (v := 2) hx hb dL_law_629 (by decide) ?_
  refine lv_iadd hx hb dL_law_630 ?_
  refine va_sld hx hb hX hbl hbA hH.2 (lw_in (j := 2) hn hL (by decide)) dL_law_631 ?_
  refine go_iL hH (va_run_VL (As := [.int (xs (nI n + 1).toNatClampNeg), .int (xs (nI n + 2).toNatClampNeg)]) (rest := []) C0 hH lk_L_70 (c_X11_law hAd 0 (xs (nI n + 1).toNatClampNeg) (xs (nI n + 2).toNatClampNeg) kd_0 σ q1) ⟨Nat.le_of_ble_eq_true rfl, Nat.le_of_ble_eq_true rfl⟩ (ci := 11) kd_0 (by decide) (cob_11 _ _ _) rfl rfl hl.1 rfl (Nat.le_of_ble_eq_true rfl) dL_law_632 hcl) (fun H locs hH => ?_)
  refine lv_aload_n hx hb dL_law_635 rfl (lv_at hl 3 rfl) ?_
  refine lv_aload_n hx hb dL_law_636 rfl (lv_at hl 1 rfl) ?_
  refine lv_iload_n hx hb dL_law_637 rfl (lv_at hl 0 rfl) ?_
  refine lv_iconst (v := 1) hx hb dL_law_638 (by decide) ?_
  refine lv_iadd hx hb dL_law_639 ?_
  refine va_sld hx hb hX hbl hbA hH.2 (lw_in (j := 1) hn hL (by decide)) dL_law_640 ?_
  refine lv_aload_n hx hb dL_law_641 rfl (lv_at hl 1 rfl) ?_
  refine lv_iload_n hx hb dL_law_642 rfl (lv_at hl 0 rfl) ?_
  refine lv_iconst (v := 2) hx hb dL_law_643 (by decide) ?_
  refine lv_iadd hx hb dL_law_644 ?_
  refine va_sld hx hb hX hbl hbA hH.2 (lw_in (j := 2) hn hL (by decide)) dL_law_645 ?_
  refine go_iL hH (va_run_VL (As := [.int (xs (nI n + 1).toNatClampNeg), .int (xs (nI n + 2).toNatClampNeg)]) (rest := [.int r]) C0 hH lk_L_73 (c_X12_law hAd 251 (xs (nI n + 1).toNatClampNeg) (xs (nI n + 2).toNatClampNeg) kd_251 σ1 q2) ⟨Nat.le_of_ble_eq_true rfl, Nat.le_of_ble_eq_true rfl⟩ (ci := 12) kd_251 (by decide) (cob_12 _ _ _) rfl rfl hl.1 rfl (Nat.le_of_ble_eq_true rfl) dL_law_646 hcl) (fun H locs hH => ?_)
  refine lv_icmp_eq (tgt := 1281) hx hb dL_law_649 (by decide) (fun _ => ?_) (fun c1 => absurd rfl c1)
  exact kk _ _ _ _ hI hH hl
set_option maxRecDepth 100000 in
set_option maxHeartbeats 4000000 in
theorem lw_case14 (hL : L ≤ 3072) (C0 : Cx E p m c code 4 s #[Value.ref b] RL meth (some .boolean)) (hX : va_X b L xs s s.heap) (hbl : b < s.heap.size) (hbA : ¬ eA E b) (hcl : cells ≤ room_1.cells ∧ slots ≤ room_1.slots) {n : Nat} (hn : n + 6 ≤ L) {σ : Mem} {H : Heap} {locs : List Loc} {ls : Array Slot} (hH : Hs E s σ H locs) (hl : lv_has ls 4 [(3, .int (nI n)), (0, .ref b), (1, .ref (ea E 0)), (2, .ref (ea E 251))]) (hOp : Op14 Inv σ) (kk : (∀ (σ : Mem) (H : Heap) (locs : List Loc) (ls : Array Slot), Inv σ → Hs E s σ H locs → lv_has ls 4 [(3, .int (nI n)), (0, .ref b), (1, .ref (ea E 0)), (2, .ref (ea E 251))] → W p l e room_1 s m #[Value.ref b] below meth c H locs cells slots Q (F0 m 1281 ls []))) : W p l e room_1 s m #[Value.ref b] below meth c H locs cells slots Q (F0 m 654 ls []) := by
  obtain ⟨⟨hx, hb, hml, hown, hts⟩, hr, hlocks, hF, hAd⟩ := id C0
  obtain ⟨r, σ1, σ2, q1, q2, hI⟩ := hOp (xs (nI n + 1).toNatClampNeg) (xs (nI n + 2).toNatClampNeg)
  refine lv_aload_n hx hb dL_law_654 rfl (lv_at hl 2 rfl) ?_
  refine lv_aload_n hx hb dL_law_655 rfl (lv_at hl 1 rfl) ?_
  refine lv_iload_n hx hb dL_law_656 rfl (lv_at hl 0 rfl) ?_
  refine lv_iconst (v := 1) hx hb dL_law_657 (by decide) ?_
  refine lv_iadd hx hb dL_law_658 ?_
  refine va_sld hx hb hX hbl hbA hH.2 (lw_in (j := 1) hn hL (by decide)) dL_law_659 ?_
  refine lv_aload_n hx hb dL_law_660 rfl (lv_at hl 1 rfl) ?_
  refine lv_iload_n hx hb dL_law_661 rfl (lv_at hl 0 rfl) ?_
  refine lv_iconst (v := 2) hx hb dL_law_662 (by decide) ?_
  refine lv_iadd hx hb dL_law_663 ?_
  refine va_sld hx hb hX hbl hbA hH.2 (lw_in (j := 2) hn hL (by decide)) dL_law_664 ?_
  refine go_iL hH (va_run_VL (As := [.int (xs (nI n + 1).toNatClampNeg), .int (xs (nI n + 2).toNatClampNeg)]) (rest := []) C0 hH lk_L_74 (c_X11_page hAd 0 (xs (nI n + 1).toNatClampNeg) (xs (nI n + 2).toNatClampNeg) kd_0 σ q1) ⟨Nat.le_of_ble_eq_true rfl, Nat.le_of_ble_eq_true rfl⟩ (ci := 11) kd_0 (by decide) (cob_11 _ _ _) rfl rfl hl.1 rfl (Nat.le_of_ble_eq_true rfl) dL_law_665 hcl) (fun H locs hH => ?_)
  refine lv_aload_n hx hb dL_law_668 rfl (lv_at hl 3 rfl) ?_
  refine lv_aload_n hx hb dL_law_669 rfl (lv_at hl 1 rfl) ?_
  refine lv_iload_n hx hb dL_law_670 rfl (lv_at hl 0 rfl) ?_
  refine lv_iconst (v := 1) hx hb dL_law_671 (by decide) ?_
  refine lv_iadd hx hb dL_law_672 ?_
  refine va_sld hx hb hX hbl hbA hH.2 (lw_in (j := 1) hn hL (by decide)) dL_law_673 ?_
  refine lv_aload_n hx hb dL_law_674 rfl (lv_at hl 1 rfl) ?_
  refine lv_iload_n hx hb dL_law_675 rfl (lv_at hl 0 rfl) ?_
  refine lv_iconst (v := 2) hx hb dL_law_676 (by decide) ?_
  refine lv_iadd hx hb dL_law_677 ?_
  refine va_sld hx hb hX hbl hbA hH.2 (lw_in (j := 2) hn hL (by decide)) dL_law_678 ?_
  refine go_iL hH (va_run_VL (As := [.int (xs (nI n + 1).toNatClampNeg), .int (xs (nI n + 2).toNatClampNeg)]) (rest := [.int r]) C0 hH lk_L_77 (c_X12_page hAd 251 (xs (nI n + 1).toNatClampNeg) (xs (nI n + 2).toNatClampNeg) kd_251 σ1 q2) ⟨Nat.le_of_ble_eq_true rfl, Nat.le_of_ble_eq_true rfl⟩ (ci := 12) kd_251 (by decide) (cob_12 _ _ _) rfl rfl hl.1 rfl (Nat.le_of_ble_eq_true rfl) dL_law_679 hcl) (fun H locs hH => ?_)
  refine lv_icmp_eq (tgt := 1281) hx hb dL_law_682 (by decide) (fun _ => ?_) (fun c1 => absurd rfl c1)
  exact kk _ _ _ _ hI hH hl
set_option maxRecDepth 100000 in
set_option maxHeartbeats 4000000 in
theorem lw_case15 (hL : L ≤ 3072) (C0 : Cx E p m c code 4 s #[Value.ref b] RL meth (some .boolean)) (hX : va_X b L xs s s.heap) (hbl : b < s.heap.size) (hbA : ¬ eA E b) (hcl : cells ≤ room_1.cells ∧ slots ≤ room_1.slots) {n : Nat} (hn : n + 6 ≤ L) {σ : Mem} {H : Heap} {locs : List Loc} {ls : Array Slot} (hH : Hs E s σ H locs) (hl : lv_has ls 4 [(3, .int (nI n)), (0, .ref b), (1, .ref (ea E 0)), (2, .ref (ea E 251))]) (hOp : Op15 Inv σ) (kk : (∀ (σ : Mem) (H : Heap) (locs : List Loc) (ls : Array Slot), Inv σ → Hs E s σ H locs → lv_has ls 4 [(3, .int (nI n)), (0, .ref b), (1, .ref (ea E 0)), (2, .ref (ea E 251))] → W p l e room_1 s m #[Value.ref b] below meth c H locs cells slots Q (F0 m 1281 ls []))) : W p l e room_1 s m #[Value.ref b] below meth c H locs cells slots Q (F0 m 687 ls []) := by
  obtain ⟨⟨hx, hb, hml, hown, hts⟩, hr, hlocks, hF, hAd⟩ := id C0
  obtain ⟨r, σ1, q1, q2, hI⟩ := hOp (xs (nI n + 1).toNatClampNeg) (xs (nI n + 2).toNatClampNeg)
  refine lv_aload_n hx hb dL_law_687 rfl (lv_at hl 2 rfl) ?_
  refine lv_aload_n hx hb dL_law_688 rfl (lv_at hl 1 rfl) ?_
  refine lv_iload_n hx hb dL_law_689 rfl (lv_at hl 0 rfl) ?_
  refine lv_iconst (v := 1) hx hb dL_law_690 (by decide) ?_
  refine lv_iadd hx hb dL_law_691 ?_
  refine va_sld hx hb hX hbl hbA hH.2 (lw_in (j := 1) hn hL (by decide)) dL_law_692 ?_
  refine lv_aload_n hx hb dL_law_693 rfl (lv_at hl 1 rfl) ?_
  refine lv_iload_n hx hb dL_law_694 rfl (lv_at hl 0 rfl) ?_
  refine lv_iconst (v := 2) hx hb dL_law_695 (by decide) ?_
  refine lv_iadd hx hb dL_law_696 ?_
  refine va_sld hx hb hX hbl hbA hH.2 (lw_in (j := 2) hn hL (by decide)) dL_law_697 ?_
  refine go_iL hH (va_run_VL (As := [.int (xs (nI n + 1).toNatClampNeg), .int (xs (nI n + 2).toNatClampNeg)]) (rest := []) C0 hH lk_L_78 (c_X11_apart hAd 0 (xs (nI n + 1).toNatClampNeg) (xs (nI n + 2).toNatClampNeg) kd_0 σ q1) ⟨Nat.le_of_ble_eq_true rfl, Nat.le_of_ble_eq_true rfl⟩ (ci := 11) kd_0 (by decide) (cob_11 _ _ _) rfl rfl hl.1 rfl (Nat.le_of_ble_eq_true rfl) dL_law_698 hcl) (fun H locs hH => ?_)
  refine lv_aload_n hx hb dL_law_701 rfl (lv_at hl 3 rfl) ?_
  refine lv_aload_n hx hb dL_law_702 rfl (lv_at hl 1 rfl) ?_
  refine lv_iload_n hx hb dL_law_703 rfl (lv_at hl 0 rfl) ?_
  refine lv_iconst (v := 1) hx hb dL_law_704 (by decide) ?_
  refine lv_iadd hx hb dL_law_705 ?_
  refine va_sld hx hb hX hbl hbA hH.2 (lw_in (j := 1) hn hL (by decide)) dL_law_706 ?_
  refine lv_aload_n hx hb dL_law_707 rfl (lv_at hl 1 rfl) ?_
  refine lv_iload_n hx hb dL_law_708 rfl (lv_at hl 0 rfl) ?_
  refine lv_iconst (v := 2) hx hb dL_law_709 (by decide) ?_
  refine lv_iadd hx hb dL_law_710 ?_
  refine va_sld hx hb hX hbl hbA hH.2 (lw_in (j := 2) hn hL (by decide)) dL_law_711 ?_
  refine go_iL hH (va_run_VL (As := [.int (xs (nI n + 1).toNatClampNeg), .int (xs (nI n + 2).toNatClampNeg)]) (rest := [.int r]) C0 hH lk_L_81 (c_X12_apart hAd 251 (xs (nI n + 1).toNatClampNeg) (xs (nI n + 2).toNatClampNeg) kd_251 σ1 q2) ⟨Nat.le_of_ble_eq_true rfl, Nat.le_of_ble_eq_true rfl⟩ (ci := 12) kd_251 (by decide) (cob_12 _ _ _) rfl rfl hl.1 rfl (Nat.le_of_ble_eq_true rfl) dL_law_712 hcl) (fun H locs hH => ?_)
  refine lv_icmp_eq (tgt := 1281) hx hb dL_law_715 (by decide) (fun _ => ?_) (fun c1 => absurd rfl c1)
  exact kk _ _ _ _ hI hH hl
set_option maxRecDepth 100000 in
set_option maxHeartbeats 4000000 in
theorem lw_case16 (hL : L ≤ 3072) (C0 : Cx E p m c code 4 s #[Value.ref b] RL meth (some .boolean)) (hX : va_X b L xs s s.heap) (hbl : b < s.heap.size) (hbA : ¬ eA E b) (hcl : cells ≤ room_1.cells ∧ slots ≤ room_1.slots) {n : Nat} (hn : n + 6 ≤ L) {σ : Mem} {H : Heap} {locs : List Loc} {ls : Array Slot} (hH : Hs E s σ H locs) (hl : lv_has ls 4 [(3, .int (nI n)), (0, .ref b), (1, .ref (ea E 0)), (2, .ref (ea E 251))]) (hOp : Op16 Inv σ) (kk : (∀ (σ : Mem) (H : Heap) (locs : List Loc) (ls : Array Slot), Inv σ → Hs E s σ H locs → lv_has ls 4 [(3, .int (nI n)), (0, .ref b), (1, .ref (ea E 0)), (2, .ref (ea E 251))] → W p l e room_1 s m #[Value.ref b] below meth c H locs cells slots Q (F0 m 1281 ls []))) : W p l e room_1 s m #[Value.ref b] below meth c H locs cells slots Q (F0 m 720 ls []) := by
  obtain ⟨⟨hx, hb, hml, hown, hts⟩, hr, hlocks, hF, hAd⟩ := id C0
  obtain ⟨r, σ1, q1, q2, hI⟩ := hOp (xs (nI n + 1).toNatClampNeg)
  refine lv_aload_n hx hb dL_law_720 rfl (lv_at hl 2 rfl) ?_
  refine lv_aload_n hx hb dL_law_721 rfl (lv_at hl 1 rfl) ?_
  refine lv_iload_n hx hb dL_law_722 rfl (lv_at hl 0 rfl) ?_
  refine lv_iconst (v := 1) hx hb dL_law_723 (by decide) ?_
  refine lv_iadd hx hb dL_law_724 ?_
  refine va_sld hx hb hX hbl hbA hH.2 (lw_in (j := 1) hn hL (by decide)) dL_law_725 ?_
  refine go_iL hH (va_run_VL (As := [.int (xs (nI n + 1).toNatClampNeg)]) (rest := []) C0 hH lk_L_82 (c_X11_spread hAd 0 (xs (nI n + 1).toNatClampNeg) kd_0 σ q1) ⟨Nat.le_of_ble_eq_true rfl, Nat.le_of_ble_eq_true rfl⟩ (ci := 11) kd_0 (by decide) (cob_11 _ _ _) rfl rfl hl.1 rfl (Nat.le_of_ble_eq_true rfl) dL_law_726 hcl) (fun H locs hH => ?_)
  refine lv_aload_n hx hb dL_law_729 rfl (lv_at hl 3 rfl) ?_
  refine lv_aload_n hx hb dL_law_730 rfl (lv_at hl 1 rfl) ?_
  refine lv_iload_n hx hb dL_law_731 rfl (lv_at hl 0 rfl) ?_
  refine lv_iconst (v := 1) hx hb dL_law_732 (by decide) ?_
  refine lv_iadd hx hb dL_law_733 ?_
  refine va_sld hx hb hX hbl hbA hH.2 (lw_in (j := 1) hn hL (by decide)) dL_law_734 ?_
  refine go_iL hH (va_run_VL (As := [.int (xs (nI n + 1).toNatClampNeg)]) (rest := [.int r]) C0 hH lk_L_85 (c_X12_spread hAd 251 (xs (nI n + 1).toNatClampNeg) kd_251 σ1 q2) ⟨Nat.le_of_ble_eq_true rfl, Nat.le_of_ble_eq_true rfl⟩ (ci := 12) kd_251 (by decide) (cob_12 _ _ _) rfl rfl hl.1 rfl (Nat.le_of_ble_eq_true rfl) dL_law_735 hcl) (fun H locs hH => ?_)
  refine lv_icmp_eq (tgt := 1281) hx hb dL_law_738 (by decide) (fun _ => ?_) (fun c1 => absurd rfl c1)
  exact kk _ _ _ _ hI hH hl
set_option maxRecDepth 100000 in
set_option maxHeartbeats 4000000 in
theorem lw_case17 (hL : L ≤ 3072) (C0 : Cx E p m c code 4 s #[Value.ref b] RL meth (some .boolean)) (hX : va_X b L xs s s.heap) (hbl : b < s.heap.size) (hbA : ¬ eA E b) (hcl : cells ≤ room_1.cells ∧ slots ≤ room_1.slots) {n : Nat} (hn : n + 6 ≤ L) {σ : Mem} {H : Heap} {locs : List Loc} {ls : Array Slot} (hH : Hs E s σ H locs) (hl : lv_has ls 4 [(3, .int (nI n)), (0, .ref b), (1, .ref (ea E 0)), (2, .ref (ea E 251))]) (hOp : Op17 Inv σ) (kk : (∀ (σ : Mem) (H : Heap) (locs : List Loc) (ls : Array Slot), Inv σ → Hs E s σ H locs → lv_has ls 4 [(3, .int (nI n)), (0, .ref b), (1, .ref (ea E 0)), (2, .ref (ea E 251))] → W p l e room_1 s m #[Value.ref b] below meth c H locs cells slots Q (F0 m 1281 ls []))) : W p l e room_1 s m #[Value.ref b] below meth c H locs cells slots Q (F0 m 743 ls []) := by
  obtain ⟨⟨hx, hb, hml, hown, hts⟩, hr, hlocks, hF, hAd⟩ := id C0
  obtain ⟨r, σ1, σ2, q1, q2, hI⟩ := hOp (xs (nI n + 1).toNatClampNeg)
  refine lv_aload_n hx hb dL_law_743 rfl (lv_at hl 2 rfl) ?_
  refine lv_aload_n hx hb dL_law_744 rfl (lv_at hl 1 rfl) ?_
  refine lv_iload_n hx hb dL_law_745 rfl (lv_at hl 0 rfl) ?_
  refine lv_iconst (v := 1) hx hb dL_law_746 (by decide) ?_
  refine lv_iadd hx hb dL_law_747 ?_
  refine va_sld hx hb hX hbl hbA hH.2 (lw_in (j := 1) hn hL (by decide)) dL_law_748 ?_
  refine go_iL hH (va_run_VL (As := [.int (xs (nI n + 1).toNatClampNeg)]) (rest := []) C0 hH lk_L_86 (c_X11_whole hAd 0 (xs (nI n + 1).toNatClampNeg) kd_0 σ q1) ⟨Nat.le_of_ble_eq_true rfl, Nat.le_of_ble_eq_true rfl⟩ (ci := 11) kd_0 (by decide) (cob_11 _ _ _) rfl rfl hl.1 rfl (Nat.le_of_ble_eq_true rfl) dL_law_749 hcl) (fun H locs hH => ?_)
  refine lv_aload_n hx hb dL_law_752 rfl (lv_at hl 3 rfl) ?_
  refine lv_aload_n hx hb dL_law_753 rfl (lv_at hl 1 rfl) ?_
  refine lv_iload_n hx hb dL_law_754 rfl (lv_at hl 0 rfl) ?_
  refine lv_iconst (v := 1) hx hb dL_law_755 (by decide) ?_
  refine lv_iadd hx hb dL_law_756 ?_
  refine va_sld hx hb hX hbl hbA hH.2 (lw_in (j := 1) hn hL (by decide)) dL_law_757 ?_
  refine go_iL hH (va_run_VL (As := [.int (xs (nI n + 1).toNatClampNeg)]) (rest := [.int r]) C0 hH lk_L_89 (c_X12_whole hAd 251 (xs (nI n + 1).toNatClampNeg) kd_251 σ1 q2) ⟨Nat.le_of_ble_eq_true rfl, Nat.le_of_ble_eq_true rfl⟩ (ci := 12) kd_251 (by decide) (cob_12 _ _ _) rfl rfl hl.1 rfl (Nat.le_of_ble_eq_true rfl) dL_law_758 hcl) (fun H locs hH => ?_)
  refine lv_icmp_eq (tgt := 1281) hx hb dL_law_761 (by decide) (fun _ => ?_) (fun c1 => absurd rfl c1)
  exact kk _ _ _ _ hI hH hl
set_option maxRecDepth 100000 in
set_option maxHeartbeats 4000000 in
theorem lw_case18 (hL : L ≤ 3072) (C0 : Cx E p m c code 4 s #[Value.ref b] RL meth (some .boolean)) (hX : va_X b L xs s s.heap) (hbl : b < s.heap.size) (hbA : ¬ eA E b) (hcl : cells ≤ room_1.cells ∧ slots ≤ room_1.slots) {n : Nat} (hn : n + 6 ≤ L) {σ : Mem} {H : Heap} {locs : List Loc} {ls : Array Slot} (hH : Hs E s σ H locs) (hl : lv_has ls 4 [(3, .int (nI n)), (0, .ref b), (1, .ref (ea E 0)), (2, .ref (ea E 251))]) (hOp : Op18 Inv σ) (kk : (∀ (σ : Mem) (H : Heap) (locs : List Loc) (ls : Array Slot), Inv σ → Hs E s σ H locs → lv_has ls 4 [(3, .int (nI n)), (0, .ref b), (1, .ref (ea E 0)), (2, .ref (ea E 251))] → W p l e room_1 s m #[Value.ref b] below meth c H locs cells slots Q (F0 m 1281 ls []))) : W p l e room_1 s m #[Value.ref b] below meth c H locs cells slots Q (F0 m 766 ls []) := by
  obtain ⟨⟨hx, hb, hml, hown, hts⟩, hr, hlocks, hF, hAd⟩ := id C0
  obtain ⟨r, σ1, σ2, q1, q2, hI⟩ := hOp (xs (nI n + 1).toNatClampNeg) (xs (nI n + 2).toNatClampNeg)
  refine lv_aload_n hx hb dL_law_766 rfl (lv_at hl 2 rfl) ?_
  refine lv_aload_n hx hb dL_law_767 rfl (lv_at hl 1 rfl) ?_
  refine lv_iload_n hx hb dL_law_768 rfl (lv_at hl 0 rfl) ?_
  refine lv_iconst (v := 1) hx hb dL_law_769 (by decide) ?_
  refine lv_iadd hx hb dL_law_770 ?_
  refine va_sld hx hb hX hbl hbA hH.2 (lw_in (j := 1) hn hL (by decide)) dL_law_771 ?_
  refine lv_aload_n hx hb dL_law_772 rfl (lv_at hl 1 rfl) ?_
  refine lv_iload_n hx hb dL_law_773 rfl (lv_at hl 0 rfl) ?_
  refine lv_iconst (v := 2) hx hb dL_law_774 (by decide) ?_
  refine lv_iadd hx hb dL_law_775 ?_
  refine va_sld hx hb hX hbl hbA hH.2 (lw_in (j := 2) hn hL (by decide)) dL_law_776 ?_
  refine go_iL hH (va_run_VL (As := [.int (xs (nI n + 1).toNatClampNeg), .int (xs (nI n + 2).toNatClampNeg)]) (rest := []) C0 hH lk_L_90 (c_X11_hand hAd 0 (xs (nI n + 1).toNatClampNeg) (xs (nI n + 2).toNatClampNeg) kd_0 σ q1) ⟨Nat.le_of_ble_eq_true rfl, Nat.le_of_ble_eq_true rfl⟩ (ci := 11) kd_0 (by decide) (cob_11 _ _ _) rfl rfl hl.1 rfl (Nat.le_of_ble_eq_true rfl) dL_law_777 hcl) (fun H locs hH => ?_)
  refine lv_aload_n hx hb dL_law_780 rfl (lv_at hl 3 rfl) ?_
  refine lv_aload_n hx hb dL_law_781 rfl (lv_at hl 1 rfl) ?_
  refine lv_iload_n hx hb dL_law_782 rfl (lv_at hl 0 rfl) ?_
  refine lv_iconst (v := 1) hx hb dL_law_783 (by decide) ?_
  refine lv_iadd hx hb dL_law_784 ?_
  refine va_sld hx hb hX hbl hbA hH.2 (lw_in (j := 1) hn hL (by decide)) dL_law_785 ?_
  refine lv_aload_n hx hb dL_law_786 rfl (lv_at hl 1 rfl) ?_
  refine lv_iload_n hx hb dL_law_787 rfl (lv_at hl 0 rfl) ?_
  refine lv_iconst (v := 2) hx hb dL_law_788 (by decide) ?_
  refine lv_iadd hx hb dL_law_789 ?_
  refine va_sld hx hb hX hbl hbA hH.2 (lw_in (j := 2) hn hL (by decide)) dL_law_790 ?_
  refine go_iL hH (va_run_VL (As := [.int (xs (nI n + 1).toNatClampNeg), .int (xs (nI n + 2).toNatClampNeg)]) (rest := [.int r]) C0 hH lk_L_93 (c_X12_hand hAd 251 (xs (nI n + 1).toNatClampNeg) (xs (nI n + 2).toNatClampNeg) kd_251 σ1 q2) ⟨Nat.le_of_ble_eq_true rfl, Nat.le_of_ble_eq_true rfl⟩ (ci := 12) kd_251 (by decide) (cob_12 _ _ _) rfl rfl hl.1 rfl (Nat.le_of_ble_eq_true rfl) dL_law_791 hcl) (fun H locs hH => ?_)
  refine lv_icmp_eq (tgt := 1281) hx hb dL_law_794 (by decide) (fun _ => ?_) (fun c1 => absurd rfl c1)
  exact kk _ _ _ _ hI hH hl
set_option maxRecDepth 100000 in
set_option maxHeartbeats 4000000 in
theorem lw_case19 (hL : L ≤ 3072) (C0 : Cx E p m c code 4 s #[Value.ref b] RL meth (some .boolean)) (hX : va_X b L xs s s.heap) (hbl : b < s.heap.size) (hbA : ¬ eA E b) (hcl : cells ≤ room_1.cells ∧ slots ≤ room_1.slots) {n : Nat} (hn : n + 6 ≤ L) {σ : Mem} {H : Heap} {locs : List Loc} {ls : Array Slot} (hH : Hs E s σ H locs) (hl : lv_has ls 4 [(3, .int (nI n)), (0, .ref b), (1, .ref (ea E 0)), (2, .ref (ea E 251))]) (hOp : Op19 Inv σ) (kk : (∀ (σ : Mem) (H : Heap) (locs : List Loc) (ls : Array Slot), Inv σ → Hs E s σ H locs → lv_has ls 4 [(3, .int (nI n)), (0, .ref b), (1, .ref (ea E 0)), (2, .ref (ea E 251))] → W p l e room_1 s m #[Value.ref b] below meth c H locs cells slots Q (F0 m 1281 ls []))) : W p l e room_1 s m #[Value.ref b] below meth c H locs cells slots Q (F0 m 799 ls []) := by
  obtain ⟨⟨hx, hb, hml, hown, hts⟩, hr, hlocks, hF, hAd⟩ := id C0
  obtain ⟨r, σ1, σ2, q1, q2, hI⟩ := hOp (xs (nI n + 1).toNatClampNeg) (xs (nI n + 2).toNatClampNeg)
  refine lv_aload_n hx hb dL_law_799 rfl (lv_at hl 2 rfl) ?_
  refine lv_aload_n hx hb dL_law_800 rfl (lv_at hl 1 rfl) ?_
  refine lv_iload_n hx hb dL_law_801 rfl (lv_at hl 0 rfl) ?_
  refine lv_iconst (v := 1) hx hb dL_law_802 (by decide) ?_
  refine lv_iadd hx hb dL_law_803 ?_
  refine va_sld hx hb hX hbl hbA hH.2 (lw_in (j := 1) hn hL (by decide)) dL_law_804 ?_
  refine lv_aload_n hx hb dL_law_805 rfl (lv_at hl 1 rfl) ?_
  refine lv_iload_n hx hb dL_law_806 rfl (lv_at hl 0 rfl) ?_
  refine lv_iconst (v := 2) hx hb dL_law_807 (by decide) ?_
  refine lv_iadd hx hb dL_law_808 ?_
  refine va_sld hx hb hX hbl hbA hH.2 (lw_in (j := 2) hn hL (by decide)) dL_law_809 ?_
  refine go_iL hH (va_run_VL (As := [.int (xs (nI n + 1).toNatClampNeg), .int (xs (nI n + 2).toNatClampNeg)]) (rest := []) C0 hH lk_L_94 (c_X11_run hAd 0 (xs (nI n + 1).toNatClampNeg) (xs (nI n + 2).toNatClampNeg) kd_0 σ q1) ⟨Nat.le_of_ble_eq_true rfl, Nat.le_of_ble_eq_true rfl⟩ (ci := 11) kd_0 (by decide) (cob_11 _ _ _) rfl rfl hl.1 rfl (Nat.le_of_ble_eq_true rfl) dL_law_810 hcl) (fun H locs hH => ?_)
  refine lv_aload_n hx hb dL_law_813 rfl (lv_at hl 3 rfl) ?_
  refine lv_aload_n hx hb dL_law_814 rfl (lv_at hl 1 rfl) ?_
  refine lv_iload_n hx hb dL_law_815 rfl (lv_at hl 0 rfl) ?_
  refine lv_iconst (v := 1) hx hb dL_law_816 (by decide) ?_
  refine lv_iadd hx hb dL_law_817 ?_
  refine va_sld hx hb hX hbl hbA hH.2 (lw_in (j := 1) hn hL (by decide)) dL_law_818 ?_
  refine lv_aload_n hx hb dL_law_819 rfl (lv_at hl 1 rfl) ?_
  refine lv_iload_n hx hb dL_law_820 rfl (lv_at hl 0 rfl) ?_
  refine lv_iconst (v := 2) hx hb dL_law_821 (by decide) ?_
  refine lv_iadd hx hb dL_law_822 ?_
  refine va_sld hx hb hX hbl hbA hH.2 (lw_in (j := 2) hn hL (by decide)) dL_law_823 ?_
  refine go_iL hH (va_run_VL (As := [.int (xs (nI n + 1).toNatClampNeg), .int (xs (nI n + 2).toNatClampNeg)]) (rest := [.int r]) C0 hH lk_L_97 (c_X12_run hAd 251 (xs (nI n + 1).toNatClampNeg) (xs (nI n + 2).toNatClampNeg) kd_251 σ1 q2) ⟨Nat.le_of_ble_eq_true rfl, Nat.le_of_ble_eq_true rfl⟩ (ci := 12) kd_251 (by decide) (cob_12 _ _ _) rfl rfl hl.1 rfl (Nat.le_of_ble_eq_true rfl) dL_law_824 hcl) (fun H locs hH => ?_)
  refine lv_icmp_eq (tgt := 1281) hx hb dL_law_827 (by decide) (fun _ => ?_) (fun c1 => absurd rfl c1)
  exact kk _ _ _ _ hI hH hl
set_option maxRecDepth 100000 in
set_option maxHeartbeats 4000000 in
theorem lw_case20 (hL : L ≤ 3072) (C0 : Cx E p m c code 4 s #[Value.ref b] RL meth (some .boolean)) (hX : va_X b L xs s s.heap) (hbl : b < s.heap.size) (hbA : ¬ eA E b) (hcl : cells ≤ room_1.cells ∧ slots ≤ room_1.slots) {n : Nat} (hn : n + 6 ≤ L) {σ : Mem} {H : Heap} {locs : List Loc} {ls : Array Slot} (hH : Hs E s σ H locs) (hl : lv_has ls 4 [(3, .int (nI n)), (0, .ref b), (1, .ref (ea E 0)), (2, .ref (ea E 251))]) (hOp : Op20 Inv σ) (kk : (∀ (σ : Mem) (H : Heap) (locs : List Loc) (ls : Array Slot), Inv σ → Hs E s σ H locs → lv_has ls 4 [(3, .int (nI n)), (0, .ref b), (1, .ref (ea E 0)), (2, .ref (ea E 251))] → W p l e room_1 s m #[Value.ref b] below meth c H locs cells slots Q (F0 m 1281 ls []))) : W p l e room_1 s m #[Value.ref b] below meth c H locs cells slots Q (F0 m 832 ls []) := by
  obtain ⟨⟨hx, hb, hml, hown, hts⟩, hr, hlocks, hF, hAd⟩ := id C0
  obtain ⟨r, σ1, σ2, q1, q2, hI⟩ := hOp (xs (nI n + 1).toNatClampNeg)
  refine lv_aload_n hx hb dL_law_832 rfl (lv_at hl 2 rfl) ?_
  refine lv_aload_n hx hb dL_law_833 rfl (lv_at hl 1 rfl) ?_
  refine lv_iload_n hx hb dL_law_834 rfl (lv_at hl 0 rfl) ?_
  refine lv_iconst (v := 1) hx hb dL_law_835 (by decide) ?_
  refine lv_iadd hx hb dL_law_836 ?_
  refine va_sld hx hb hX hbl hbA hH.2 (lw_in (j := 1) hn hL (by decide)) dL_law_837 ?_
  refine go_iL hH (va_run_VL (As := [.int (xs (nI n + 1).toNatClampNeg)]) (rest := []) C0 hH lk_L_98 (c_X11_sign hAd 0 (xs (nI n + 1).toNatClampNeg) kd_0 σ q1) ⟨Nat.le_of_ble_eq_true rfl, Nat.le_of_ble_eq_true rfl⟩ (ci := 11) kd_0 (by decide) (cob_11 _ _ _) rfl rfl hl.1 rfl (Nat.le_of_ble_eq_true rfl) dL_law_838 hcl) (fun H locs hH => ?_)
  refine lv_aload_n hx hb dL_law_841 rfl (lv_at hl 3 rfl) ?_
  refine lv_aload_n hx hb dL_law_842 rfl (lv_at hl 1 rfl) ?_
  refine lv_iload_n hx hb dL_law_843 rfl (lv_at hl 0 rfl) ?_
  refine lv_iconst (v := 1) hx hb dL_law_844 (by decide) ?_
  refine lv_iadd hx hb dL_law_845 ?_
  refine va_sld hx hb hX hbl hbA hH.2 (lw_in (j := 1) hn hL (by decide)) dL_law_846 ?_
  refine go_iL hH (va_run_VL (As := [.int (xs (nI n + 1).toNatClampNeg)]) (rest := [.int r]) C0 hH lk_L_101 (c_X12_sign hAd 251 (xs (nI n + 1).toNatClampNeg) kd_251 σ1 q2) ⟨Nat.le_of_ble_eq_true rfl, Nat.le_of_ble_eq_true rfl⟩ (ci := 12) kd_251 (by decide) (cob_12 _ _ _) rfl rfl hl.1 rfl (Nat.le_of_ble_eq_true rfl) dL_law_847 hcl) (fun H locs hH => ?_)
  refine lv_icmp_eq (tgt := 1281) hx hb dL_law_850 (by decide) (fun _ => ?_) (fun c1 => absurd rfl c1)
  exact kk _ _ _ _ hI hH hl
set_option maxRecDepth 100000 in
set_option maxHeartbeats 4000000 in
theorem lw_case21 (hL : L ≤ 3072) (C0 : Cx E p m c code 4 s #[Value.ref b] RL meth (some .boolean)) (hX : va_X b L xs s s.heap) (hbl : b < s.heap.size) (hbA : ¬ eA E b) (hcl : cells ≤ room_1.cells ∧ slots ≤ room_1.slots) {n : Nat} (hn : n + 6 ≤ L) {σ : Mem} {H : Heap} {locs : List Loc} {ls : Array Slot} (hH : Hs E s σ H locs) (hl : lv_has ls 4 [(3, .int (nI n)), (0, .ref b), (1, .ref (ea E 0)), (2, .ref (ea E 251))]) (hOp : Op21 Inv σ) (kk : (∀ (σ : Mem) (H : Heap) (locs : List Loc) (ls : Array Slot), Inv σ → Hs E s σ H locs → lv_has ls 4 [(3, .int (nI n)), (0, .ref b), (1, .ref (ea E 0)), (2, .ref (ea E 251))] → W p l e room_1 s m #[Value.ref b] below meth c H locs cells slots Q (F0 m 1281 ls []))) : W p l e room_1 s m #[Value.ref b] below meth c H locs cells slots Q (F0 m 855 ls []) := by
  obtain ⟨⟨hx, hb, hml, hown, hts⟩, hr, hlocks, hF, hAd⟩ := id C0
  obtain ⟨r, σ1, σ2, q1, q2, hI⟩ := hOp
  refine lv_aload_n hx hb dL_law_855 rfl (lv_at hl 2 rfl) ?_
  refine go_iL hH (va_run_VL (As := []) (rest := []) C0 hH lk_L_102 (c_X11_say hAd 0 kd_0 σ q1) ⟨Nat.le_of_ble_eq_true rfl, Nat.le_of_ble_eq_true rfl⟩ (ci := 11) kd_0 (by decide) (cob_11 _ _ _) rfl rfl hl.1 rfl (Nat.le_of_ble_eq_true rfl) dL_law_856 hcl) (fun H locs hH => ?_)
  refine lv_aload_n hx hb dL_law_859 rfl (lv_at hl 3 rfl) ?_
  refine go_iL hH (va_run_VL (As := []) (rest := [.int r]) C0 hH lk_L_105 (c_X12_say hAd 251 kd_251 σ1 q2) ⟨Nat.le_of_ble_eq_true rfl, Nat.le_of_ble_eq_true rfl⟩ (ci := 12) kd_251 (by decide) (cob_12 _ _ _) rfl rfl hl.1 rfl (Nat.le_of_ble_eq_true rfl) dL_law_860 hcl) (fun H locs hH => ?_)
  refine lv_icmp_eq (tgt := 1281) hx hb dL_law_863 (by decide) (fun _ => ?_) (fun c1 => absurd rfl c1)
  exact kk _ _ _ _ hI hH hl
set_option maxRecDepth 100000 in
set_option maxHeartbeats 4000000 in
theorem lw_case22 (hL : L ≤ 3072) (C0 : Cx E p m c code 4 s #[Value.ref b] RL meth (some .boolean)) (hX : va_X b L xs s s.heap) (hbl : b < s.heap.size) (hbA : ¬ eA E b) (hcl : cells ≤ room_1.cells ∧ slots ≤ room_1.slots) {n : Nat} (hn : n + 6 ≤ L) {σ : Mem} {H : Heap} {locs : List Loc} {ls : Array Slot} (hH : Hs E s σ H locs) (hl : lv_has ls 4 [(3, .int (nI n)), (0, .ref b), (1, .ref (ea E 0)), (2, .ref (ea E 251))]) (hOp : Op22 Inv σ) (kk : (∀ (σ : Mem) (H : Heap) (locs : List Loc) (ls : Array Slot), Inv σ → Hs E s σ H locs → lv_has ls 4 [(3, .int (nI n)), (0, .ref b), (1, .ref (ea E 0)), (2, .ref (ea E 251))] → W p l e room_1 s m #[Value.ref b] below meth c H locs cells slots Q (F0 m 1281 ls []))) : W p l e room_1 s m #[Value.ref b] below meth c H locs cells slots Q (F0 m 868 ls []) := by
  obtain ⟨⟨hx, hb, hml, hown, hts⟩, hr, hlocks, hF, hAd⟩ := id C0
  obtain ⟨r, σ1, σ2, q1, q2, hI⟩ := hOp (xs (nI n + 1).toNatClampNeg)
  refine lv_aload_n hx hb dL_law_868 rfl (lv_at hl 2 rfl) ?_
  refine lv_aload_n hx hb dL_law_869 rfl (lv_at hl 1 rfl) ?_
  refine lv_iload_n hx hb dL_law_870 rfl (lv_at hl 0 rfl) ?_
  refine lv_iconst (v := 1) hx hb dL_law_871 (by decide) ?_
  refine lv_iadd hx hb dL_law_872 ?_
  refine va_sld hx hb hX hbl hbA hH.2 (lw_in (j := 1) hn hL (by decide)) dL_law_873 ?_
  refine go_iL hH (va_run_VL (As := [.int (xs (nI n + 1).toNatClampNeg)]) (rest := []) C0 hH lk_L_106 (c_X11_without hAd 0 (xs (nI n + 1).toNatClampNeg) kd_0 σ q1) ⟨Nat.le_of_ble_eq_true rfl, Nat.le_of_ble_eq_true rfl⟩ (ci := 11) kd_0 (by decide) (cob_11 _ _ _) rfl rfl hl.1 rfl (Nat.le_of_ble_eq_true rfl) dL_law_874 hcl) (fun H locs hH => ?_)
  refine lv_aload_n hx hb dL_law_877 rfl (lv_at hl 3 rfl) ?_
  refine lv_aload_n hx hb dL_law_878 rfl (lv_at hl 1 rfl) ?_
  refine lv_iload_n hx hb dL_law_879 rfl (lv_at hl 0 rfl) ?_
  refine lv_iconst (v := 1) hx hb dL_law_880 (by decide) ?_
  refine lv_iadd hx hb dL_law_881 ?_
  refine va_sld hx hb hX hbl hbA hH.2 (lw_in (j := 1) hn hL (by decide)) dL_law_882 ?_
  refine go_iL hH (va_run_VL (As := [.int (xs (nI n + 1).toNatClampNeg)]) (rest := [.int r]) C0 hH lk_L_109 (c_X12_without hAd 251 (xs (nI n + 1).toNatClampNeg) kd_251 σ1 q2) ⟨Nat.le_of_ble_eq_true rfl, Nat.le_of_ble_eq_true rfl⟩ (ci := 12) kd_251 (by decide) (cob_12 _ _ _) rfl rfl hl.1 rfl (Nat.le_of_ble_eq_true rfl) dL_law_883 hcl) (fun H locs hH => ?_)
  refine lv_icmp_eq (tgt := 1281) hx hb dL_law_886 (by decide) (fun _ => ?_) (fun c1 => absurd rfl c1)
  exact kk _ _ _ _ hI hH hl
set_option maxRecDepth 100000 in
set_option maxHeartbeats 4000000 in
theorem lw_case23 (hL : L ≤ 3072) (C0 : Cx E p m c code 4 s #[Value.ref b] RL meth (some .boolean)) (hX : va_X b L xs s s.heap) (hbl : b < s.heap.size) (hbA : ¬ eA E b) (hcl : cells ≤ room_1.cells ∧ slots ≤ room_1.slots) {n : Nat} (hn : n + 6 ≤ L) {σ : Mem} {H : Heap} {locs : List Loc} {ls : Array Slot} (hH : Hs E s σ H locs) (hl : lv_has ls 4 [(3, .int (nI n)), (0, .ref b), (1, .ref (ea E 0)), (2, .ref (ea E 251))]) (hOp : Op23 Inv σ) (kk : (∀ (σ : Mem) (H : Heap) (locs : List Loc) (ls : Array Slot), Inv σ → Hs E s σ H locs → lv_has ls 4 [(3, .int (nI n)), (0, .ref b), (1, .ref (ea E 0)), (2, .ref (ea E 251))] → W p l e room_1 s m #[Value.ref b] below meth c H locs cells slots Q (F0 m 1281 ls []))) : W p l e room_1 s m #[Value.ref b] below meth c H locs cells slots Q (F0 m 891 ls []) := by
  obtain ⟨⟨hx, hb, hml, hown, hts⟩, hr, hlocks, hF, hAd⟩ := id C0
  obtain ⟨r, σ1, σ2, q1, q2, hI⟩ := hOp (xs (nI n + 1).toNatClampNeg)
  refine lv_aload_n hx hb dL_law_891 rfl (lv_at hl 2 rfl) ?_
  refine lv_aload_n hx hb dL_law_892 rfl (lv_at hl 1 rfl) ?_
  refine lv_iload_n hx hb dL_law_893 rfl (lv_at hl 0 rfl) ?_
  refine lv_iconst (v := 1) hx hb dL_law_894 (by decide) ?_
  refine lv_iadd hx hb dL_law_895 ?_
  refine va_sld hx hb hX hbl hbA hH.2 (lw_in (j := 1) hn hL (by decide)) dL_law_896 ?_
  refine go_iL hH (va_run_VL (As := [.int (xs (nI n + 1).toNatClampNeg)]) (rest := []) C0 hH lk_L_110 (c_X11_least hAd 0 (xs (nI n + 1).toNatClampNeg) kd_0 σ q1) ⟨Nat.le_of_ble_eq_true rfl, Nat.le_of_ble_eq_true rfl⟩ (ci := 11) kd_0 (by decide) (cob_11 _ _ _) rfl rfl hl.1 rfl (Nat.le_of_ble_eq_true rfl) dL_law_897 hcl) (fun H locs hH => ?_)
  refine lv_aload_n hx hb dL_law_900 rfl (lv_at hl 3 rfl) ?_
  refine lv_aload_n hx hb dL_law_901 rfl (lv_at hl 1 rfl) ?_
  refine lv_iload_n hx hb dL_law_902 rfl (lv_at hl 0 rfl) ?_
  refine lv_iconst (v := 1) hx hb dL_law_903 (by decide) ?_
  refine lv_iadd hx hb dL_law_904 ?_
  refine va_sld hx hb hX hbl hbA hH.2 (lw_in (j := 1) hn hL (by decide)) dL_law_905 ?_
  refine go_iL hH (va_run_VL (As := [.int (xs (nI n + 1).toNatClampNeg)]) (rest := [.int r]) C0 hH lk_L_113 (c_X12_least hAd 251 (xs (nI n + 1).toNatClampNeg) kd_251 σ1 q2) ⟨Nat.le_of_ble_eq_true rfl, Nat.le_of_ble_eq_true rfl⟩ (ci := 12) kd_251 (by decide) (cob_12 _ _ _) rfl rfl hl.1 rfl (Nat.le_of_ble_eq_true rfl) dL_law_906 hcl) (fun H locs hH => ?_)
  refine lv_icmp_eq (tgt := 1281) hx hb dL_law_909 (by decide) (fun _ => ?_) (fun c1 => absurd rfl c1)
  exact kk _ _ _ _ hI hH hl
set_option maxRecDepth 100000 in
set_option maxHeartbeats 4000000 in
theorem lw_case24 (hL : L ≤ 3072) (C0 : Cx E p m c code 4 s #[Value.ref b] RL meth (some .boolean)) (hX : va_X b L xs s s.heap) (hbl : b < s.heap.size) (hbA : ¬ eA E b) (hcl : cells ≤ room_1.cells ∧ slots ≤ room_1.slots) {n : Nat} (hn : n + 6 ≤ L) {σ : Mem} {H : Heap} {locs : List Loc} {ls : Array Slot} (hH : Hs E s σ H locs) (hl : lv_has ls 4 [(3, .int (nI n)), (0, .ref b), (1, .ref (ea E 0)), (2, .ref (ea E 251))]) (hOp : Op24 Inv σ) (kk : (∀ (σ : Mem) (H : Heap) (locs : List Loc) (ls : Array Slot), Inv σ → Hs E s σ H locs → lv_has ls 4 [(3, .int (nI n)), (0, .ref b), (1, .ref (ea E 0)), (2, .ref (ea E 251))] → W p l e room_1 s m #[Value.ref b] below meth c H locs cells slots Q (F0 m 1281 ls []))) : W p l e room_1 s m #[Value.ref b] below meth c H locs cells slots Q (F0 m 914 ls []) := by
  obtain ⟨⟨hx, hb, hml, hown, hts⟩, hr, hlocks, hF, hAd⟩ := id C0
  obtain ⟨r, σ1, σ2, q1, q2, hI⟩ := hOp (xs (nI n + 1).toNatClampNeg)
  refine lv_aload_n hx hb dL_law_914 rfl (lv_at hl 2 rfl) ?_
  refine lv_aload_n hx hb dL_law_915 rfl (lv_at hl 1 rfl) ?_
  refine lv_iload_n hx hb dL_law_916 rfl (lv_at hl 0 rfl) ?_
  refine lv_iconst (v := 1) hx hb dL_law_917 (by decide) ?_
  refine lv_iadd hx hb dL_law_918 ?_
  refine va_sld hx hb hX hbl hbA hH.2 (lw_in (j := 1) hn hL (by decide)) dL_law_919 ?_
  refine go_iL hH (va_run_VL (As := [.int (xs (nI n + 1).toNatClampNeg)]) (rest := []) C0 hH lk_L_114 (c_X11_pairs hAd 0 (xs (nI n + 1).toNatClampNeg) kd_0 σ q1) ⟨Nat.le_of_ble_eq_true rfl, Nat.le_of_ble_eq_true rfl⟩ (ci := 11) kd_0 (by decide) (cob_11 _ _ _) rfl rfl hl.1 rfl (Nat.le_of_ble_eq_true rfl) dL_law_920 hcl) (fun H locs hH => ?_)
  refine lv_aload_n hx hb dL_law_923 rfl (lv_at hl 3 rfl) ?_
  refine lv_aload_n hx hb dL_law_924 rfl (lv_at hl 1 rfl) ?_
  refine lv_iload_n hx hb dL_law_925 rfl (lv_at hl 0 rfl) ?_
  refine lv_iconst (v := 1) hx hb dL_law_926 (by decide) ?_
  refine lv_iadd hx hb dL_law_927 ?_
  refine va_sld hx hb hX hbl hbA hH.2 (lw_in (j := 1) hn hL (by decide)) dL_law_928 ?_
  refine go_iL hH (va_run_VL (As := [.int (xs (nI n + 1).toNatClampNeg)]) (rest := [.int r]) C0 hH lk_L_117 (c_X12_pairs hAd 251 (xs (nI n + 1).toNatClampNeg) kd_251 σ1 q2) ⟨Nat.le_of_ble_eq_true rfl, Nat.le_of_ble_eq_true rfl⟩ (ci := 12) kd_251 (by decide) (cob_12 _ _ _) rfl rfl hl.1 rfl (Nat.le_of_ble_eq_true rfl) dL_law_929 hcl) (fun H locs hH => ?_)
  refine lv_icmp_eq (tgt := 1281) hx hb dL_law_932 (by decide) (fun _ => ?_) (fun c1 => absurd rfl c1)
  exact kk _ _ _ _ hI hH hl
set_option maxRecDepth 100000 in
set_option maxHeartbeats 4000000 in
theorem lw_case25 (hL : L ≤ 3072) (C0 : Cx E p m c code 4 s #[Value.ref b] RL meth (some .boolean)) (hX : va_X b L xs s s.heap) (hbl : b < s.heap.size) (hbA : ¬ eA E b) (hcl : cells ≤ room_1.cells ∧ slots ≤ room_1.slots) {n : Nat} (hn : n + 6 ≤ L) {σ : Mem} {H : Heap} {locs : List Loc} {ls : Array Slot} (hH : Hs E s σ H locs) (hl : lv_has ls 4 [(3, .int (nI n)), (0, .ref b), (1, .ref (ea E 0)), (2, .ref (ea E 251))]) (hOp : Op25 Inv σ) (kk : (∀ (σ : Mem) (H : Heap) (locs : List Loc) (ls : Array Slot), Inv σ → Hs E s σ H locs → lv_has ls 4 [(3, .int (nI n)), (0, .ref b), (1, .ref (ea E 0)), (2, .ref (ea E 251))] → W p l e room_1 s m #[Value.ref b] below meth c H locs cells slots Q (F0 m 1281 ls []))) : W p l e room_1 s m #[Value.ref b] below meth c H locs cells slots Q (F0 m 937 ls []) := by
  obtain ⟨⟨hx, hb, hml, hown, hts⟩, hr, hlocks, hF, hAd⟩ := id C0
  obtain ⟨r, σ1, σ2, q1, q2, hI⟩ := hOp (xs (nI n + 1).toNatClampNeg) (xs (nI n + 2).toNatClampNeg) (xs (nI n + 3).toNatClampNeg) (xs (nI n + 4).toNatClampNeg) (xs (nI n + 5).toNatClampNeg)
  refine lv_aload_n hx hb dL_law_937 rfl (lv_at hl 2 rfl) ?_
  refine lv_aload_n hx hb dL_law_938 rfl (lv_at hl 1 rfl) ?_
  refine lv_iload_n hx hb dL_law_939 rfl (lv_at hl 0 rfl) ?_
  refine lv_iconst (v := 1) hx hb dL_law_940 (by decide) ?_
  refine lv_iadd hx hb dL_law_941 ?_
  refine va_sld hx hb hX hbl hbA hH.2 (lw_in (j := 1) hn hL (by decide)) dL_law_942 ?_
  refine lv_aload_n hx hb dL_law_943 rfl (lv_at hl 1 rfl) ?_
  refine lv_iload_n hx hb dL_law_944 rfl (lv_at hl 0 rfl) ?_
  refine lv_iconst (v := 2) hx hb dL_law_945 (by decide) ?_
  refine lv_iadd hx hb dL_law_946 ?_
  refine va_sld hx hb hX hbl hbA hH.2 (lw_in (j := 2) hn hL (by decide)) dL_law_947 ?_
  refine lv_aload_n hx hb dL_law_948 rfl (lv_at hl 1 rfl) ?_
  refine lv_iload_n hx hb dL_law_949 rfl (lv_at hl 0 rfl) ?_
  refine lv_iconst (v := 3) hx hb dL_law_950 (by decide) ?_
  refine lv_iadd hx hb dL_law_951 ?_
  refine va_sld hx hb hX hbl hbA hH.2 (lw_in (j := 3) hn hL (by decide)) dL_law_952 ?_
  refine lv_aload_n hx hb dL_law_953 rfl (lv_at hl 1 rfl) ?_
  refine lv_iload_n hx hb dL_law_954 rfl (lv_at hl 0 rfl) ?_
  refine lv_iconst (v := 4) hx hb dL_law_955 (by decide) ?_
  refine lv_iadd hx hb dL_law_956 ?_
  refine va_sld hx hb hX hbl hbA hH.2 (lw_in (j := 4) hn hL (by decide)) dL_law_957 ?_
  refine lv_aload_n hx hb dL_law_958 rfl (lv_at hl 1 rfl) ?_
  refine lv_iload_n hx hb dL_law_959 rfl (lv_at hl 0 rfl) ?_
  refine lv_iconst (v := 5) hx hb dL_law_960 (by decide) ?_
  refine lv_iadd hx hb dL_law_961 ?_
  refine va_sld hx hb hX hbl hbA hH.2 (lw_in (j := 5) hn hL (by decide)) dL_law_962 ?_
  refine go_iL hH (va_run_VL (As := [.int (xs (nI n + 1).toNatClampNeg), .int (xs (nI n + 2).toNatClampNeg), .int (xs (nI n + 3).toNatClampNeg), .int (xs (nI n + 4).toNatClampNeg), .int (xs (nI n + 5).toNatClampNeg)]) (rest := []) C0 hH lk_L_118 (c_X11_who hAd 0 (xs (nI n + 1).toNatClampNeg) (xs (nI n + 2).toNatClampNeg) (xs (nI n + 3).toNatClampNeg) (xs (nI n + 4).toNatClampNeg) (xs (nI n + 5).toNatClampNeg) kd_0 σ q1) ⟨Nat.le_of_ble_eq_true rfl, Nat.le_of_ble_eq_true rfl⟩ (ci := 11) kd_0 (by decide) (cob_11 _ _ _) rfl rfl hl.1 rfl (Nat.le_of_ble_eq_true rfl) dL_law_963 hcl) (fun H locs hH => ?_)
  refine lv_aload_n hx hb dL_law_966 rfl (lv_at hl 3 rfl) ?_
  refine lv_aload_n hx hb dL_law_967 rfl (lv_at hl 1 rfl) ?_
  refine lv_iload_n hx hb dL_law_968 rfl (lv_at hl 0 rfl) ?_
  refine lv_iconst (v := 1) hx hb dL_law_969 (by decide) ?_
  refine lv_iadd hx hb dL_law_970 ?_
  refine va_sld hx hb hX hbl hbA hH.2 (lw_in (j := 1) hn hL (by decide)) dL_law_971 ?_
  refine lv_aload_n hx hb dL_law_972 rfl (lv_at hl 1 rfl) ?_
  refine lv_iload_n hx hb dL_law_973 rfl (lv_at hl 0 rfl) ?_
  refine lv_iconst (v := 2) hx hb dL_law_974 (by decide) ?_
  refine lv_iadd hx hb dL_law_975 ?_
  refine va_sld hx hb hX hbl hbA hH.2 (lw_in (j := 2) hn hL (by decide)) dL_law_976 ?_
  refine lv_aload_n hx hb dL_law_977 rfl (lv_at hl 1 rfl) ?_
  refine lv_iload_n hx hb dL_law_978 rfl (lv_at hl 0 rfl) ?_
  refine lv_iconst (v := 3) hx hb dL_law_979 (by decide) ?_
  refine lv_iadd hx hb dL_law_980 ?_
  refine va_sld hx hb hX hbl hbA hH.2 (lw_in (j := 3) hn hL (by decide)) dL_law_981 ?_
  refine lv_aload_n hx hb dL_law_982 rfl (lv_at hl 1 rfl) ?_
  refine lv_iload_n hx hb dL_law_983 rfl (lv_at hl 0 rfl) ?_
  refine lv_iconst (v := 4) hx hb dL_law_984 (by decide) ?_
  refine lv_iadd hx hb dL_law_985 ?_
  refine va_sld hx hb hX hbl hbA hH.2 (lw_in (j := 4) hn hL (by decide)) dL_law_986 ?_
  refine lv_aload_n hx hb dL_law_987 rfl (lv_at hl 1 rfl) ?_
  refine lv_iload_n hx hb dL_law_988 rfl (lv_at hl 0 rfl) ?_
  refine lv_iconst (v := 5) hx hb dL_law_989 (by decide) ?_
  refine lv_iadd hx hb dL_law_990 ?_
  refine va_sld hx hb hX hbl hbA hH.2 (lw_in (j := 5) hn hL (by decide)) dL_law_991 ?_
  refine go_iL hH (va_run_VL (As := [.int (xs (nI n + 1).toNatClampNeg), .int (xs (nI n + 2).toNatClampNeg), .int (xs (nI n + 3).toNatClampNeg), .int (xs (nI n + 4).toNatClampNeg), .int (xs (nI n + 5).toNatClampNeg)]) (rest := [.int r]) C0 hH lk_L_121 (c_X12_who hAd 251 (xs (nI n + 1).toNatClampNeg) (xs (nI n + 2).toNatClampNeg) (xs (nI n + 3).toNatClampNeg) (xs (nI n + 4).toNatClampNeg) (xs (nI n + 5).toNatClampNeg) kd_251 σ1 q2) ⟨Nat.le_of_ble_eq_true rfl, Nat.le_of_ble_eq_true rfl⟩ (ci := 12) kd_251 (by decide) (cob_12 _ _ _) rfl rfl hl.1 rfl (Nat.le_of_ble_eq_true rfl) dL_law_992 hcl) (fun H locs hH => ?_)
  refine lv_icmp_eq (tgt := 1281) hx hb dL_law_995 (by decide) (fun _ => ?_) (fun c1 => absurd rfl c1)
  exact kk _ _ _ _ hI hH hl
set_option maxRecDepth 100000 in
set_option maxHeartbeats 4000000 in
theorem lw_case26 (hL : L ≤ 3072) (C0 : Cx E p m c code 4 s #[Value.ref b] RL meth (some .boolean)) (hX : va_X b L xs s s.heap) (hbl : b < s.heap.size) (hbA : ¬ eA E b) (hcl : cells ≤ room_1.cells ∧ slots ≤ room_1.slots) {n : Nat} (hn : n + 6 ≤ L) {σ : Mem} {H : Heap} {locs : List Loc} {ls : Array Slot} (hH : Hs E s σ H locs) (hl : lv_has ls 4 [(3, .int (nI n)), (0, .ref b), (1, .ref (ea E 0)), (2, .ref (ea E 251))]) (hOp : Op26 Inv σ) (kk : (∀ (σ : Mem) (H : Heap) (locs : List Loc) (ls : Array Slot), Inv σ → Hs E s σ H locs → lv_has ls 4 [(3, .int (nI n)), (0, .ref b), (1, .ref (ea E 0)), (2, .ref (ea E 251))] → W p l e room_1 s m #[Value.ref b] below meth c H locs cells slots Q (F0 m 1281 ls []))) : W p l e room_1 s m #[Value.ref b] below meth c H locs cells slots Q (F0 m 1000 ls []) := by
  obtain ⟨⟨hx, hb, hml, hown, hts⟩, hr, hlocks, hF, hAd⟩ := id C0
  obtain ⟨r, σ1, σ2, q1, q2, hI⟩ := hOp (xs (nI n + 1).toNatClampNeg) (xs (nI n + 2).toNatClampNeg) (xs (nI n + 3).toNatClampNeg)
  refine lv_aload_n hx hb dL_law_1000 rfl (lv_at hl 2 rfl) ?_
  refine lv_aload_n hx hb dL_law_1001 rfl (lv_at hl 1 rfl) ?_
  refine lv_iload_n hx hb dL_law_1002 rfl (lv_at hl 0 rfl) ?_
  refine lv_iconst (v := 1) hx hb dL_law_1003 (by decide) ?_
  refine lv_iadd hx hb dL_law_1004 ?_
  refine va_sld hx hb hX hbl hbA hH.2 (lw_in (j := 1) hn hL (by decide)) dL_law_1005 ?_
  refine lv_aload_n hx hb dL_law_1006 rfl (lv_at hl 1 rfl) ?_
  refine lv_iload_n hx hb dL_law_1007 rfl (lv_at hl 0 rfl) ?_
  refine lv_iconst (v := 2) hx hb dL_law_1008 (by decide) ?_
  refine lv_iadd hx hb dL_law_1009 ?_
  refine va_sld hx hb hX hbl hbA hH.2 (lw_in (j := 2) hn hL (by decide)) dL_law_1010 ?_
  refine lv_aload_n hx hb dL_law_1011 rfl (lv_at hl 1 rfl) ?_
  refine lv_iload_n hx hb dL_law_1012 rfl (lv_at hl 0 rfl) ?_
  refine lv_iconst (v := 3) hx hb dL_law_1013 (by decide) ?_
  refine lv_iadd hx hb dL_law_1014 ?_
  refine va_sld hx hb hX hbl hbA hH.2 (lw_in (j := 3) hn hL (by decide)) dL_law_1015 ?_
  refine go_lL hH (va_run_VL (As := [.int (xs (nI n + 1).toNatClampNeg), .int (xs (nI n + 2).toNatClampNeg), .int (xs (nI n + 3).toNatClampNeg)]) (rest := []) C0 hH lk_L_122 (c_X11_lost hAd 0 (xs (nI n + 1).toNatClampNeg) (xs (nI n + 2).toNatClampNeg) (xs (nI n + 3).toNatClampNeg) kd_0 σ q1) ⟨Nat.le_of_ble_eq_true rfl, Nat.le_of_ble_eq_true rfl⟩ (ci := 11) kd_0 (by decide) (cob_11 _ _ _) rfl rfl hl.1 rfl (Nat.le_of_ble_eq_true rfl) dL_law_1016 hcl) (fun H locs hH => ?_)
  refine lv_aload_n hx hb dL_law_1019 rfl (lv_at hl 3 rfl) ?_
  refine lv_aload_n hx hb dL_law_1020 rfl (lv_at hl 1 rfl) ?_
  refine lv_iload_n hx hb dL_law_1021 rfl (lv_at hl 0 rfl) ?_
  refine lv_iconst (v := 1) hx hb dL_law_1022 (by decide) ?_
  refine lv_iadd hx hb dL_law_1023 ?_
  refine va_sld hx hb hX hbl hbA hH.2 (lw_in (j := 1) hn hL (by decide)) dL_law_1024 ?_
  refine lv_aload_n hx hb dL_law_1025 rfl (lv_at hl 1 rfl) ?_
  refine lv_iload_n hx hb dL_law_1026 rfl (lv_at hl 0 rfl) ?_
  refine lv_iconst (v := 2) hx hb dL_law_1027 (by decide) ?_
  refine lv_iadd hx hb dL_law_1028 ?_
  refine va_sld hx hb hX hbl hbA hH.2 (lw_in (j := 2) hn hL (by decide)) dL_law_1029 ?_
  refine lv_aload_n hx hb dL_law_1030 rfl (lv_at hl 1 rfl) ?_
  refine lv_iload_n hx hb dL_law_1031 rfl (lv_at hl 0 rfl) ?_
  refine lv_iconst (v := 3) hx hb dL_law_1032 (by decide) ?_
  refine lv_iadd hx hb dL_law_1033 ?_
  refine va_sld hx hb hX hbl hbA hH.2 (lw_in (j := 3) hn hL (by decide)) dL_law_1034 ?_
  refine go_lL hH (va_run_VL (As := [.int (xs (nI n + 1).toNatClampNeg), .int (xs (nI n + 2).toNatClampNeg), .int (xs (nI n + 3).toNatClampNeg)]) (rest := [.long r]) C0 hH lk_L_126 (c_X12_lost hAd 251 (xs (nI n + 1).toNatClampNeg) (xs (nI n + 2).toNatClampNeg) (xs (nI n + 3).toNatClampNeg) kd_251 σ1 q2) ⟨Nat.le_of_ble_eq_true rfl, Nat.le_of_ble_eq_true rfl⟩ (ci := 12) kd_251 (by decide) (cob_12 _ _ _) rfl rfl hl.1 rfl (Nat.le_of_ble_eq_true rfl) dL_law_1035 hcl) (fun H locs hH => ?_)
  refine W.lcmp hx hb dL_law_1038 ?_
  refine lv_if_eq (tgt := 1281) hx hb dL_law_1039 (by decide) (fun _ => ?_) (fun c1 => absurd (lg_cmp_self r) c1)
  exact kk _ _ _ _ hI hH hl
set_option maxRecDepth 100000 in
set_option maxHeartbeats 4000000 in
theorem lw_case27 (hL : L ≤ 3072) (C0 : Cx E p m c code 4 s #[Value.ref b] RL meth (some .boolean)) (hX : va_X b L xs s s.heap) (hbl : b < s.heap.size) (hbA : ¬ eA E b) (hcl : cells ≤ room_1.cells ∧ slots ≤ room_1.slots) {n : Nat} (hn : n + 6 ≤ L) {σ : Mem} {H : Heap} {locs : List Loc} {ls : Array Slot} (hH : Hs E s σ H locs) (hl : lv_has ls 4 [(3, .int (nI n)), (0, .ref b), (1, .ref (ea E 0)), (2, .ref (ea E 251))]) (hOp : Op27 Inv σ) (kk : (∀ (σ : Mem) (H : Heap) (locs : List Loc) (ls : Array Slot), Inv σ → Hs E s σ H locs → lv_has ls 4 [(3, .int (nI n)), (0, .ref b), (1, .ref (ea E 0)), (2, .ref (ea E 251))] → W p l e room_1 s m #[Value.ref b] below meth c H locs cells slots Q (F0 m 1281 ls []))) : W p l e room_1 s m #[Value.ref b] below meth c H locs cells slots Q (F0 m 1044 ls []) := by
  obtain ⟨⟨hx, hb, hml, hown, hts⟩, hr, hlocks, hF, hAd⟩ := id C0
  obtain ⟨r, σ1, σ2, q1, q2, hI⟩ := hOp (xs (nI n + 1).toNatClampNeg) (xs (nI n + 2).toNatClampNeg) (xs (nI n + 3).toNatClampNeg)
  refine lv_aload_n hx hb dL_law_1044 rfl (lv_at hl 2 rfl) ?_
  refine lv_aload_n hx hb dL_law_1045 rfl (lv_at hl 1 rfl) ?_
  refine lv_iload_n hx hb dL_law_1046 rfl (lv_at hl 0 rfl) ?_
  refine lv_iconst (v := 1) hx hb dL_law_1047 (by decide) ?_
  refine lv_iadd hx hb dL_law_1048 ?_
  refine va_sld hx hb hX hbl hbA hH.2 (lw_in (j := 1) hn hL (by decide)) dL_law_1049 ?_
  refine lv_aload_n hx hb dL_law_1050 rfl (lv_at hl 1 rfl) ?_
  refine lv_iload_n hx hb dL_law_1051 rfl (lv_at hl 0 rfl) ?_
  refine lv_iconst (v := 2) hx hb dL_law_1052 (by decide) ?_
  refine lv_iadd hx hb dL_law_1053 ?_
  refine va_sld hx hb hX hbl hbA hH.2 (lw_in (j := 2) hn hL (by decide)) dL_law_1054 ?_
  refine lv_aload_n hx hb dL_law_1055 rfl (lv_at hl 1 rfl) ?_
  refine lv_iload_n hx hb dL_law_1056 rfl (lv_at hl 0 rfl) ?_
  refine lv_iconst (v := 3) hx hb dL_law_1057 (by decide) ?_
  refine lv_iadd hx hb dL_law_1058 ?_
  refine va_sld hx hb hX hbl hbA hH.2 (lw_in (j := 3) hn hL (by decide)) dL_law_1059 ?_
  refine go_iL hH (va_run_VL (As := [.int (xs (nI n + 1).toNatClampNeg), .int (xs (nI n + 2).toNatClampNeg), .int (xs (nI n + 3).toNatClampNeg)]) (rest := []) C0 hH lk_L_127 (c_X11_drawn hAd 0 (xs (nI n + 1).toNatClampNeg) (xs (nI n + 2).toNatClampNeg) (xs (nI n + 3).toNatClampNeg) kd_0 σ q1) ⟨Nat.le_of_ble_eq_true rfl, Nat.le_of_ble_eq_true rfl⟩ (ci := 11) kd_0 (by decide) (cob_11 _ _ _) rfl rfl hl.1 rfl (Nat.le_of_ble_eq_true rfl) dL_law_1060 hcl) (fun H locs hH => ?_)
  refine lv_aload_n hx hb dL_law_1063 rfl (lv_at hl 3 rfl) ?_
  refine lv_aload_n hx hb dL_law_1064 rfl (lv_at hl 1 rfl) ?_
  refine lv_iload_n hx hb dL_law_1065 rfl (lv_at hl 0 rfl) ?_
  refine lv_iconst (v := 1) hx hb dL_law_1066 (by decide) ?_
  refine lv_iadd hx hb dL_law_1067 ?_
  refine va_sld hx hb hX hbl hbA hH.2 (lw_in (j := 1) hn hL (by decide)) dL_law_1068 ?_
  refine lv_aload_n hx hb dL_law_1069 rfl (lv_at hl 1 rfl) ?_
  refine lv_iload_n hx hb dL_law_1070 rfl (lv_at hl 0 rfl) ?_
  refine lv_iconst (v := 2) hx hb dL_law_1071 (by decide) ?_
  refine lv_iadd hx hb dL_law_1072 ?_
  refine va_sld hx hb hX hbl hbA hH.2 (lw_in (j := 2) hn hL (by decide)) dL_law_1073 ?_
  refine lv_aload_n hx hb dL_law_1074 rfl (lv_at hl 1 rfl) ?_
  refine lv_iload_n hx hb dL_law_1075 rfl (lv_at hl 0 rfl) ?_
  refine lv_iconst (v := 3) hx hb dL_law_1076 (by decide) ?_
  refine lv_iadd hx hb dL_law_1077 ?_
  refine va_sld hx hb hX hbl hbA hH.2 (lw_in (j := 3) hn hL (by decide)) dL_law_1078 ?_
  refine go_iL hH (va_run_VL (As := [.int (xs (nI n + 1).toNatClampNeg), .int (xs (nI n + 2).toNatClampNeg), .int (xs (nI n + 3).toNatClampNeg)]) (rest := [.int r]) C0 hH lk_L_130 (c_X12_drawn hAd 251 (xs (nI n + 1).toNatClampNeg) (xs (nI n + 2).toNatClampNeg) (xs (nI n + 3).toNatClampNeg) kd_251 σ1 q2) ⟨Nat.le_of_ble_eq_true rfl, Nat.le_of_ble_eq_true rfl⟩ (ci := 12) kd_251 (by decide) (cob_12 _ _ _) rfl rfl hl.1 rfl (Nat.le_of_ble_eq_true rfl) dL_law_1079 hcl) (fun H locs hH => ?_)
  refine lv_icmp_eq (tgt := 1281) hx hb dL_law_1082 (by decide) (fun _ => ?_) (fun c1 => absurd rfl c1)
  exact kk _ _ _ _ hI hH hl
set_option maxRecDepth 100000 in
set_option maxHeartbeats 4000000 in
theorem lw_case28 (hL : L ≤ 3072) (C0 : Cx E p m c code 4 s #[Value.ref b] RL meth (some .boolean)) (hX : va_X b L xs s s.heap) (hbl : b < s.heap.size) (hbA : ¬ eA E b) (hcl : cells ≤ room_1.cells ∧ slots ≤ room_1.slots) {n : Nat} (hn : n + 6 ≤ L) {σ : Mem} {H : Heap} {locs : List Loc} {ls : Array Slot} (hH : Hs E s σ H locs) (hl : lv_has ls 4 [(3, .int (nI n)), (0, .ref b), (1, .ref (ea E 0)), (2, .ref (ea E 251))]) (hOp : Op28 Inv σ) (kk : (∀ (σ : Mem) (H : Heap) (locs : List Loc) (ls : Array Slot), Inv σ → Hs E s σ H locs → lv_has ls 4 [(3, .int (nI n)), (0, .ref b), (1, .ref (ea E 0)), (2, .ref (ea E 251))] → W p l e room_1 s m #[Value.ref b] below meth c H locs cells slots Q (F0 m 1281 ls []))) : W p l e room_1 s m #[Value.ref b] below meth c H locs cells slots Q (F0 m 1087 ls []) := by
  obtain ⟨⟨hx, hb, hml, hown, hts⟩, hr, hlocks, hF, hAd⟩ := id C0
  obtain ⟨r, σ1, σ2, q1, q2, hI⟩ := hOp (xs (nI n + 1).toNatClampNeg)
  refine lv_aload_n hx hb dL_law_1087 rfl (lv_at hl 2 rfl) ?_
  refine lv_aload_n hx hb dL_law_1088 rfl (lv_at hl 1 rfl) ?_
  refine lv_iload_n hx hb dL_law_1089 rfl (lv_at hl 0 rfl) ?_
  refine lv_iconst (v := 1) hx hb dL_law_1090 (by decide) ?_
  refine lv_iadd hx hb dL_law_1091 ?_
  refine va_sld hx hb hX hbl hbA hH.2 (lw_in (j := 1) hn hL (by decide)) dL_law_1092 ?_
  refine go_iL hH (va_run_VL (As := [.int (xs (nI n + 1).toNatClampNeg)]) (rest := []) C0 hH lk_L_131 (c_X11_image hAd 0 (xs (nI n + 1).toNatClampNeg) kd_0 σ q1) ⟨Nat.le_of_ble_eq_true rfl, Nat.le_of_ble_eq_true rfl⟩ (ci := 11) kd_0 (by decide) (cob_11 _ _ _) rfl rfl hl.1 rfl (Nat.le_of_ble_eq_true rfl) dL_law_1093 hcl) (fun H locs hH => ?_)
  refine lv_aload_n hx hb dL_law_1096 rfl (lv_at hl 3 rfl) ?_
  refine lv_aload_n hx hb dL_law_1097 rfl (lv_at hl 1 rfl) ?_
  refine lv_iload_n hx hb dL_law_1098 rfl (lv_at hl 0 rfl) ?_
  refine lv_iconst (v := 1) hx hb dL_law_1099 (by decide) ?_
  refine lv_iadd hx hb dL_law_1100 ?_
  refine va_sld hx hb hX hbl hbA hH.2 (lw_in (j := 1) hn hL (by decide)) dL_law_1101 ?_
  refine go_iL hH (va_run_VL (As := [.int (xs (nI n + 1).toNatClampNeg)]) (rest := [.int r]) C0 hH lk_L_134 (c_X12_image hAd 251 (xs (nI n + 1).toNatClampNeg) kd_251 σ1 q2) ⟨Nat.le_of_ble_eq_true rfl, Nat.le_of_ble_eq_true rfl⟩ (ci := 12) kd_251 (by decide) (cob_12 _ _ _) rfl rfl hl.1 rfl (Nat.le_of_ble_eq_true rfl) dL_law_1102 hcl) (fun H locs hH => ?_)
  refine lv_icmp_eq (tgt := 1281) hx hb dL_law_1105 (by decide) (fun _ => ?_) (fun c1 => absurd rfl c1)
  exact kk _ _ _ _ hI hH hl
set_option maxRecDepth 100000 in
set_option maxHeartbeats 4000000 in
theorem lw_case29 (hL : L ≤ 3072) (C0 : Cx E p m c code 4 s #[Value.ref b] RL meth (some .boolean)) (hX : va_X b L xs s s.heap) (hbl : b < s.heap.size) (hbA : ¬ eA E b) (hcl : cells ≤ room_1.cells ∧ slots ≤ room_1.slots) {n : Nat} (hn : n + 6 ≤ L) {σ : Mem} {H : Heap} {locs : List Loc} {ls : Array Slot} (hH : Hs E s σ H locs) (hl : lv_has ls 4 [(3, .int (nI n)), (0, .ref b), (1, .ref (ea E 0)), (2, .ref (ea E 251))]) (hOp : Op29 Inv σ) (kk : (∀ (σ : Mem) (H : Heap) (locs : List Loc) (ls : Array Slot), Inv σ → Hs E s σ H locs → lv_has ls 4 [(3, .int (nI n)), (0, .ref b), (1, .ref (ea E 0)), (2, .ref (ea E 251))] → W p l e room_1 s m #[Value.ref b] below meth c H locs cells slots Q (F0 m 1281 ls []))) : W p l e room_1 s m #[Value.ref b] below meth c H locs cells slots Q (F0 m 1110 ls []) := by
  obtain ⟨⟨hx, hb, hml, hown, hts⟩, hr, hlocks, hF, hAd⟩ := id C0
  obtain ⟨r, σ1, σ2, q1, q2, hI⟩ := hOp (xs (nI n + 1).toNatClampNeg)
  refine lv_aload_n hx hb dL_law_1110 rfl (lv_at hl 2 rfl) ?_
  refine lv_aload_n hx hb dL_law_1111 rfl (lv_at hl 1 rfl) ?_
  refine lv_iload_n hx hb dL_law_1112 rfl (lv_at hl 0 rfl) ?_
  refine lv_iconst (v := 1) hx hb dL_law_1113 (by decide) ?_
  refine lv_iadd hx hb dL_law_1114 ?_
  refine va_sld hx hb hX hbl hbA hH.2 (lw_in (j := 1) hn hL (by decide)) dL_law_1115 ?_
  refine go_iL hH (va_run_VL (As := [.int (xs (nI n + 1).toNatClampNeg)]) (rest := []) C0 hH lk_L_135 (c_X11_restore hAd 0 (xs (nI n + 1).toNatClampNeg) kd_0 σ q1) ⟨Nat.le_of_ble_eq_true rfl, Nat.le_of_ble_eq_true rfl⟩ (ci := 11) kd_0 (by decide) (cob_11 _ _ _) rfl rfl hl.1 rfl (Nat.le_of_ble_eq_true rfl) dL_law_1116 hcl) (fun H locs hH => ?_)
  refine lv_aload_n hx hb dL_law_1119 rfl (lv_at hl 3 rfl) ?_
  refine lv_aload_n hx hb dL_law_1120 rfl (lv_at hl 1 rfl) ?_
  refine lv_iload_n hx hb dL_law_1121 rfl (lv_at hl 0 rfl) ?_
  refine lv_iconst (v := 1) hx hb dL_law_1122 (by decide) ?_
  refine lv_iadd hx hb dL_law_1123 ?_
  refine va_sld hx hb hX hbl hbA hH.2 (lw_in (j := 1) hn hL (by decide)) dL_law_1124 ?_
  refine go_iL hH (va_run_VL (As := [.int (xs (nI n + 1).toNatClampNeg)]) (rest := [.int r]) C0 hH lk_L_138 (c_X12_restore hAd 251 (xs (nI n + 1).toNatClampNeg) kd_251 σ1 q2) ⟨Nat.le_of_ble_eq_true rfl, Nat.le_of_ble_eq_true rfl⟩ (ci := 12) kd_251 (by decide) (cob_12 _ _ _) rfl rfl hl.1 rfl (Nat.le_of_ble_eq_true rfl) dL_law_1125 hcl) (fun H locs hH => ?_)
  refine lv_icmp_eq (tgt := 1281) hx hb dL_law_1128 (by decide) (fun _ => ?_) (fun c1 => absurd rfl c1)
  exact kk _ _ _ _ hI hH hl
set_option maxRecDepth 100000 in
set_option maxHeartbeats 4000000 in
theorem lw_case30 (hL : L ≤ 3072) (C0 : Cx E p m c code 4 s #[Value.ref b] RL meth (some .boolean)) (hX : va_X b L xs s s.heap) (hbl : b < s.heap.size) (hbA : ¬ eA E b) (hcl : cells ≤ room_1.cells ∧ slots ≤ room_1.slots) {n : Nat} (hn : n + 6 ≤ L) {σ : Mem} {H : Heap} {locs : List Loc} {ls : Array Slot} (hH : Hs E s σ H locs) (hl : lv_has ls 4 [(3, .int (nI n)), (0, .ref b), (1, .ref (ea E 0)), (2, .ref (ea E 251))]) (hOp : Op30 Inv σ) (kk : (∀ (σ : Mem) (H : Heap) (locs : List Loc) (ls : Array Slot), Inv σ → Hs E s σ H locs → lv_has ls 4 [(3, .int (nI n)), (0, .ref b), (1, .ref (ea E 0)), (2, .ref (ea E 251))] → W p l e room_1 s m #[Value.ref b] below meth c H locs cells slots Q (F0 m 1281 ls []))) : W p l e room_1 s m #[Value.ref b] below meth c H locs cells slots Q (F0 m 1133 ls []) := by
  obtain ⟨⟨hx, hb, hml, hown, hts⟩, hr, hlocks, hF, hAd⟩ := id C0
  obtain ⟨r, q1, q2, hI⟩ := hOp (xs (nI n + 1).toNatClampNeg)
  refine lv_aload_n hx hb dL_law_1133 rfl (lv_at hl 2 rfl) ?_
  refine lv_aload_n hx hb dL_law_1134 rfl (lv_at hl 1 rfl) ?_
  refine lv_iload_n hx hb dL_law_1135 rfl (lv_at hl 0 rfl) ?_
  refine lv_iconst (v := 1) hx hb dL_law_1136 (by decide) ?_
  refine lv_iadd hx hb dL_law_1137 ?_
  refine va_sld hx hb hX hbl hbA hH.2 (lw_in (j := 1) hn hL (by decide)) dL_law_1138 ?_
  refine go_iL hH (va_run_VL (As := [.int (xs (nI n + 1).toNatClampNeg)]) (rest := []) C0 hH lk_L_139 (c_X11_kind hAd 0 (xs (nI n + 1).toNatClampNeg) kd_0 σ q1) ⟨Nat.le_of_ble_eq_true rfl, Nat.le_of_ble_eq_true rfl⟩ (ci := 11) kd_0 (by decide) (cob_11 _ _ _) rfl rfl hl.1 rfl (Nat.le_of_ble_eq_true rfl) dL_law_1139 hcl) (fun H locs hH => ?_)
  refine lv_aload_n hx hb dL_law_1142 rfl (lv_at hl 3 rfl) ?_
  refine lv_aload_n hx hb dL_law_1143 rfl (lv_at hl 1 rfl) ?_
  refine lv_iload_n hx hb dL_law_1144 rfl (lv_at hl 0 rfl) ?_
  refine lv_iconst (v := 1) hx hb dL_law_1145 (by decide) ?_
  refine lv_iadd hx hb dL_law_1146 ?_
  refine va_sld hx hb hX hbl hbA hH.2 (lw_in (j := 1) hn hL (by decide)) dL_law_1147 ?_
  refine go_iL hH (va_run_VL (As := [.int (xs (nI n + 1).toNatClampNeg)]) (rest := [.int r]) C0 hH lk_L_142 (c_X12_kind hAd 251 (xs (nI n + 1).toNatClampNeg) kd_251 σ q2) ⟨Nat.le_of_ble_eq_true rfl, Nat.le_of_ble_eq_true rfl⟩ (ci := 12) kd_251 (by decide) (cob_12 _ _ _) rfl rfl hl.1 rfl (Nat.le_of_ble_eq_true rfl) dL_law_1148 hcl) (fun H locs hH => ?_)
  refine lv_icmp_eq (tgt := 1281) hx hb dL_law_1151 (by decide) (fun _ => ?_) (fun c1 => absurd rfl c1)
  exact kk _ _ _ _ hI hH hl
set_option maxRecDepth 100000 in
set_option maxHeartbeats 4000000 in
theorem lw_case31 (hL : L ≤ 3072) (C0 : Cx E p m c code 4 s #[Value.ref b] RL meth (some .boolean)) (hX : va_X b L xs s s.heap) (hbl : b < s.heap.size) (hbA : ¬ eA E b) (hcl : cells ≤ room_1.cells ∧ slots ≤ room_1.slots) {n : Nat} (hn : n + 6 ≤ L) {σ : Mem} {H : Heap} {locs : List Loc} {ls : Array Slot} (hH : Hs E s σ H locs) (hl : lv_has ls 4 [(3, .int (nI n)), (0, .ref b), (1, .ref (ea E 0)), (2, .ref (ea E 251))]) (hOp : Op31 Inv σ) (kk : (∀ (σ : Mem) (H : Heap) (locs : List Loc) (ls : Array Slot), Inv σ → Hs E s σ H locs → lv_has ls 4 [(3, .int (nI n)), (0, .ref b), (1, .ref (ea E 0)), (2, .ref (ea E 251))] → W p l e room_1 s m #[Value.ref b] below meth c H locs cells slots Q (F0 m 1281 ls []))) : W p l e room_1 s m #[Value.ref b] below meth c H locs cells slots Q (F0 m 1156 ls []) := by
  obtain ⟨⟨hx, hb, hml, hown, hts⟩, hr, hlocks, hF, hAd⟩ := id C0
  obtain ⟨r, σ1, σ2, q1, q2, hI⟩ := hOp (xs (nI n + 1).toNatClampNeg) (xs (nI n + 2).toNatClampNeg)
  refine lv_aload_n hx hb dL_law_1156 rfl (lv_at hl 2 rfl) ?_
  refine lv_aload_n hx hb dL_law_1157 rfl (lv_at hl 1 rfl) ?_
  refine lv_iload_n hx hb dL_law_1158 rfl (lv_at hl 0 rfl) ?_
  refine lv_iconst (v := 1) hx hb dL_law_1159 (by decide) ?_
  refine lv_iadd hx hb dL_law_1160 ?_
  refine va_sld hx hb hX hbl hbA hH.2 (lw_in (j := 1) hn hL (by decide)) dL_law_1161 ?_
  refine lv_aload_n hx hb dL_law_1162 rfl (lv_at hl 1 rfl) ?_
  refine lv_iload_n hx hb dL_law_1163 rfl (lv_at hl 0 rfl) ?_
  refine lv_iconst (v := 2) hx hb dL_law_1164 (by decide) ?_
  refine lv_iadd hx hb dL_law_1165 ?_
  refine va_sld hx hb hX hbl hbA hH.2 (lw_in (j := 2) hn hL (by decide)) dL_law_1166 ?_
  refine go_iL hH (va_run_VL (As := [.int (xs (nI n + 1).toNatClampNeg), .int (xs (nI n + 2).toNatClampNeg)]) (rest := []) C0 hH lk_L_143 (c_X11_as hAd 0 (xs (nI n + 1).toNatClampNeg) (xs (nI n + 2).toNatClampNeg) kd_0 σ q1) ⟨Nat.le_of_ble_eq_true rfl, Nat.le_of_ble_eq_true rfl⟩ (ci := 11) kd_0 (by decide) (cob_11 _ _ _) rfl rfl hl.1 rfl (Nat.le_of_ble_eq_true rfl) dL_law_1167 hcl) (fun H locs hH => ?_)
  refine lv_aload_n hx hb dL_law_1170 rfl (lv_at hl 3 rfl) ?_
  refine lv_aload_n hx hb dL_law_1171 rfl (lv_at hl 1 rfl) ?_
  refine lv_iload_n hx hb dL_law_1172 rfl (lv_at hl 0 rfl) ?_
  refine lv_iconst (v := 1) hx hb dL_law_1173 (by decide) ?_
  refine lv_iadd hx hb dL_law_1174 ?_
  refine va_sld hx hb hX hbl hbA hH.2 (lw_in (j := 1) hn hL (by decide)) dL_law_1175 ?_
  refine lv_aload_n hx hb dL_law_1176 rfl (lv_at hl 1 rfl) ?_
  refine lv_iload_n hx hb dL_law_1177 rfl (lv_at hl 0 rfl) ?_
  refine lv_iconst (v := 2) hx hb dL_law_1178 (by decide) ?_
  refine lv_iadd hx hb dL_law_1179 ?_
  refine va_sld hx hb hX hbl hbA hH.2 (lw_in (j := 2) hn hL (by decide)) dL_law_1180 ?_
  refine go_iL hH (va_run_VL (As := [.int (xs (nI n + 1).toNatClampNeg), .int (xs (nI n + 2).toNatClampNeg)]) (rest := [.int r]) C0 hH lk_L_146 (c_X12_as hAd 251 (xs (nI n + 1).toNatClampNeg) (xs (nI n + 2).toNatClampNeg) kd_251 σ1 q2) ⟨Nat.le_of_ble_eq_true rfl, Nat.le_of_ble_eq_true rfl⟩ (ci := 12) kd_251 (by decide) (cob_12 _ _ _) rfl rfl hl.1 rfl (Nat.le_of_ble_eq_true rfl) dL_law_1181 hcl) (fun H locs hH => ?_)
  refine lv_icmp_eq (tgt := 1281) hx hb dL_law_1184 (by decide) (fun _ => ?_) (fun c1 => absurd rfl c1)
  exact kk _ _ _ _ hI hH hl
set_option maxRecDepth 100000 in
set_option maxHeartbeats 4000000 in
theorem lw_case32 (hL : L ≤ 3072) (C0 : Cx E p m c code 4 s #[Value.ref b] RL meth (some .boolean)) (hX : va_X b L xs s s.heap) (hbl : b < s.heap.size) (hbA : ¬ eA E b) (hcl : cells ≤ room_1.cells ∧ slots ≤ room_1.slots) {n : Nat} (hn : n + 6 ≤ L) {σ : Mem} {H : Heap} {locs : List Loc} {ls : Array Slot} (hH : Hs E s σ H locs) (hl : lv_has ls 4 [(3, .int (nI n)), (0, .ref b), (1, .ref (ea E 0)), (2, .ref (ea E 251))]) (hOp : Op32 Inv σ) (kk : (∀ (σ : Mem) (H : Heap) (locs : List Loc) (ls : Array Slot), Inv σ → Hs E s σ H locs → lv_has ls 4 [(3, .int (nI n)), (0, .ref b), (1, .ref (ea E 0)), (2, .ref (ea E 251))] → W p l e room_1 s m #[Value.ref b] below meth c H locs cells slots Q (F0 m 1281 ls []))) : W p l e room_1 s m #[Value.ref b] below meth c H locs cells slots Q (F0 m 1189 ls []) := by
  obtain ⟨⟨hx, hb, hml, hown, hts⟩, hr, hlocks, hF, hAd⟩ := id C0
  obtain ⟨r, σ1, σ2, q1, q2, hI⟩ := hOp (xs (nI n + 1).toNatClampNeg) (xs (nI n + 2).toNatClampNeg)
  refine lv_aload_n hx hb dL_law_1189 rfl (lv_at hl 2 rfl) ?_
  refine lv_aload_n hx hb dL_law_1190 rfl (lv_at hl 1 rfl) ?_
  refine lv_iload_n hx hb dL_law_1191 rfl (lv_at hl 0 rfl) ?_
  refine lv_iconst (v := 1) hx hb dL_law_1192 (by decide) ?_
  refine lv_iadd hx hb dL_law_1193 ?_
  refine va_sld hx hb hX hbl hbA hH.2 (lw_in (j := 1) hn hL (by decide)) dL_law_1194 ?_
  refine lv_aload_n hx hb dL_law_1195 rfl (lv_at hl 1 rfl) ?_
  refine lv_iload_n hx hb dL_law_1196 rfl (lv_at hl 0 rfl) ?_
  refine lv_iconst (v := 2) hx hb dL_law_1197 (by decide) ?_
  refine lv_iadd hx hb dL_law_1198 ?_
  refine va_sld hx hb hX hbl hbA hH.2 (lw_in (j := 2) hn hL (by decide)) dL_law_1199 ?_
  refine go_iL hH (va_run_VL (As := [.int (xs (nI n + 1).toNatClampNeg), .int (xs (nI n + 2).toNatClampNeg)]) (rest := []) C0 hH lk_L_147 (c_X11_ask hAd 0 (xs (nI n + 1).toNatClampNeg) (xs (nI n + 2).toNatClampNeg) kd_0 σ q1) ⟨Nat.le_of_ble_eq_true rfl, Nat.le_of_ble_eq_true rfl⟩ (ci := 11) kd_0 (by decide) (cob_11 _ _ _) rfl rfl hl.1 rfl (Nat.le_of_ble_eq_true rfl) dL_law_1200 hcl) (fun H locs hH => ?_)
  refine lv_aload_n hx hb dL_law_1203 rfl (lv_at hl 3 rfl) ?_
  refine lv_aload_n hx hb dL_law_1204 rfl (lv_at hl 1 rfl) ?_
  refine lv_iload_n hx hb dL_law_1205 rfl (lv_at hl 0 rfl) ?_
  refine lv_iconst (v := 1) hx hb dL_law_1206 (by decide) ?_
  refine lv_iadd hx hb dL_law_1207 ?_
  refine va_sld hx hb hX hbl hbA hH.2 (lw_in (j := 1) hn hL (by decide)) dL_law_1208 ?_
  refine lv_aload_n hx hb dL_law_1209 rfl (lv_at hl 1 rfl) ?_
  refine lv_iload_n hx hb dL_law_1210 rfl (lv_at hl 0 rfl) ?_
  refine lv_iconst (v := 2) hx hb dL_law_1211 (by decide) ?_
  refine lv_iadd hx hb dL_law_1212 ?_
  refine va_sld hx hb hX hbl hbA hH.2 (lw_in (j := 2) hn hL (by decide)) dL_law_1213 ?_
  refine go_iL hH (va_run_VL (As := [.int (xs (nI n + 1).toNatClampNeg), .int (xs (nI n + 2).toNatClampNeg)]) (rest := [.int r]) C0 hH lk_L_150 (c_X12_ask hAd 251 (xs (nI n + 1).toNatClampNeg) (xs (nI n + 2).toNatClampNeg) kd_251 σ1 q2) ⟨Nat.le_of_ble_eq_true rfl, Nat.le_of_ble_eq_true rfl⟩ (ci := 12) kd_251 (by decide) (cob_12 _ _ _) rfl rfl hl.1 rfl (Nat.le_of_ble_eq_true rfl) dL_law_1214 hcl) (fun H locs hH => ?_)
  refine lv_icmp_eq (tgt := 1281) hx hb dL_law_1217 (by decide) (fun _ => ?_) (fun c1 => absurd rfl c1)
  exact kk _ _ _ _ hI hH hl
set_option maxRecDepth 100000 in
set_option maxHeartbeats 4000000 in
theorem lw_case33 (hL : L ≤ 3072) (C0 : Cx E p m c code 4 s #[Value.ref b] RL meth (some .boolean)) (hX : va_X b L xs s s.heap) (hbl : b < s.heap.size) (hbA : ¬ eA E b) (hcl : cells ≤ room_1.cells ∧ slots ≤ room_1.slots) {n : Nat} (hn : n + 6 ≤ L) {σ : Mem} {H : Heap} {locs : List Loc} {ls : Array Slot} (hH : Hs E s σ H locs) (hl : lv_has ls 4 [(3, .int (nI n)), (0, .ref b), (1, .ref (ea E 0)), (2, .ref (ea E 251))]) (hOp : Op33 Inv σ) (kk : (∀ (σ : Mem) (H : Heap) (locs : List Loc) (ls : Array Slot), Inv σ → Hs E s σ H locs → lv_has ls 4 [(3, .int (nI n)), (0, .ref b), (1, .ref (ea E 0)), (2, .ref (ea E 251))] → W p l e room_1 s m #[Value.ref b] below meth c H locs cells slots Q (F0 m 1281 ls []))) : W p l e room_1 s m #[Value.ref b] below meth c H locs cells slots Q (F0 m 1222 ls []) := by
  obtain ⟨⟨hx, hb, hml, hown, hts⟩, hr, hlocks, hF, hAd⟩ := id C0
  obtain ⟨r, q1, q2, hI⟩ := hOp (xs (nI n + 1).toNatClampNeg)
  refine lv_aload_n hx hb dL_law_1222 rfl (lv_at hl 2 rfl) ?_
  refine lv_aload_n hx hb dL_law_1223 rfl (lv_at hl 1 rfl) ?_
  refine lv_iload_n hx hb dL_law_1224 rfl (lv_at hl 0 rfl) ?_
  refine lv_iconst (v := 1) hx hb dL_law_1225 (by decide) ?_
  refine lv_iadd hx hb dL_law_1226 ?_
  refine va_sld hx hb hX hbl hbA hH.2 (lw_in (j := 1) hn hL (by decide)) dL_law_1227 ?_
  refine go_iL hH (va_run_VL (As := [.int (xs (nI n + 1).toNatClampNeg)]) (rest := []) C0 hH lk_L_151 (c_X11_trace hAd 0 (xs (nI n + 1).toNatClampNeg) kd_0 σ q1) ⟨Nat.le_of_ble_eq_true rfl, Nat.le_of_ble_eq_true rfl⟩ (ci := 11) kd_0 (by decide) (cob_11 _ _ _) rfl rfl hl.1 rfl (Nat.le_of_ble_eq_true rfl) dL_law_1228 hcl) (fun H locs hH => ?_)
  refine lv_aload_n hx hb dL_law_1231 rfl (lv_at hl 3 rfl) ?_
  refine lv_aload_n hx hb dL_law_1232 rfl (lv_at hl 1 rfl) ?_
  refine lv_iload_n hx hb dL_law_1233 rfl (lv_at hl 0 rfl) ?_
  refine lv_iconst (v := 1) hx hb dL_law_1234 (by decide) ?_
  refine lv_iadd hx hb dL_law_1235 ?_
  refine va_sld hx hb hX hbl hbA hH.2 (lw_in (j := 1) hn hL (by decide)) dL_law_1236 ?_
  refine go_iL hH (va_run_VL (As := [.int (xs (nI n + 1).toNatClampNeg)]) (rest := [.int r]) C0 hH lk_L_154 (c_X12_trace hAd 251 (xs (nI n + 1).toNatClampNeg) kd_251 σ q2) ⟨Nat.le_of_ble_eq_true rfl, Nat.le_of_ble_eq_true rfl⟩ (ci := 12) kd_251 (by decide) (cob_12 _ _ _) rfl rfl hl.1 rfl (Nat.le_of_ble_eq_true rfl) dL_law_1237 hcl) (fun H locs hH => ?_)
  refine lv_icmp_eq (tgt := 1281) hx hb dL_law_1240 (by decide) (fun _ => ?_) (fun c1 => absurd rfl c1)
  exact kk _ _ _ _ hI hH hl
set_option maxRecDepth 100000 in
set_option maxHeartbeats 4000000 in
theorem lw_case34 (hL : L ≤ 3072) (C0 : Cx E p m c code 4 s #[Value.ref b] RL meth (some .boolean)) (hX : va_X b L xs s s.heap) (hbl : b < s.heap.size) (hbA : ¬ eA E b) (hcl : cells ≤ room_1.cells ∧ slots ≤ room_1.slots) {n : Nat} (hn : n + 6 ≤ L) {σ : Mem} {H : Heap} {locs : List Loc} {ls : Array Slot} (hH : Hs E s σ H locs) (hl : lv_has ls 4 [(3, .int (nI n)), (0, .ref b), (1, .ref (ea E 0)), (2, .ref (ea E 251))]) (hOp : Op34 Inv σ) (kk : (∀ (σ : Mem) (H : Heap) (locs : List Loc) (ls : Array Slot), Inv σ → Hs E s σ H locs → lv_has ls 4 [(3, .int (nI n)), (0, .ref b), (1, .ref (ea E 0)), (2, .ref (ea E 251))] → W p l e room_1 s m #[Value.ref b] below meth c H locs cells slots Q (F0 m 1281 ls []))) : W p l e room_1 s m #[Value.ref b] below meth c H locs cells slots Q (F0 m 1245 ls []) := by
  obtain ⟨⟨hx, hb, hml, hown, hts⟩, hr, hlocks, hF, hAd⟩ := id C0
  obtain ⟨r, q1, q2, hI⟩ := hOp (xs (nI n + 1).toNatClampNeg)
  refine lv_aload_n hx hb dL_law_1245 rfl (lv_at hl 2 rfl) ?_
  refine lv_aload_n hx hb dL_law_1246 rfl (lv_at hl 1 rfl) ?_
  refine lv_iload_n hx hb dL_law_1247 rfl (lv_at hl 0 rfl) ?_
  refine lv_iconst (v := 1) hx hb dL_law_1248 (by decide) ?_
  refine lv_iadd hx hb dL_law_1249 ?_
  refine va_sld hx hb hX hbl hbA hH.2 (lw_in (j := 1) hn hL (by decide)) dL_law_1250 ?_
  refine go_iL hH (va_run_VL (As := [.int (xs (nI n + 1).toNatClampNeg)]) (rest := []) C0 hH lk_L_155 (c_X11_count hAd 0 (xs (nI n + 1).toNatClampNeg) kd_0 σ q1) ⟨Nat.le_of_ble_eq_true rfl, Nat.le_of_ble_eq_true rfl⟩ (ci := 11) kd_0 (by decide) (cob_11 _ _ _) rfl rfl hl.1 rfl (Nat.le_of_ble_eq_true rfl) dL_law_1251 hcl) (fun H locs hH => ?_)
  refine lv_aload_n hx hb dL_law_1254 rfl (lv_at hl 3 rfl) ?_
  refine lv_aload_n hx hb dL_law_1255 rfl (lv_at hl 1 rfl) ?_
  refine lv_iload_n hx hb dL_law_1256 rfl (lv_at hl 0 rfl) ?_
  refine lv_iconst (v := 1) hx hb dL_law_1257 (by decide) ?_
  refine lv_iadd hx hb dL_law_1258 ?_
  refine va_sld hx hb hX hbl hbA hH.2 (lw_in (j := 1) hn hL (by decide)) dL_law_1259 ?_
  refine go_iL hH (va_run_VL (As := [.int (xs (nI n + 1).toNatClampNeg)]) (rest := [.int r]) C0 hH lk_L_158 (c_X12_count hAd 251 (xs (nI n + 1).toNatClampNeg) kd_251 σ q2) ⟨Nat.le_of_ble_eq_true rfl, Nat.le_of_ble_eq_true rfl⟩ (ci := 12) kd_251 (by decide) (cob_12 _ _ _) rfl rfl hl.1 rfl (Nat.le_of_ble_eq_true rfl) dL_law_1260 hcl) (fun H locs hH => ?_)
  refine lv_icmp_eq (tgt := 1281) hx hb dL_law_1263 (by decide) (fun _ => ?_) (fun c1 => absurd rfl c1)
  exact kk _ _ _ _ hI hH hl
set_option maxRecDepth 100000 in
set_option maxHeartbeats 4000000 in
theorem lw_case35 (hL : L ≤ 3072) (C0 : Cx E p m c code 4 s #[Value.ref b] RL meth (some .boolean)) (hX : va_X b L xs s s.heap) (hbl : b < s.heap.size) (hbA : ¬ eA E b) (hcl : cells ≤ room_1.cells ∧ slots ≤ room_1.slots) {n : Nat} (hn : n + 6 ≤ L) {σ : Mem} {H : Heap} {locs : List Loc} {ls : Array Slot} (hH : Hs E s σ H locs) (hl : lv_has ls 4 [(3, .int (nI n)), (0, .ref b), (1, .ref (ea E 0)), (2, .ref (ea E 251))]) (hOp : Op35 Inv σ) (kk : (∀ (σ : Mem) (H : Heap) (locs : List Loc) (ls : Array Slot), Inv σ → Hs E s σ H locs → lv_has ls 4 [(3, .int (nI n)), (0, .ref b), (1, .ref (ea E 0)), (2, .ref (ea E 251))] → W p l e room_1 s m #[Value.ref b] below meth c H locs cells slots Q (F0 m 1281 ls []))) : W p l e room_1 s m #[Value.ref b] below meth c H locs cells slots Q (F0 m 1268 ls []) := by
  obtain ⟨⟨hx, hb, hml, hown, hts⟩, hr, hlocks, hF, hAd⟩ := id C0
  obtain ⟨r, q1, q2, hI⟩ := hOp
  refine lv_aload_n hx hb dL_law_1268 rfl (lv_at hl 2 rfl) ?_
  refine go_iL hH (va_run_VL (As := []) (rest := []) C0 hH lk_L_159 (c_X11_status hAd 0 kd_0 σ q1) ⟨Nat.le_of_ble_eq_true rfl, Nat.le_of_ble_eq_true rfl⟩ (ci := 11) kd_0 (by decide) (cob_11 _ _ _) rfl rfl hl.1 rfl (Nat.le_of_ble_eq_true rfl) dL_law_1269 hcl) (fun H locs hH => ?_)
  refine lv_aload_n hx hb dL_law_1272 rfl (lv_at hl 3 rfl) ?_
  refine go_iL hH (va_run_VL (As := []) (rest := [.int r]) C0 hH lk_L_162 (c_X12_status hAd 251 kd_251 σ q2) ⟨Nat.le_of_ble_eq_true rfl, Nat.le_of_ble_eq_true rfl⟩ (ci := 12) kd_251 (by decide) (cob_12 _ _ _) rfl rfl hl.1 rfl (Nat.le_of_ble_eq_true rfl) dL_law_1273 hcl) (fun H locs hH => ?_)
  refine lv_icmp_eq (tgt := 1281) hx hb dL_law_1276 (by decide) (fun _ => ?_) (fun c1 => absurd rfl c1)
  exact kk _ _ _ _ hI hH hl
set_option maxRecDepth 100000 in
set_option maxHeartbeats 4000000 in
theorem lw_loop (hL : L ≤ 3072) (C0 : Cx E p m c code 4 s #[Value.ref b] RL meth (some .boolean)) (hX : va_X b L xs s s.heap) (hbl : b < s.heap.size) (hbA : ¬ eA E b) (hcl : cells ≤ room_1.cells ∧ slots ≤ room_1.slots) (hStep : LawStep Inv) (hend : ∀ (σ : Mem) (H : Heap) (locs : List Loc) (ls : Array Slot), Hs E s σ H locs → W p l e room_1 s m #[Value.ref b] below meth c H locs cells slots Q (F0 m 1287 ls [])) : ∀ (r n : Nat), L + 6 ≤ n + r → n ≤ L + 6 → ∀ (σ : Mem) (H : Heap) (locs : List Loc) (ls : Array Slot), Inv σ → Hs E s σ H locs → lv_has ls 4 [(3, .int (nI n)), (0, .ref b), (1, .ref (ea E 0)), (2, .ref (ea E 251))] → W p l e room_1 s m #[Value.ref b] below meth c H locs cells slots Q (F0 m 18 ls []) := by
  obtain ⟨⟨hx, hb, hml, hown, hts⟩, hr, hlocks, hF, hAd⟩ := id C0
  intro r
  induction r with
  | zero =>
    intro n h1 h2 σ H locs ls hI hH hl
    refine lv_iload_n hx hb dL_law_18 rfl (lv_at hl 0 rfl) ?_
    refine lv_aload_n hx hb dL_law_19 rfl (lv_at hl 1 rfl) ?_
    refine va_slen hx hb hX hbl hbA hH.2 dL_law_20 ?_
    refine lv_bipush (v := 6) hx hb dL_law_21 (by decide) ?_
    refine lv_isub hx hb dL_law_23 ?_
    refine lv_icmp_gt (tgt := 1287) hx hb dL_law_24 (by decide) (fun _ => hend σ _ _ _ hH) (fun c1 => absurd (lw_gt (by omega) (by omega) hL) c1)
  | succ r ih =>
    intro n h1 h2 σ H locs ls hI hH hl
    refine lv_iload_n hx hb dL_law_18 rfl (lv_at hl 0 rfl) ?_
    refine lv_aload_n hx hb dL_law_19 rfl (lv_at hl 1 rfl) ?_
    refine va_slen hx hb hX hbl hbA hH.2 dL_law_20 ?_
    refine lv_bipush (v := 6) hx hb dL_law_21 (by decide) ?_
    refine lv_isub hx hb dL_law_23 ?_
    refine lv_icmp_gt (tgt := 1287) hx hb dL_law_24 (by decide) (fun _ => hend σ _ _ _ hH) (fun c1 => ?_)
    have hn : n + 6 ≤ L := lw_le c1 (by omega) hL
    have hs := hStep σ hI
    have kk : (∀ (σ : Mem) (H : Heap) (locs : List Loc) (ls : Array Slot), Inv σ → Hs E s σ H locs → lv_has ls 4 [(3, .int (nI n)), (0, .ref b), (1, .ref (ea E 0)), (2, .ref (ea E 251))] → W p l e room_1 s m #[Value.ref b] below meth c H locs cells slots Q (F0 m 1281 ls [])) := by
      intro σ2 H2 locs2 ls2 hI2 hH2 hl2
      refine lv_iinc (v := nI (n + 6)) (lv' := [(3, .int (nI (n + 6))), (0, .ref b), (1, .ref (ea E 0)), (2, .ref (ea E 251))]) hx hb dL_law_1281 hl2 (k := 0) rfl (by show Int32.ofNat n + Int32.ofInt 6 = Int32.ofNat (n + 6); rw [Int32.ofNat_add]; rfl) (by decide) rfl (fun ls hl => ?_)
      refine lv_goto (tgt := 18) hx hb dL_law_1284 (by decide) ?_
      exact ih (n + 6) (by omega) (by omega) σ2 _ _ _ hI2 hH2 hl
    refine lv_aload_n hx hb dL_law_27 rfl (lv_at hl 1 rfl) ?_
    refine lv_iload_n hx hb dL_law_28 rfl (lv_at hl 0 rfl) ?_
    refine va_sld hx hb hX hbl hbA hH.2 (nI_in (by omega) (by omega)) dL_law_29 ?_
    refine lv_bipush (v := 63) hx hb dL_law_30 (by decide) ?_
    refine lv_iand hx hb dL_law_32 ?_
    refine lv_topi (fun op eop => ?_)
    by_cases c0 : op = 0
    · refine lv_tableIn (off := 159) (tgt := 192) hx hb dL_law_33 (by rw [c0]; decide) (by rw [c0]; decide) (by rw [c0]; rfl) (by decide) ?_
      exact lw_case0 hL C0 hX hbl hbA hcl hn hH hl hs.1 kk
    by_cases c1 : op = 1
    · refine lv_tableIn (off := 202) (tgt := 235) hx hb dL_law_33 (by rw [c1]; decide) (by rw [c1]; decide) (by rw [c1]; rfl) (by decide) ?_
      exact lw_case1 hL C0 hX hbl hbA hcl hn hH hl hs.2.1 kk
    by_cases c2 : op = 2
    · refine lv_tableIn (off := 245) (tgt := 278) hx hb dL_law_33 (by rw [c2]; decide) (by rw [c2]; decide) (by rw [c2]; rfl) (by decide) ?_
      exact lw_case2 hL C0 hX hbl hbA hcl hn hH hl hs.2.2.1 kk
    by_cases c3 : op = 3
    · refine lv_tableIn (off := 308) (tgt := 341) hx hb dL_law_33 (by rw [c3]; decide) (by rw [c3]; decide) (by rw [c3]; rfl) (by decide) ?_
      exact lw_case3 hL C0 hX hbl hbA hcl hn hH hl hs.2.2.2.1 kk
    by_cases c4 : op = 4
    · refine lv_tableIn (off := 331) (tgt := 364) hx hb dL_law_33 (by rw [c4]; decide) (by rw [c4]; decide) (by rw [c4]; rfl) (by decide) ?_
      exact lw_case4 hL C0 hX hbl hbA hcl hn hH hl hs.2.2.2.2.1 kk
    by_cases c5 : op = 5
    · refine lv_tableIn (off := 354) (tgt := 387) hx hb dL_law_33 (by rw [c5]; decide) (by rw [c5]; decide) (by rw [c5]; rfl) (by decide) ?_
      exact lw_case5 hL C0 hX hbl hbA hcl hn hH hl hs.2.2.2.2.2.1 kk
    by_cases c6 : op = 6
    · refine lv_tableIn (off := 367) (tgt := 400) hx hb dL_law_33 (by rw [c6]; decide) (by rw [c6]; decide) (by rw [c6]; rfl) (by decide) ?_
      exact lw_case6 hL C0 hX hbl hbA hcl hn hH hl hs.2.2.2.2.2.2.1 kk
    by_cases c7 : op = 7
    · refine lv_tableIn (off := 380) (tgt := 413) hx hb dL_law_33 (by rw [c7]; decide) (by rw [c7]; decide) (by rw [c7]; rfl) (by decide) ?_
      exact lw_case7 hL C0 hX hbl hbA hcl hn hH hl hs.2.2.2.2.2.2.2.1 kk
    by_cases c8 : op = 8
    · refine lv_tableIn (off := 393) (tgt := 426) hx hb dL_law_33 (by rw [c8]; decide) (by rw [c8]; decide) (by rw [c8]; rfl) (by decide) ?_
      exact lw_case8 hL C0 hX hbl hbA hcl hn hH hl hs.2.2.2.2.2.2.2.2.1 kk
    by_cases c9 : op = 9
    · refine lv_tableIn (off := 456) (tgt := 489) hx hb dL_law_33 (by rw [c9]; decide) (by rw [c9]; decide) (by rw [c9]; rfl) (by decide) ?_
      exact lw_case9 hL C0 hX hbl hbA hcl hn hH hl hs.2.2.2.2.2.2.2.2.2.1 kk
    by_cases c10 : op = 10
    · refine lv_tableIn (off := 479) (tgt := 512) hx hb dL_law_33 (by rw [c10]; decide) (by rw [c10]; decide) (by rw [c10]; rfl) (by decide) ?_
      exact lw_case10 hL C0 hX hbl hbA hcl hn hH hl hs.2.2.2.2.2.2.2.2.2.2.1 kk
    by_cases c11 : op = 11
    · refine lv_tableIn (off := 512) (tgt := 545) hx hb dL_law_33 (by rw [c11]; decide) (by rw [c11]; decide) (by rw [c11]; rfl) (by decide) ?_
      exact lw_case11 hL C0 hX hbl hbA hcl hn hH hl hs.2.2.2.2.2.2.2.2.2.2.2.1 kk
    by_cases c12 : op = 12
    · refine lv_tableIn (off := 555) (tgt := 588) hx hb dL_law_33 (by rw [c12]; decide) (by rw [c12]; decide) (by rw [c12]; rfl) (by decide) ?_
      exact lw_case12 hL C0 hX hbl hbA hcl hn hH hl hs.2.2.2.2.2.2.2.2.2.2.2.2.1 kk
    by_cases c13 : op = 13
    · refine lv_tableIn (off := 588) (tgt := 621) hx hb dL_law_33 (by rw [c13]; decide) (by rw [c13]; decide) (by rw [c13]; rfl) (by decide) ?_
      exact lw_case13 hL C0 hX hbl hbA hcl hn hH hl hs.2.2.2.2.2.2.2.2.2.2.2.2.2.1 kk
    by_cases c14 : op = 14
    · refine lv_tableIn (off := 621) (tgt := 654) hx hb dL_law_33 (by rw [c14]; decide) (by rw [c14]; decide) (by rw [c14]; rfl) (by decide) ?_
      exact lw_case14 hL C0 hX hbl hbA hcl hn hH hl hs.2.2.2.2.2.2.2.2.2.2.2.2.2.2.1 kk
    by_cases c15 : op = 15
    · refine lv_tableIn (off := 654) (tgt := 687) hx hb dL_law_33 (by rw [c15]; decide) (by rw [c15]; decide) (by rw [c15]; rfl) (by decide) ?_
      exact lw_case15 hL C0 hX hbl hbA hcl hn hH hl hs.2.2.2.2.2.2.2.2.2.2.2.2.2.2.2.1 kk
    by_cases c16 : op = 16
    · refine lv_tableIn (off := 687) (tgt := 720) hx hb dL_law_33 (by rw [c16]; decide) (by rw [c16]; decide) (by rw [c16]; rfl) (by decide) ?_
      exact lw_case16 hL C0 hX hbl hbA hcl hn hH hl hs.2.2.2.2.2.2.2.2.2.2.2.2.2.2.2.2.1 kk
    by_cases c17 : op = 17
    · refine lv_tableIn (off := 710) (tgt := 743) hx hb dL_law_33 (by rw [c17]; decide) (by rw [c17]; decide) (by rw [c17]; rfl) (by decide) ?_
      exact lw_case17 hL C0 hX hbl hbA hcl hn hH hl hs.2.2.2.2.2.2.2.2.2.2.2.2.2.2.2.2.2.1 kk
    by_cases c18 : op = 18
    · refine lv_tableIn (off := 733) (tgt := 766) hx hb dL_law_33 (by rw [c18]; decide) (by rw [c18]; decide) (by rw [c18]; rfl) (by decide) ?_
      exact lw_case18 hL C0 hX hbl hbA hcl hn hH hl hs.2.2.2.2.2.2.2.2.2.2.2.2.2.2.2.2.2.2.1 kk
    by_cases c19 : op = 19
    · refine lv_tableIn (off := 766) (tgt := 799) hx hb dL_law_33 (by rw [c19]; decide) (by rw [c19]; decide) (by rw [c19]; rfl) (by decide) ?_
      exact lw_case19 hL C0 hX hbl hbA hcl hn hH hl hs.2.2.2.2.2.2.2.2.2.2.2.2.2.2.2.2.2.2.2.1 kk
    by_cases c20 : op = 20
    · refine lv_tableIn (off := 799) (tgt := 832) hx hb dL_law_33 (by rw [c20]; decide) (by rw [c20]; decide) (by rw [c20]; rfl) (by decide) ?_
      exact lw_case20 hL C0 hX hbl hbA hcl hn hH hl hs.2.2.2.2.2.2.2.2.2.2.2.2.2.2.2.2.2.2.2.2.1 kk
    by_cases c21 : op = 21
    · refine lv_tableIn (off := 822) (tgt := 855) hx hb dL_law_33 (by rw [c21]; decide) (by rw [c21]; decide) (by rw [c21]; rfl) (by decide) ?_
      exact lw_case21 hL C0 hX hbl hbA hcl hn hH hl hs.2.2.2.2.2.2.2.2.2.2.2.2.2.2.2.2.2.2.2.2.2.1 kk
    by_cases c22 : op = 22
    · refine lv_tableIn (off := 835) (tgt := 868) hx hb dL_law_33 (by rw [c22]; decide) (by rw [c22]; decide) (by rw [c22]; rfl) (by decide) ?_
      exact lw_case22 hL C0 hX hbl hbA hcl hn hH hl hs.2.2.2.2.2.2.2.2.2.2.2.2.2.2.2.2.2.2.2.2.2.2.1 kk
    by_cases c23 : op = 23
    · refine lv_tableIn (off := 858) (tgt := 891) hx hb dL_law_33 (by rw [c23]; decide) (by rw [c23]; decide) (by rw [c23]; rfl) (by decide) ?_
      exact lw_case23 hL C0 hX hbl hbA hcl hn hH hl hs.2.2.2.2.2.2.2.2.2.2.2.2.2.2.2.2.2.2.2.2.2.2.2.1 kk
    by_cases c24 : op = 24
    · refine lv_tableIn (off := 881) (tgt := 914) hx hb dL_law_33 (by rw [c24]; decide) (by rw [c24]; decide) (by rw [c24]; rfl) (by decide) ?_
      exact lw_case24 hL C0 hX hbl hbA hcl hn hH hl hs.2.2.2.2.2.2.2.2.2.2.2.2.2.2.2.2.2.2.2.2.2.2.2.2.1 kk
    by_cases c25 : op = 25
    · refine lv_tableIn (off := 904) (tgt := 937) hx hb dL_law_33 (by rw [c25]; decide) (by rw [c25]; decide) (by rw [c25]; rfl) (by decide) ?_
      exact lw_case25 hL C0 hX hbl hbA hcl hn hH hl hs.2.2.2.2.2.2.2.2.2.2.2.2.2.2.2.2.2.2.2.2.2.2.2.2.2.1 kk
    by_cases c26 : op = 26
    · refine lv_tableIn (off := 967) (tgt := 1000) hx hb dL_law_33 (by rw [c26]; decide) (by rw [c26]; decide) (by rw [c26]; rfl) (by decide) ?_
      exact lw_case26 hL C0 hX hbl hbA hcl hn hH hl hs.2.2.2.2.2.2.2.2.2.2.2.2.2.2.2.2.2.2.2.2.2.2.2.2.2.2.1 kk
    by_cases c27 : op = 27
    · refine lv_tableIn (off := 1011) (tgt := 1044) hx hb dL_law_33 (by rw [c27]; decide) (by rw [c27]; decide) (by rw [c27]; rfl) (by decide) ?_
      exact lw_case27 hL C0 hX hbl hbA hcl hn hH hl hs.2.2.2.2.2.2.2.2.2.2.2.2.2.2.2.2.2.2.2.2.2.2.2.2.2.2.2.1 kk
    by_cases c28 : op = 28
    · refine lv_tableIn (off := 1054) (tgt := 1087) hx hb dL_law_33 (by rw [c28]; decide) (by rw [c28]; decide) (by rw [c28]; rfl) (by decide) ?_
      exact lw_case28 hL C0 hX hbl hbA hcl hn hH hl hs.2.2.2.2.2.2.2.2.2.2.2.2.2.2.2.2.2.2.2.2.2.2.2.2.2.2.2.2.1 kk
    by_cases c29 : op = 29
    · refine lv_tableIn (off := 1077) (tgt := 1110) hx hb dL_law_33 (by rw [c29]; decide) (by rw [c29]; decide) (by rw [c29]; rfl) (by decide) ?_
      exact lw_case29 hL C0 hX hbl hbA hcl hn hH hl hs.2.2.2.2.2.2.2.2.2.2.2.2.2.2.2.2.2.2.2.2.2.2.2.2.2.2.2.2.2.1 kk
    by_cases c30 : op = 30
    · refine lv_tableIn (off := 1100) (tgt := 1133) hx hb dL_law_33 (by rw [c30]; decide) (by rw [c30]; decide) (by rw [c30]; rfl) (by decide) ?_
      exact lw_case30 hL C0 hX hbl hbA hcl hn hH hl hs.2.2.2.2.2.2.2.2.2.2.2.2.2.2.2.2.2.2.2.2.2.2.2.2.2.2.2.2.2.2.1 kk
    by_cases c31 : op = 31
    · refine lv_tableIn (off := 1123) (tgt := 1156) hx hb dL_law_33 (by rw [c31]; decide) (by rw [c31]; decide) (by rw [c31]; rfl) (by decide) ?_
      exact lw_case31 hL C0 hX hbl hbA hcl hn hH hl hs.2.2.2.2.2.2.2.2.2.2.2.2.2.2.2.2.2.2.2.2.2.2.2.2.2.2.2.2.2.2.2.1 kk
    by_cases c32 : op = 32
    · refine lv_tableIn (off := 1156) (tgt := 1189) hx hb dL_law_33 (by rw [c32]; decide) (by rw [c32]; decide) (by rw [c32]; rfl) (by decide) ?_
      exact lw_case32 hL C0 hX hbl hbA hcl hn hH hl hs.2.2.2.2.2.2.2.2.2.2.2.2.2.2.2.2.2.2.2.2.2.2.2.2.2.2.2.2.2.2.2.2.1 kk
    by_cases c33 : op = 33
    · refine lv_tableIn (off := 1189) (tgt := 1222) hx hb dL_law_33 (by rw [c33]; decide) (by rw [c33]; decide) (by rw [c33]; rfl) (by decide) ?_
      exact lw_case33 hL C0 hX hbl hbA hcl hn hH hl hs.2.2.2.2.2.2.2.2.2.2.2.2.2.2.2.2.2.2.2.2.2.2.2.2.2.2.2.2.2.2.2.2.2.1 kk
    by_cases c34 : op = 34
    · refine lv_tableIn (off := 1212) (tgt := 1245) hx hb dL_law_33 (by rw [c34]; decide) (by rw [c34]; decide) (by rw [c34]; rfl) (by decide) ?_
      exact lw_case34 hL C0 hX hbl hbA hcl hn hH hl hs.2.2.2.2.2.2.2.2.2.2.2.2.2.2.2.2.2.2.2.2.2.2.2.2.2.2.2.2.2.2.2.2.2.2.1 kk
    by_cases c35 : op = 35
    · refine lv_tableIn (off := 1235) (tgt := 1268) hx hb dL_law_33 (by rw [c35]; decide) (by rw [c35]; decide) (by rw [c35]; rfl) (by decide) ?_
      exact lw_case35 hL C0 hX hbl hbA hcl hn hH hl hs.2.2.2.2.2.2.2.2.2.2.2.2.2.2.2.2.2.2.2.2.2.2.2.2.2.2.2.2.2.2.2.2.2.2.2 kk
    refine lv_tableOut (tgt := 1281) hx hb dL_law_33 (by have := i32_nv (v := 0) c0 (by decide); have := i32_nv (v := 1) c1 (by decide); have := i32_nv (v := 2) c2 (by decide); have := i32_nv (v := 3) c3 (by decide); have := i32_nv (v := 4) c4 (by decide); have := i32_nv (v := 5) c5 (by decide); have := i32_nv (v := 6) c6 (by decide); have := i32_nv (v := 7) c7 (by decide); have := i32_nv (v := 8) c8 (by decide); have := i32_nv (v := 9) c9 (by decide); have := i32_nv (v := 10) c10 (by decide); have := i32_nv (v := 11) c11 (by decide); have := i32_nv (v := 12) c12 (by decide); have := i32_nv (v := 13) c13 (by decide); have := i32_nv (v := 14) c14 (by decide); have := i32_nv (v := 15) c15 (by decide); have := i32_nv (v := 16) c16 (by decide); have := i32_nv (v := 17) c17 (by decide); have := i32_nv (v := 18) c18 (by decide); have := i32_nv (v := 19) c19 (by decide); have := i32_nv (v := 20) c20 (by decide); have := i32_nv (v := 21) c21 (by decide); have := i32_nv (v := 22) c22 (by decide); have := i32_nv (v := 23) c23 (by decide); have := i32_nv (v := 24) c24 (by decide); have := i32_nv (v := 25) c25 (by decide); have := i32_nv (v := 26) c26 (by decide); have := i32_nv (v := 27) c27 (by decide); have := i32_nv (v := 28) c28 (by decide); have := i32_nv (v := 29) c29 (by decide); have := i32_nv (v := 30) c30 (by decide); have := i32_nv (v := 31) c31 (by decide); have := i32_nv (v := 32) c32 (by decide); have := i32_nv (v := 33) c33 (by decide); have := i32_nv (v := 34) c34 (by decide); have := i32_nv (v := 35) c35 (by decide); omega) (by decide) ?_
    exact kk _ _ _ _ hI hH hl
end
