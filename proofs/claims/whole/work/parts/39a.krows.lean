/-! CONSTRUCTORS: the cells made so far lie from an address on, one behind the other. -/
def wl (sz : Nat) (L : List va_E) : va_W := L.zipIdx.map (fun q => (sz + q.2, q.1))
theorem wl_get (sz : Nat) (L : List va_E) (k : Nat) : (wl sz L)[k]? = (L[k]?).map (fun e => (sz + k, e)) := by
  unfold wl
  rw [List.getElem?_map, List.getElem?_zipIdx]
  cases L[k]? with
  | none => rfl
  | some e => simp
theorem wl_len (sz : Nat) (L : List va_E) : (wl sz L).length = L.length := by simp [wl]
theorem wl_set (sz : Nat) (L : List va_E) (k : Nat) (e : va_E) : (wl sz L).set k (sz + k, e) = wl sz (L.set k e) := by
  apply List.ext_getElem?
  intro q
  rw [wl_get, List.getElem?_set, List.getElem?_set, wl_len]
  by_cases hq : k = q
  · subst hq
    rw [if_pos rfl, if_pos rfl]
    by_cases hk : k < L.length
    · rw [if_pos hk, if_pos hk]
      rfl
    · rw [if_neg hk, if_neg hk]
      rfl
  · rw [if_neg hq, if_neg hq, wl_get]
theorem wl_D (A : Nat → Prop) (sz : Nat) (L : List va_E) (hA : ∀ q, sz ≤ q → A q) : va_D A (wl sz L) := by
  have key : ∀ (i : Nat) (q : Nat × va_E), (wl sz L)[i]? = some q → q.1 = sz + i := by
    intro i q hi
    rw [wl_get] at hi
    cases he : L[i]? with
    | none => rw [he] at hi; cases hi
    | some e => rw [he] at hi; cases hi; rfl
  refine ⟨fun i j x y hi hj e => ?_, fun k q hk => ?_⟩
  · rw [key i x hi, key j y hj] at e
    omega
  · rw [key k q hk]
    exact hA _ (Nat.le_add_right _ _)
theorem AOM {u U : State} (ha : u.vm.Alike U.vm) (h : (Cond.arrayOver (.array .int)).before #[] u = true) : (Cond.arrayOver (.array .int)).before #[] U = true := (Cond.arrayOver_setVmC (args := #[]) ha (.array .int)).trans h
theorem AOU {A : Array Value} {U : State} (h : (Cond.arrayOver (.array .int)).before #[] U = true) : (Cond.arrayOver (.array .int)).before A U = true := h
theorem a1_of {sz a0 n : Nat} {L0 M : List va_E} (h : sz + L0.length = a0) (hn : M.length = n) : sz + (L0 ++ M).length = a0 + n := by rw [List.length_append, ← Nat.add_assoc, h, hn]
theorem ap_gl {A B : List va_E} {j : Nat} {x : va_E} (h : A[j]? = some x) : (A ++ B)[j]? = some x := by
  rw [List.getElem?_append_left (List.getElem?_eq_some_iff.mp h).1]
  exact h
theorem ap_gr {A B : List va_E} {n j : Nat} {x : va_E} (hn : A.length = n) (h : B[j]? = some x) : (A ++ B)[n + j]? = some x := by
  subst hn
  rw [List.getElem?_append_right (Nat.le_add_right _ _), Nat.add_sub_cancel_left]
  exact h
theorem ap_sl {A A' B : List va_E} {j : Nat} {x : va_E} (hj : j < A.length) (h : A.set j x = A') : (A ++ B).set j x = A' ++ B := by
  rw [List.set_append_left _ _ hj, h]
theorem ap_sr {A B B' : List va_E} {n j : Nat} {x : va_E} (hn : A.length = n) (h : B.set j x = B') : (A ++ B).set (n + j) x = A ++ B' := by
  subst hn
  rw [List.set_append_right _ _ (Nat.le_add_right _ _), Nat.add_sub_cancel_left, h]
theorem ap_ln {A B : List va_E} {n m : Nat} (h1 : A.length = n) (h2 : B.length = m) : (A ++ B).length = n + m := by rw [List.length_append, h1, h2]
theorem ap_lt {A : List va_E} {n j : Nat} (h : A.length = n) (hj : j < n) : j < A.length := by rw [h]; exact hj
theorem ha_of {a0 n : Nat} {M : List va_E} {x : va_E} (h : M.length = n) : a0 + (M ++ [x]).length = a0 + n + [x].length := by rw [List.length_append, h, Nat.add_assoc]
theorem hb_of {a0 n : Nat} {M B : List va_E} (h : M.length = n) : a0 + n + B.length = a0 + (M ++ B).length := by rw [List.length_append, h, Nat.add_assoc]
/-- the nest's links and the arrays of references -/
def Nx (U : State) : Prop := (Cond.arrayOver (.array .int)).before #[] U = true ∧ va_AO "HandsInBook$Book" U ∧ va_Nw (.methodLinkNest RX11 18 yX10_init RX11) U ∧ va_Nw (.methodLinkNest RX11 25 yX7_init RX11) U ∧ va_Nw (.methodLinkNest RX7 11 yX2_init RX11) U ∧ va_Nw (.methodLinkNest RX11 32 yX2_init RX11) U ∧ va_Nw (.methodLinkNest RX0 24 yX2_init RX11) U ∧ va_Nw (.methodLinkNest RX11 50 yX4_init RX11) U ∧ va_Nw (.methodLinkNest RX4 11 yX6_init RX11) U ∧ va_Nw (.methodLinkNest RX6 11 yX5_init RX11) U ∧ va_Nw (.methodLinkNest RX4 20 yX9_init RX11) U ∧ va_Nw (.methodLinkNest RX11 57 yX3_init RX11) U ∧ va_Nw (.methodLinkNest RX3 11 yX2_init RX11) U ∧ va_Nw (.methodLinkNest RX3 20 yX6_init RX11) U ∧ va_Nw (.methodLinkNest RX11 64 yX1_init RX11) U
theorem Nx.warm {s U : State} (hW : s.WarmedH U.vm) (h : Nx s) : Nx U := by
  obtain ⟨h0, h1, h2, h3, h4, h5, h6, h7, h8, h9, h10, h11, h12, h13, h14⟩ := h
  exact ⟨AOM hW.alike h0, va_AO.moved hW.alike h1, va_Nw.warmM hW h2, va_Nw.warmM hW h3, va_Nw.warmM hW h4, va_Nw.warmM hW h5, va_Nw.warmM hW h6, va_Nw.warmM hW h7, va_Nw.warmM hW h8, va_Nw.warmM hW h9, va_Nw.warmM hW h10, va_Nw.warmM hW h11, va_Nw.warmM hW h12, va_Nw.warmM hW h13, va_Nw.warmM hW h14⟩
theorem Nx.same {u U : State} (hv : U.vm = u.vm) (h : Nx u) : Nx U := by
  have ha : u.vm.Alike U.vm := by rw [hv]; exact Vm.Alike.refl _
  obtain ⟨h0, h1, h2, h3, h4, h5, h6, h7, h8, h9, h10, h11, h12, h13, h14⟩ := h
  exact ⟨AOM ha h0, va_AO.moved ha h1, va_Nw.same rfl hv.symm h2, va_Nw.same rfl hv.symm h3, va_Nw.same rfl hv.symm h4, va_Nw.same rfl hv.symm h5, va_Nw.same rfl hv.symm h6, va_Nw.same rfl hv.symm h7, va_Nw.same rfl hv.symm h8, va_Nw.same rfl hv.symm h9, va_Nw.same rfl hv.symm h10, va_Nw.same rfl hv.symm h11, va_Nw.same rfl hv.symm h12, va_Nw.same rfl hv.symm h13, va_Nw.same rfl hv.symm h14⟩
/-- what a constructor's walk carries -/
def Lc (E : EnvT) (s : State) (sz a0 : Nat) (L0 M : List va_E) (H : Heap) (locs : List Loc) : Prop := va_P (eD E) vwCl (wl sz (L0 ++ M)) H ∧ va_S (eA E) s.heap H locs ∧ H.size = a0 + M.length ∧ sz + L0.length = a0 ∧ ∀ q, sz ≤ q → eA E q
def PcK (E : EnvT) (sz a0 : Nat) (L0 M : List va_E) (U : State) : Prop := va_P (eD E) vwCl (wl sz (L0 ++ M)) U.heap ∧ U.heap.size = a0 + M.length ∧ sz + L0.length = a0 ∧ (∀ q, sz ≤ q → eA E q) ∧ Fx E U U.heap ∧ Nx U
abbrev QvK (E : EnvT) (sz a0 : Nat) (L0 M : List va_E) : Array Value → State → Outcome → State → Prop := va_Qv (fun u : Unit => u = ()) (fun _ t => va_P (eD E) vwCl (wl sz (L0 ++ M)) t.heap ∧ t.heap.size = a0 + M.length) (eA E)
def rmK (h mc ms : Nat) : Room := { frames := h, cells := mc, slots := ms, locals := 64 * h }
theorem wl_at (sz a0 : Nat) (L0 M : List va_E) (h : sz + L0.length = a0) {j : Nat} {x : va_E} (hj : M[j]? = some x) : (wl sz (L0 ++ M))[L0.length + j]? = some (a0 + j, x) := by
  rw [wl_get, List.getElem?_append_right (Nat.le_add_right _ _), Nat.add_sub_cancel_left, hj]
  show some (sz + (L0.length + j), x) = _
  rw [← Nat.add_assoc, h]
theorem wl_st (sz a0 : Nat) (L0 M : List va_E) (h : sz + L0.length = a0) (j : Nat) (x : va_E) : (wl sz (L0 ++ M)).set (L0.length + j) (a0 + j, x) = wl sz (L0 ++ M.set j x) := by
  rw [← h, Nat.add_assoc, wl_set, List.set_append_right _ _ (Nat.le_add_right _ _), Nat.add_sub_cancel_left]
section
variable {p : Program} {l : Launch} {e : Env} {R : Room} {s : State} {m : MethodId} {args : Array Value} {below : List Frame} {meth : Method} {c : Code} {H : Heap} {locs : List Loc} {Q : State → Prop} {cells slots : Nat}
variable {E : EnvT} {cc : ByteArray} {nL : Nat} {own : String} {ret : Option FieldType} {pc : Nat} {ls : Array Slot} {rest : List Value} {sz a0 : Nat} {L0 M M' : List va_E}
theorem Lc.push (h : Lc E s sz a0 L0 M H locs) {x : va_E} {H1 : Heap} (z1 : H1.size = a0 + M.length + 1) (o1 : ∀ q : Nat, q < a0 + M.length → H1[q]? = H[q]?) (he : va_at (eD E) vwCl (a0 + M.length, x) H1) : Lc E s sz a0 L0 (M ++ [x]) H1 locs := by
  obtain ⟨hP, hS, hz, ha, hA⟩ := h
  refine ⟨?_, ⟨?_, ?_, hS.2.2⟩, by rw [z1, List.length_append]; rfl, ha, hA⟩
  · intro k q hq
    rw [wl_get] at hq
    by_cases hk : k < (L0 ++ M).length
    · rw [← List.append_assoc, List.getElem?_append_left hk] at hq
      have hv := hP k q (by rw [wl_get]; exact hq)
      exact hv.kept (o1 _ (by rw [← hz]; exact hv.lt))
    · rw [← List.append_assoc, List.getElem?_append_right (by omega)] at hq
      have hz0 : k - (L0 ++ M).length < 1 := by
        cases hc : ([x] : List va_E)[k - (L0 ++ M).length]? with
        | none => rw [hc] at hq; cases hq
        | some y => exact (List.getElem?_eq_some_iff.mp hc).1
      rw [show k - (L0 ++ M).length = 0 by omega] at hq
      cases hq
      have hkk : sz + k = a0 + M.length := by
        have : k = (L0 ++ M).length := by omega
        rw [this, List.length_append]
        omega
      show va_at (eD E) vwCl (sz + k, x) H1
      rw [hkk]
      exact he
  · have := hS.1
    omega
  · intro q h1 h2
    rw [o1 q (by have := hS.1; omega)]
    exact hS.2.1 q h1 h2
theorem k_new (C0 : Cx E p m c cc nL s args own meth ret) (hL : Lc E s sz a0 L0 M H locs) {C : String} {T : u_T} {N index : Nat} (ci : Nat) (hcl : vwCl[ci]? = some (C, T, N)) (hin : ∀ w ∈ u_ws C T N, w ∈ Gw) (ty : Nat → FieldType) (hty : ∀ k, k < N → parseFieldDescriptor (T k).2.2.1 = some (ty k)) (h1 : Cond.classLink own index C ∈ Gw) (h2 : Cond.instantiable C N ∈ Gw) (h3 : Cond.initialized C ∈ Gw) (fs : List Value) (hfs : ∀ j, j < N → defaultValue (ty j) = vp_V fs j) (n : Nat) (hn : M.length = n) (hcells : cells + 1 ≤ R.cells) (hslots : slots + N ≤ R.slots) (d : decode cc pc = .ok (.new index, 3))
    (kk : ∀ H1 : Heap, Lc E s sz a0 L0 (M ++ [.inr (ci, fs)]) H1 locs → W p l e R s m args below meth c H1 locs (cells + 1) (slots + N) Q (F0 m (pc + 3) ls (.ref (a0 + n) :: rest))) : W p l e R s m args below meth c H locs cells slots Q (F0 m pc ls rest) := by
  obtain ⟨⟨hx, hb, hml, hown, hts⟩, hr, hlocks, hF, hA⟩ := C0
  have hKn := hF.1.1 ci _ hcl
  subst hn
  refine W.newcK hx hb hown (hts _ h1) (hts _ h2) (hts _ h3) rfl d hcells hslots hKn.2.1 hL.2.2.1 fun H1 kC hkC e1 z1 o1 => ?_
  exact kk H1 (hL.push z1 o1 ⟨_, hcl, (u_born ty hts hin hKn hkC e1 hty).to hfs⟩)
theorem k_newi (C0 : Cx E p m c cc nL s args own meth ret) (hL : Lc E s sz a0 L0 M H locs) (n : Nat) (hn : M.length = n) (N : Nat) {v : Int32} (hv : ¬ v < 0) (hN : v.toNatClampNeg = N) (hbytes : N * 4 ≤ 536870912) (hcells : cells + 1 ≤ R.cells) (hslots : slots + N ≤ R.slots) (d : decode cc pc = .ok (.newarray .int, 2))
    (kk : ∀ H1 : Heap, Lc E s sz a0 L0 (M ++ [.inl (eC E 0, N, .inl (fun _ => 0))]) H1 locs → W p l e R s m args below meth c H1 locs (cells + 1) (slots + N) Q (F0 m (pc + 2) ls (.ref (a0 + n) :: rest))) : W p l e R s m args below meth c H locs cells slots Q (F0 m pc ls (.int v :: rest)) := by
  obtain ⟨⟨hx, hb, hml, hown, hts⟩, hr, hlocks, hF, hA⟩ := C0
  subst hn
  refine va_newaK (atype := .int) (N := N) hx hb (hts (.arrayClass .int) qAr_int) rfl d rfl hv hN hbytes hcells hslots hL.2.2.1 fun H1 cA e1 z1 o1 hAr hNm => ?_
  have hc := (hF.1.2 0 _ rfl).2
  have e : some cA = some (eC E 0) := hNm.symm.trans hc
  cases e
  exact kk H1 (hL.push z1 o1 e1)
theorem k_newz (C0 : Cx E p m c cc nL s args own meth ret) (hL : Lc E s sz a0 L0 M H locs) (n : Nat) (hn : M.length = n) (N : Nat) {v : Int32} (hv : ¬ v < 0) (hN : v.toNatClampNeg = N) (hbytes : N * 1 ≤ 536870912) (hcells : cells + 1 ≤ R.cells) (hslots : slots + N ≤ R.slots) (d : decode cc pc = .ok (.newarray .boolean, 2))
    (kk : ∀ H1 : Heap, Lc E s sz a0 L0 (M ++ [.inl (eC E 1, N, .inl (fun _ => 0))]) H1 locs → W p l e R s m args below meth c H1 locs (cells + 1) (slots + N) Q (F0 m (pc + 2) ls (.ref (a0 + n) :: rest))) : W p l e R s m args below meth c H locs cells slots Q (F0 m pc ls (.int v :: rest)) := by
  obtain ⟨⟨hx, hb, hml, hown, hts⟩, hr, hlocks, hF, hA⟩ := C0
  subst hn
  refine va_newaK (atype := .boolean) (N := N) hx hb (hts (.arrayClass .boolean) qAr_boolean) rfl d rfl hv hN hbytes hcells hslots hL.2.2.1 fun H1 cA e1 z1 o1 hAr hNm => ?_
  have hc := (hF.1.2 1 _ rfl).2
  have e : some cA = some (eC E 1) := hNm.symm.trans hc
  cases e
  exact kk H1 (hL.push z1 o1 e1)
theorem k_newB (C0 : Cx E p m c cc nL s args own meth ret) (hN0 : Nx s) (hL : Lc E s sz a0 L0 M H locs) (n : Nat) (hn : M.length = n) (N : Nat) {v : Int32} (hv : ¬ v < 0) (hN : v.toNatClampNeg = N) (hbytes : N * 4 ≤ 536870912) {index : Nat} (h1 : Cond.classLink own index "HandsInBook$Book" ∈ Gw) (hcells : cells + 1 ≤ R.cells) (hslots : slots + N ≤ R.slots) (d : decode cc pc = .ok (.anewarray index, 3))
    (kk : ∀ H1 : Heap, Lc E s sz a0 L0 (M ++ [.inl (eC E 3, N, .inr (.inr (.inr (.inr (fun _ => none)))))]) H1 locs → W p l e R s m args below meth c H1 locs (cells + 1) (slots + N) Q (F0 m (pc + 3) ls (.ref (a0 + n) :: rest))) : W p l e R s m args below meth c H locs cells slots Q (F0 m pc ls (.int v :: rest)) := by
  obtain ⟨⟨hx, hb, hml, hown, hts⟩, hr, hlocks, hF, hA⟩ := C0
  subst hn
  subst hN
  refine W.anew hx hb hown (hts _ h1) (va_AO.use hN0.2.1) rfl d rfl hv hbytes hcells hslots fun cA kA comp f1 f2 f3 f4 => ?_
  generalize hH1 : H.push ({ cls := cA, slots := Array.replicate v.toNatClampNeg .null, vm := .none } : Cell) = H1
  have z1 : H1.size = a0 + M.length + 1 := by rw [← hH1, Array.size_push, hL.2.2.1]
  have e1 : H1[a0 + M.length]? = some (arrV cA v.toNatClampNeg (fun _ => .null)) := by rw [← hL.2.2.1, ← hH1, Array.getElem?_push_size, ← arrV_new]
  have o1 : ∀ q : Nat, q < a0 + M.length → H1[q]? = H[q]? := fun q hq => by rw [← hH1, Array.getElem?_push, if_neg (Nat.ne_of_lt (by rw [hL.2.2.1]; exact hq))]
  obtain ⟨kA', comp', -, -, -, hc⟩ := (hF.1.2 3 _ rfl).2
  have e : some cA = some (eC E 3) := f1.symm.trans hc
  cases e
  have hk := kk H1 (hL.push z1 o1 (by
    show H1[a0 + M.length]? = some (vp_cell _ _)
    rw [vp_cell_q]
    exact e1))
  rw [hL.2.2.1]
  exact hk
theorem Lc.pushs (h : Lc E s sz a0 L0 M H locs) {H1 : Heap} : ∀ (xs : List va_E), H1.size = a0 + M.length + xs.length → (∀ q : Nat, q < a0 + M.length → H1[q]? = H[q]?) → (∀ (k : Nat) (x : va_E), xs[k]? = some x → va_at (eD E) vwCl (a0 + M.length + k, x) H1) → Lc E s sz a0 L0 (M ++ xs) H1 locs := by
  intro xs z1 o1 he
  obtain ⟨hP, hS, hz, ha, hA⟩ := h
  refine ⟨?_, ⟨?_, ?_, hS.2.2⟩, by rw [z1, List.length_append]; omega, ha, hA⟩
  · intro k q hq
    rw [wl_get] at hq
    by_cases hk : k < (L0 ++ M).length
    · rw [← List.append_assoc, List.getElem?_append_left hk] at hq
      have hv := hP k q (by rw [wl_get]; exact hq)
      exact hv.kept (o1 _ (by rw [← hz]; exact hv.lt))
    · rw [← List.append_assoc, List.getElem?_append_right (by omega)] at hq
      cases hc : xs[k - (L0 ++ M).length]? with
      | none => rw [hc] at hq; cases hq
      | some y =>
        rw [hc] at hq
        cases hq
        have hkk : sz + k = a0 + M.length + (k - (L0 ++ M).length) := by
          have : (L0 ++ M).length = L0.length + M.length := List.length_append
          omega
        show va_at (eD E) vwCl (sz + k, y) H1
        rw [hkk]
        exact he _ _ hc
  · have := hS.1
    omega
  · intro q h1 h2
    rw [o1 q (by have := hS.1; omega)]
    exact hS.2.1 q h1 h2
theorem kr_outer (c : ClassId) (N h0 : Nat) : ∀ i : Nat, Jvm.Free.Multi.outerC c N h0 i = arrV c N (fun j => va_rf (if j < i then some (h0 + 1 + j) else none))
  | 0 => by
    show ({ cls := c, slots := Array.replicate N .null, vm := .none } : Cell) = _
    rw [arrV_new]
    refine congrArg (arrV c N) (funext fun j => ?_)
    simp [va_rf]
  | i + 1 => by
    show (Jvm.Free.Multi.outerC c N h0 i).setSlot i (.ref (h0 + 1 + i)) = _
    rw [kr_outer c N h0 i, arrV_store]
    refine congrArg (arrV c N) (funext fun j => ?_)
    by_cases e : j = i
    · subst e
      simp [updV, va_rf]
    · by_cases h : j < i
      · simp [updV, e, h, Nat.lt_succ_of_lt h]
      · simp [updV, e, h, show ¬ j < i + 1 by omega]
theorem arrV_congr (c : ClassId) (N : Nat) {f g : Nat → Value} (h : ∀ j, j < N → f j = g j) : arrV c N f = arrV c N g := by
  unfold arrV
  congr 1
  apply Array.ext
  · simp
  · intro i h1 h2
    simp only [Array.getElem_ofFn]
    exact h i (by simpa using h1)
theorem kr_inner (c : ClassId) (K : Nat) : Jvm.Free.Multi.innerC c K (defaultValue .int) = vp_cell c (K, .inl (fun _ => 0)) := by
  rw [vp_cell_i, ← arrV_new]
  rfl
theorem k_mna (C0 : Cx E p m c cc nL s args own meth ret) (hN0 : Nx s) (hL : Lc E s sz a0 L0 M H locs) (n : Nat) (hn : M.length = n) (N K : Nat) {v w : Int32} (hv : ¬ v < 0) (hw : ¬ w < 0) (hN : v.toNatClampNeg = N) (hK : w.toNatClampNeg = K) (hb1 : N * 4 ≤ 536870912) (hb2 : K * 4 ≤ 536870912) (hb3 : K ≤ 536870912) {index : Nat} (h1 : Cond.classLink own index "[[I" ∈ Gw) (hcells : cells + (1 + N) ≤ R.cells) (hslots : slots + (N + N * K) ≤ R.slots) (d : decode cc pc = .ok (.multianewarray index 2, 4))
    (kk : ∀ H1 : Heap, Lc E s sz a0 L0 (M ++ (.inl (eC E 2, N, .inr (.inr (.inr (.inr (fun i => some (a0 + n + 1 + i)))))) :: List.replicate N (.inl (eC E 0, K, .inl (fun _ => 0))))) H1 locs → W p l e R s m args below meth c H1 locs (cells + 1 + N) (slots + N + N * K) Q (F0 m (pc + 4) ls (.ref (a0 + n) :: rest))) : W p l e R s m args below meth c H locs cells slots Q (F0 m pc ls (.int w :: .int v :: rest)) := by
  obtain ⟨⟨hx, hb, hml, hown, hts⟩, hr, hlocks, hF, hA⟩ := C0
  subst hn
  subst hN
  subst hK
  intro T hT Xs
  obtain ⟨vm₁, cA, comp, -, fA, fC, hO, -, X', step⟩ := Xs.multianewarray2F (ty := .int) hx hown (hts _ h1) (AOU hN0.1) (hts (.arrayClass .int) qAr_int) (g := F0 m pc ls (.int w :: .int v :: rest)) rfl (by rw [hb]; exact d) rfl hv hw hb1 hb2 hb3 rfl rfl hcells hslots
  have hc0 := (hF.1.2 0 _ rfl).2
  have e0 : some comp = some (eC E 0) := fC.symm.trans hc0
  cases e0
  have hc2 := (hF.1.2 2 _ rfl).2
  have e2 : some cA = some (eC E 2) := fA.symm.trans hc2
  cases e2
  generalize hFi : Jvm.Free.Multi.fill (T.setVm vm₁) (eC E 2) (eC E 0) v.toNatClampNeg w.toNatClampNeg (defaultValue .int) v.toNatClampNeg = Fi at X' step
  have hTh : (T.setVm vm₁).heap = H := hT
  obtain ⟨f1, f2, -, -⟩ := Jvm.Free.Multi.fill_facts (T.setVm vm₁) (eC E 2) (eC E 0) v.toNatClampNeg w.toNatClampNeg (defaultValue .int) v.toNatClampNeg
  rw [hFi, hTh] at f1 f2
  have hold : ∀ x : Nat, x < H.size → Fi.heap[x]? = H[x]? := fun x hx => by
    have := Jvm.Free.Multi.fill_old (T.setVm vm₁) (eC E 2) (eC E 0) v.toNatClampNeg w.toNatClampNeg (defaultValue .int) (a := x) (by rw [hTh]; exact hx) v.toNatClampNeg
    rw [hFi, hTh] at this
    exact this
  have hrow : ∀ j : Nat, j < v.toNatClampNeg → Fi.heap[H.size + 1 + j]? = some (vp_cell (eC E 0) (w.toNatClampNeg, .inl (fun _ => 0))) := fun j hj => by
    have := Jvm.Free.Multi.fill_inner (T.setVm vm₁) (eC E 2) (eC E 0) v.toNatClampNeg w.toNatClampNeg (defaultValue .int) v.toNatClampNeg j hj
    rw [hFi, hTh, kr_inner] at this
    exact this
  have hout : Jvm.Free.Multi.outerC (eC E 2) v.toNatClampNeg H.size v.toNatClampNeg = vp_cell (eC E 2) (v.toNatClampNeg, .inr (.inr (.inr (.inr (fun i => some (a0 + M.length + 1 + i)))))) := by
    rw [vp_cell_q, kr_outer]
    refine arrV_congr _ _ (fun j hj => ?_)
    rw [if_pos hj, hL.2.2.1]
  rw [hout] at f2
  have hLp : Lc E s sz a0 L0 (M ++ (.inl (eC E 2, v.toNatClampNeg, .inr (.inr (.inr (.inr (fun i => some (a0 + M.length + 1 + i)))))) :: List.replicate v.toNatClampNeg (.inl (eC E 0, w.toNatClampNeg, .inl (fun _ => 0))))) Fi.heap locs := by
    refine hL.pushs _ (by rw [f1, hL.2.2.1, List.length_cons, List.length_replicate]; omega) (fun q hq => hold q (by rw [hL.2.2.1]; exact hq)) (fun k x hk => ?_)
    cases k with
    | zero =>
      cases hk
      show Fi.heap[a0 + M.length + 0]? = _
      rw [show a0 + M.length + 0 = H.size from hL.2.2.1.symm]
      exact f2
    | succ k =>
      rw [List.getElem?_cons_succ, List.getElem?_replicate] at hk
      by_cases hlt : k < v.toNatClampNeg
      · rw [if_pos hlt] at hk
        cases hk
        show Fi.heap[a0 + M.length + (k + 1)]? = _
        rw [← hL.2.2.1, show H.size + (k + 1) = H.size + 1 + k by omega]
        exact hrow k hlt
      · rw [if_neg hlt] at hk
        cases hk
  obtain ⟨t, a1, b1⟩ := kk Fi.heap hLp Fi rfl X'
  have hT2 : T.heap.size = a0 + M.length := by rw [hT, hL.2.2.1]
  rw [← hT2] at a1
  exact ⟨t, step t a1, b1⟩
/-- a cell of the world is written: what is known then -/
theorem Lc.set (h : Lc E s sz a0 L0 M H locs) {j i : Nat} {x y : va_E} {H1 : Heap} (hj : M[j]? = some x) (he : va_at (eD E) vwCl (a0 + j, y) H1) (z : H1.size = H.size) (oq : ∀ q : Nat, q ≠ a0 + j → H1[q]? = H[q]?) (hM : M.set j y = M') : Lc E s sz a0 L0 M' H1 (locs ++ [⟨a0 + j, i⟩]) := by
  obtain ⟨hP, hS, hz, ha, hA⟩ := h
  have hD := wl_D (eA E) sz (L0 ++ M) hA
  have hw := wl_at sz a0 L0 M ha hj
  refine ⟨?_, hS.put z oq (hA _ (by omega)), by rw [z, hz, ← hM, List.length_set], ha, hA⟩
  have hP1 := hP.set hD hw he oq
  rw [wl_st sz a0 L0 M ha, hM] at hP1
  exact hP1
theorem k_putF (C0 : Cx E p m c cc nL s args own meth ret) (hin2 : meth.name = "<init>") (hL : Lc E s sz a0 L0 M H locs) (j : Nat) {ci : Nat} {fs : List Value} (hj : M[j]? = some (.inr (ci, fs))) {C : String} {T : u_T} {N g index : Nat} (hcl : vwCl[ci]? = some (C, T, N)) (hin : ∀ w ∈ u_ws C T N, w ∈ Gw) (ty0 : Nat → FieldType) (hty : ∀ k, k < N → parseFieldDescriptor (T k).2.2.1 = some (ty0 k)) (hnm : ∀ a, a < N → ∀ b, b < N → a ≠ b → (T a).2.1 ≠ (T b).2.1) (hg : g < N) (hl : Cond.fieldLink own index (T g).1 (T g).2.1 (T g).2.2.1 ∈ Gw) (hfin : (T g).2.2.2 = true) (hdecl : (T g).1 = own) {ty : FieldType} {v : Value} (hd : parseFieldDescriptor (T g).2.2.1 = some ty) (hn : narrow ty v = v) (hfit : fits ty v = true) (hlen : g < fs.length) (hM : M.set j (.inr (ci, fs.set g v)) = M') (d : decode cc pc = .ok (.putfield index, 3))
    (kk : ∀ (H : Heap) (locs : List Loc), Lc E s sz a0 L0 M' H locs → W p l e R s m args below meth c H locs cells slots Q (F0 m (pc + 3) ls rest)) : W p l e R s m args below meth c H locs cells slots Q (F0 m pc ls (v :: .ref (a0 + j) :: rest)) := by
  obtain ⟨⟨hx, hb, hml, hown, hts⟩, hr, hlocks, hF, hA⟩ := C0
  have hap := va_apart (own := own) hts hin ty0 hty hnm hF.1 hcl
  obtain ⟨r, h1, cell, q1, q2, q3, q4⟩ := hL.1 _ _ (wl_at sz a0 L0 M hL.2.2.2.1 hj)
  obtain rfl : r = (C, T, N) := Option.some.inj (h1.symm.trans hcl)
  obtain ⟨hS, hfc, kC, hkC, hkind⟩ := hF.1.1 ci _ hcl
  obtain ⟨cf, kf, fi, f, hi, hsl⟩ := hS g hg
  have hlay := hts _ (hin _ (u_in_lay hg))
  have hst := (u_facts hfc hkC (u_lays hts hin hg) hi).1
  unfold u_lay at hlay
  rw [if_pos hfin] at hlay
  have hcf : m.cls = cf := by
    obtain ⟨_, _, c', _, _, _, -, -, hf', -, -, -, hown2, -⟩ := Cond.laysFinal_spec hlay
    have e1 : c' = cf := by have := hi.symm.trans hf'; simp at this; exact this.1.symm
    rw [hdecl] at hown2
    rw [← e1]
    exact Option.some.inj (hown.symm.trans hown2)
  refine W.putFinK hx hb hown (hts _ hl) hi hst hcf hin2 (by rw [q2]; exact u_fits hfc hkC hkind (Or.inr hlay) hi hd hn hfit) q1 q3 (by rw [hsl]; exact k2_hasslot (q4 g hg)) rfl rfl d fun H' e1 e2 e3 => ?_
  rw [hsl] at e1 ⊢
  exact kk H' _ (hL.set (y := .inr (ci, fs.set g v)) hj ⟨_, hcl, t_OB.to (V := updV (vp_V fs) g v) ⟨_, e1, q2, q3, t_set q4 hap hg v⟩ (fun k _ => vp_updV_set hlen v k)⟩ e2 e3 hM)
theorem k_put (C0 : Cx E p m c cc nL s args own meth ret) (hL : Lc E s sz a0 L0 M H locs) (j : Nat) {ci : Nat} {fs : List Value} (hj : M[j]? = some (.inr (ci, fs))) {C : String} {T : u_T} {N g index : Nat} (hcl : vwCl[ci]? = some (C, T, N)) (hin : ∀ w ∈ u_ws C T N, w ∈ Gw) (ty0 : Nat → FieldType) (hty : ∀ k, k < N → parseFieldDescriptor (T k).2.2.1 = some (ty0 k)) (hnm : ∀ a, a < N → ∀ b, b < N → a ≠ b → (T a).2.1 ≠ (T b).2.1) (hg : g < N) (hl : Cond.fieldLink own index (T g).1 (T g).2.1 (T g).2.2.1 ∈ Gw) (hfin : (T g).2.2.2 = false) {ty : FieldType} {v : Value} (hd : parseFieldDescriptor (T g).2.2.1 = some ty) (hn : narrow ty v = v) (hfit : fits ty v = true) (hlen : g < fs.length) (hM : M.set j (.inr (ci, fs.set g v)) = M') (d : decode cc pc = .ok (.putfield index, 3))
    (kk : ∀ (H : Heap) (locs : List Loc), Lc E s sz a0 L0 M' H locs → W p l e R s m args below meth c H locs cells slots Q (F0 m (pc + 3) ls rest)) : W p l e R s m args below meth c H locs cells slots Q (F0 m pc ls (v :: .ref (a0 + j) :: rest)) := by
  obtain ⟨⟨hx, hb, hml, hown, hts⟩, hr, hlocks, hF, hA⟩ := C0
  have hap := va_apart (own := own) hts hin ty0 hty hnm hF.1 hcl
  obtain ⟨r, h1, cell, q1, q2, q3, q4⟩ := hL.1 _ _ (wl_at sz a0 L0 M hL.2.2.2.1 hj)
  obtain rfl : r = (C, T, N) := Option.some.inj (h1.symm.trans hcl)
  obtain ⟨hS, hfc, kC, hkC, hkind⟩ := hF.1.1 ci _ hcl
  obtain ⟨cf, kf, fi, f, hi, hsl⟩ := hS g hg
  have hlay := hts _ (hin _ (u_in_lay hg))
  have hst := (u_facts hfc hkC (u_lays hts hin hg) hi).1
  unfold u_lay at hlay
  rw [if_neg (by rw [hfin]; decide)] at hlay
  refine W.putK hx hb (f := f) ⟨hown, hts _ hl, ⟨_, _, _, hi⟩, hst⟩ (by rw [q2]; exact u_store hfc hkC hkind hlay hi hd hn hfit) q1 q3 (by rw [hsl]; exact k2_hasslot (q4 g hg)) rfl rfl d fun H' e1 e2 e3 => ?_
  rw [hsl] at e1 ⊢
  exact kk H' _ (hL.set (y := .inr (ci, fs.set g v)) hj ⟨_, hcl, t_OB.to (V := updV (vp_V fs) g v) ⟨_, e1, q2, q3, t_set q4 hap hg v⟩ (fun k _ => vp_updV_set hlen v k)⟩ e2 e3 hM)
theorem k_get (C0 : Cx E p m c cc nL s args own meth ret) (hL : Lc E s sz a0 L0 M H locs) (j : Nat) {ci : Nat} {fs : List Value} (hj : M[j]? = some (.inr (ci, fs))) {C : String} {T : u_T} {N g index : Nat} (hcl : vwCl[ci]? = some (C, T, N)) (hin : ∀ w ∈ u_ws C T N, w ∈ Gw) (hg : g < N) (hl : Cond.fieldLink own index (T g).1 (T g).2.1 (T g).2.2.1 ∈ Gw) {v : Value} (hv : fs[g]? = some v) (d : decode cc pc = .ok (.getfield index, 3))
    (kk : W p l e R s m args below meth c H locs cells slots Q (F0 m (pc + 3) ls (v :: rest))) : W p l e R s m args below meth c H locs cells slots Q (F0 m pc ls (.ref (a0 + j) :: rest)) := by
  obtain ⟨⟨hx, hb, hml, hown, hts⟩, hr, hlocks, hF, hA⟩ := C0
  exact va_get hx hb hts hin hown hF.1 hL.1 _ (wl_at sz a0 L0 M hL.2.2.2.1 hj) hcl g hg (hts _ hl) (fun _ h => h) hv d kk
theorem k_iast (C0 : Cx E p m c cc nL s args own meth ret) (hL : Lc E s sz a0 L0 M H locs) (j : Nat) {N : Nat} {f : Nat → Int32} (hj : M[j]? = some (.inl (eC E 0, N, .inl f))) {i x : Int32} (hi : vp_in i N) (hM : M.set j (.inl (eC E 0, N, .inl (upd f i.toNatClampNeg x))) = M') (d : decode cc pc = .ok (.iastore, 1))
    (kk : ∀ (H : Heap) (locs : List Loc), Lc E s sz a0 L0 M' H locs → W p l e R s m args below meth c H locs cells slots Q (F0 m (pc + 1) ls rest)) : W p l e R s m args below meth c H locs cells slots Q (F0 m pc ls (.int x :: .int i :: .ref (a0 + j) :: rest)) := by
  obtain ⟨⟨hx, hb, hml, hown, hts⟩, hr, hlocks, hF, hA⟩ := C0
  refine W.iast hx hb (hL.1 _ _ (wl_at sz a0 L0 M hL.2.2.2.1 hj)) ((hF.1.2 0 _ rfl).1 N (fun j => .int (f j))) (fun q => by cases q) (by show ¬ (i < 0 ∨ (arrV _ _ _).slots.size ≤ _); rw [arrV_size]; exact hi) rfl rfl d fun H1 e z oq => ?_
  refine kk H1 _ (hL.set hj ?_ z oq hM)
  show H1[a0 + j]? = some (vp_cell _ _)
  rw [e]
  rw [vp_cell_i, vp_cell_i, arrV_store]
  congr 2
  funext q
  by_cases hq : q = i.toNatClampNeg
  · subst hq
    simp [updV, upd]
  · simp [updV, upd, hq]
theorem k_aast (C0 : Cx E p m c cc nL s args own meth ret) (hL : Lc E s sz a0 L0 M H locs) (j jv : Nat) {N : Nat} {f : Nat → Option Nat} {vs : List Value} (hj : M[j]? = some (.inl (eC E 3, N, .inr (.inr (.inr (.inr f)))))) (hv : M[jv]? = some (.inr (2, vs))) {i : Int32} (hi : vp_in i N) (hM : M.set j (.inl (eC E 3, N, .inr (.inr (.inr (.inr (va_up f i.toNatClampNeg (some (a0 + jv)))))))) = M') (d : decode cc pc = .ok (.aastore, 1))
    (kk : ∀ (H : Heap) (locs : List Loc), Lc E s sz a0 L0 M' H locs → W p l e R s m args below meth c H locs cells slots Q (F0 m (pc + 1) ls rest)) : W p l e R s m args below meth c H locs cells slots Q (F0 m pc ls (.ref (a0 + jv) :: .int i :: .ref (a0 + j) :: rest)) := by
  obtain ⟨⟨hx, hb, hml, hown, hts⟩, hr, hlocks, hF, hA⟩ := C0
  have hlt : i.toNatClampNeg < N := Nat.not_le.mp fun q => hi (Or.inr q)
  obtain ⟨r', hr', cellV, g1, g2, g3, -⟩ := hL.1 _ _ (wl_at sz a0 L0 M hL.2.2.2.1 hv)
  have hcls := (hF.1.1 2 _ rfl).2
  obtain ⟨kA, comp, k1, k2, k3, -⟩ := (hF.1.2 3 _ rfl).2
  obtain rfl : comp = (eD E).1 2 := Option.some.inj (k3.symm.trans hcls.1)
  obtain ⟨kC, hkC, -⟩ := hcls.2
  refine W.aast hx hb (hL.1 _ _ (wl_at sz a0 L0 M hL.2.2.2.1 hj)) (fun q h => by cases h) (fun h => by cases h) k1 k2 rfl hkC ⟨fun q => hi (Or.inl q), by show _ < (arrV _ _ _).slots.size; rw [arrV_size]; exact hlt⟩ g1 (fun q h => by rw [g3] at h; cases h) (by rw [g2]; exact hkC) (by rw [g2]; exact va_assign hcls) rfl rfl d fun H1 e z oq => ?_
  refine kk H1 _ (hL.set hj ?_ z oq hM)
  show H1[a0 + j]? = some (vp_cell _ _)
  rw [e]
  rw [vp_cell_q, vp_cell_q, arrV_store]
  congr 2
  funext q
  by_cases hq : q = i.toNatClampNeg
  · subst hq
    simp [updV, va_up, va_rf]
  · simp [updV, va_up, hq]
theorem k_putFT (C0 : Cx E p m c cc nL s args own meth ret) (hin2 : meth.name = "<init>") (hL : Lc E s sz a0 L0 M H locs) (j : Nat) {ci : Nat} {fs : List Value} (hj : M[j]? = some (.inr (ci, fs))) {C : String} {T : u_T} {N g index : Nat} {nm ds : String} (hT : T g = (own, nm, ds, true)) (hcl : vwCl[ci]? = some (C, T, N)) (hin : ∀ w ∈ u_ws C T N, w ∈ Gw) (ty0 : Nat → FieldType) (hty : ∀ k, k < N → parseFieldDescriptor (T k).2.2.1 = some (ty0 k)) (hnm : ∀ a, a < N → ∀ b, b < N → a ≠ b → (T a).2.1 ≠ (T b).2.1) (hg : g < N) (hl : Cond.fieldLink own index own nm ds ∈ Gw) {ty : FieldType} {v : Value} (hd : parseFieldDescriptor ds = some ty) (hn : narrow ty v = v) (hfit : fits ty v = true) (hlen : g < fs.length) (hM : M.set j (.inr (ci, fs.set g v)) = M') (d : decode cc pc = .ok (.putfield index, 3))
    (kk : ∀ (H : Heap) (locs : List Loc), Lc E s sz a0 L0 M' H locs → W p l e R s m args below meth c H locs cells slots Q (F0 m (pc + 3) ls rest)) : W p l e R s m args below meth c H locs cells slots Q (F0 m pc ls (v :: .ref (a0 + j) :: rest)) :=
  k_putF C0 hin2 hL j hj hcl hin ty0 hty hnm hg (by rw [hT]; exact hl) (by rw [hT]) (by rw [hT]) (by rw [hT]; exact hd) hn hfit hlen hM d kk
theorem k_putT (C0 : Cx E p m c cc nL s args own meth ret) (hL : Lc E s sz a0 L0 M H locs) (j : Nat) {ci : Nat} {fs : List Value} (hj : M[j]? = some (.inr (ci, fs))) {C : String} {T : u_T} {N g index : Nat} {o nm ds : String} (hT : T g = (o, nm, ds, false)) (hcl : vwCl[ci]? = some (C, T, N)) (hin : ∀ w ∈ u_ws C T N, w ∈ Gw) (ty0 : Nat → FieldType) (hty : ∀ k, k < N → parseFieldDescriptor (T k).2.2.1 = some (ty0 k)) (hnm : ∀ a, a < N → ∀ b, b < N → a ≠ b → (T a).2.1 ≠ (T b).2.1) (hg : g < N) (hl : Cond.fieldLink own index o nm ds ∈ Gw) {ty : FieldType} {v : Value} (hd : parseFieldDescriptor ds = some ty) (hn : narrow ty v = v) (hfit : fits ty v = true) (hlen : g < fs.length) (hM : M.set j (.inr (ci, fs.set g v)) = M') (d : decode cc pc = .ok (.putfield index, 3))
    (kk : ∀ (H : Heap) (locs : List Loc), Lc E s sz a0 L0 M' H locs → W p l e R s m args below meth c H locs cells slots Q (F0 m (pc + 3) ls rest)) : W p l e R s m args below meth c H locs cells slots Q (F0 m pc ls (v :: .ref (a0 + j) :: rest)) :=
  k_put C0 hL j hj hcl hin ty0 hty hnm hg (by rw [hT]; exact hl) (by rw [hT]) (by rw [hT]; exact hd) hn hfit hlen hM d kk
/-- an array of references under another function that agrees with it -/
theorem Lc.conv (h : Lc E s sz a0 L0 M H locs) (j : Nat) {cA : ClassId} {N : Nat} {f f' : Nat → Option Nat} (hj : M[j]? = some (.inl (cA, N, .inr (.inr (.inr (.inr f)))))) (hf : ∀ i, i < N → f i = f' i) (hM : M.set j (.inl (cA, N, .inr (.inr (.inr (.inr f'))))) = M') : Lc E s sz a0 L0 M' H locs := by
  obtain ⟨hP, hS, hz, ha, hA⟩ := h
  have hw := wl_at sz a0 L0 M ha hj
  have hP1 := hP.set (wl_D (eA E) sz (L0 ++ M) hA) hw (e := .inl (cA, N, .inr (.inr (.inr (.inr f'))))) (by
    have := hP _ _ hw
    show H[a0 + j]? = some (vp_cell _ _)
    rw [vp_cell_q, ← arrV_congr cA N (f := fun i => va_rf (f i)) (fun i hi => by rw [hf i hi])]
    exact this) (fun _ _ => rfl)
  rw [wl_st sz a0 L0 M ha, hM] at hP1
  exact ⟨hP1, hS, by rw [hz, ← hM, List.length_set], ha, hA⟩
theorem Lc.convi (h : Lc E s sz a0 L0 M H locs) (j : Nat) {cA : ClassId} {N : Nat} {f f' : Nat → Int32} (hj : M[j]? = some (.inl (cA, N, .inl f))) (hf : ∀ i, i < N → f i = f' i) (hM : M.set j (.inl (cA, N, .inl f')) = M') : Lc E s sz a0 L0 M' H locs := by
  obtain ⟨hP, hS, hz, ha, hA⟩ := h
  have hw := wl_at sz a0 L0 M ha hj
  have hP1 := hP.set (wl_D (eA E) sz (L0 ++ M) hA) hw (e := .inl (cA, N, .inl f')) (by
    have := hP _ _ hw
    show H[a0 + j]? = some (vp_cell _ _)
    rw [vp_cell_i, ← arrV_congr cA N (f := fun i => .int (f i)) (fun i hi => by rw [hf i hi])]
    exact this) (fun _ _ => rfl)
  rw [wl_st sz a0 L0 M ha, hM] at hP1
  exact ⟨hP1, hS, by rw [hz, ← hM, List.length_set], ha, hA⟩
theorem Lc.re (h : M = M') (hL : Lc E s sz a0 L0 M H locs) : Lc E s sz a0 L0 M' H locs := h ▸ hL
theorem k_vret (C0 : Cx E p m c cc nL s args own meth none) (hL : Lc E s sz a0 L0 M H locs) (d : decode cc pc = .ok (.return_, 1)) {mc ms : Nat} (hc : cells = mc) (hs : slots = ms) : W p l e R s m args below meth c H locs cells slots (MQ below (QvK E sz a0 L0 M) args s mc ms (eA E)) (F0 m pc ls []) := by
  obtain ⟨⟨hx, hb, hml, hown, hts⟩, hr, hlocks, hF, hA⟩ := C0
  subst hc
  subst hs
  exact W.vret hx hb hr (fun t ht hW => ⟨⟨(), rfl, rfl, by show va_P _ _ _ t.heap ∧ t.heap.size = _; rw [ht]; exact ⟨hL.1, hL.2.2.1⟩⟩, hL.2.1.F ht⟩) hL.2.1.2.2 d
/-- behind a call that has laid cells -/
theorem go_k {mc ms : Nat} {a : Array Value} {st : List Value} {a1 : Nat} {L1 M1 : List va_E} (hL : Lc E s sz a0 L0 M H locs) (hr : va_Run p l e R s m args below meth c H locs cells slots mc ms (F0 m pc ls st) rest (QvK E sz a1 L1 M1 a) (eA E)) (hM : L1 ++ M1 = L0 ++ M') (ha : a1 + M1.length = a0 + M'.length) (kk : ∀ (H : Heap) (locs : List Loc), Lc E s sz a0 L0 M' H locs → W p l e R s m args below meth c H locs (cells + mc) (slots + ms) Q (F0 m (pc + 3) ls rest)) : W p l e R s m args below meth c H locs cells slots Q (F0 m pc ls st) :=
  va_callv hr hL.2.1 (fun _ _ h => h) (fun _ h => h) (fun u t H1 locs1 ht _ hp hB _ _ hS => by
    subst ht
    rw [hM, ha] at hB
    exact kk _ _ ⟨hB.1, hS, hB.2, hL.2.2.2.1, hL.2.2.2.2⟩)
def LkI (y : MethodName) (bytes : ByteArray) (maxL : Nat) : Prop := Cond.instanceMethod y ∈ Gw ∧ Cond.initialized y.cls ∈ Gw ∧ Cond.code y bytes maxL none ∈ Gw ∧ y.name = "<init>" ∧ y.cls ≠ "java/lang/invoke/MethodHandle" ∧ y.cls ≠ "java/lang/invoke/VarHandle" ∧ (parseMethodDescriptor y.desc).map (fun d => d.parameters.length) = some 0 ∧ maxL ≤ 40
theorem PcK_at (hF : Fx E s s.heap) (hN0 : Nx s) (hL : Lc E s sz a0 L0 M H locs) {a1 : Nat} {L1 M1 : List va_E} (hM : L0 ++ M = L1 ++ M1) (ha : a0 + M.length = a1 + M1.length) (ha1 : sz + L1.length = a1) (av : List Value) : ∀ U : State, U.heap = H → s.WarmedH U.vm → va_Pc av (PcK E sz a1 L1 M1) av.toArray U := fun U hU hW => ⟨rfl, by rw [hU, ← hM]; exact hL.1, by rw [hU, hL.2.2.1]; exact ha, ha1, hL.2.2.2.2, by rw [hU]; exact (hF.kept hL.2.1.2.1).warm hW, hN0.warm hW⟩
theorem PcK_blind {a1 : Nat} {L1 M1 : List va_E} (av : List Value) : FrameBlind (va_Pc av (PcK E sz a1 L1 M1)) := fun a U g mk q => ⟨q.1, q.2.1, q.2.2.1, q.2.2.2.1, q.2.2.2.2.1, Fx.same (u := U) (U := U.calling g mk a) rfl q.2.2.2.2.2.1, Nx.same (u := U) (U := U.calling g mk a) rfl q.2.2.2.2.2.2⟩
theorem run_I {y : MethodName} {bytes : ByteArray} {maxL index mc ms h : Nat} {st : List Value} {a1 : Nat} {L1 M1 : List va_E} {Qc : Array Value → State → Outcome → State → Prop} (C0 : Cx E p m c cc nL s args own meth ret) (hN0 : Nx s) (hL : Lc E s sz a0 L0 M H locs) (hM : L0 ++ M = L1 ++ M1) (ha : a0 + M.length = a1 + M1.length) (ha1 : sz + L1.length = a1) (hl : Cond.methodLink own index y ∈ Gw) (Lk : LkI y bytes maxL) (hMt : Met l y (wsM y bytes maxL none) (rmK h mc ms) (va_Pc [.ref a1] (PcK E sz a1 L1 M1)) Qc mc ms (eA E)) (hR : h + 1 ≤ R.frames ∧ 64 * (h + 1) ≤ R.locals) (hls : ls.size = nL) (hst : st = .ref a1 :: rest) (hrest : (rest.map fun v => v.category).sum ≤ 8) (d : decode cc pc = .ok (.invokespecial index, 3)) (hf : cells + mc ≤ R.cells ∧ slots + ms ≤ R.slots) :
    va_Run p l e R s m args below meth c H locs cells slots mc ms (F0 m pc ls st) rest (Qc [Value.ref a1].toArray) (eA E) := by
  obtain ⟨⟨hx, hb, hml, hown, hts⟩, hr, hlocks, hF, hA⟩ := C0
  obtain ⟨l2, l4, l5, l6, l7, l8, l9, l10⟩ := Lk
  have cw : CallB R s args own index y bytes maxL none (wsM y bytes maxL none) (rmK h mc ms) mc ms 0 ∧ y.name = "<init>" ∧ (Cond.instanceMethod y).before args s = true := cwI 0 hts (wsM_good l5) rfl rfl rfl (hts _ l4) (hts _ hl) (hts _ l2) l6 ⟨l7, l8, l9⟩ ⟨hR.1, by show 8 + (maxL + 11) + 64 * h ≤ R.locals; have := hR.2; omega⟩
  exact va_runI (As := []) ⟨hx, hb, hml, hown, hts⟩ hMt cw ⟨PcK_blind _, PcK_at hF hN0 hL hM ha ha1 _⟩ rfl rfl hls hst (lv_room hrest) d hf
theorem run_IN {host : String} {y : MethodName} {bytes : ByteArray} {maxL index mc ms h : Nat} {st : List Value} {a1 : Nat} {L1 M1 : List va_E} {Qc : Array Value → State → Outcome → State → Prop} (C0 : Cx E p m c cc nL s args own meth ret) (hN0 : Nx s) (hL : Lc E s sz a0 L0 M H locs) (hM : L0 ++ M = L1 ++ M1) (ha : a0 + M.length = a1 + M1.length) (ha1 : sz + L1.length = a1) (hl : va_Nw (.methodLinkNest own index y host) s) (Lk : LkI y bytes maxL) (hMt : Met l y (wsM y bytes maxL none) (rmK h mc ms) (va_Pc [.ref a1] (PcK E sz a1 L1 M1)) Qc mc ms (eA E)) (hR : h + 1 ≤ R.frames ∧ 64 * (h + 1) ≤ R.locals) (hls : ls.size = nL) (hst : st = .ref a1 :: rest) (hrest : (rest.map fun v => v.category).sum ≤ 8) (d : decode cc pc = .ok (.invokespecial index, 3)) (hf : cells + mc ≤ R.cells ∧ slots + ms ≤ R.slots) :
    va_Run p l e R s m args below meth c H locs cells slots mc ms (F0 m pc ls st) rest (Qc [Value.ref a1].toArray) (eA E) := by
  obtain ⟨⟨hx, hb, hml, hown, hts⟩, hr, hlocks, hF, hA⟩ := C0
  obtain ⟨l2, l4, l5, l6, l7, l8, l9, l10⟩ := Lk
  have cw : va_CN R s args own index y host bytes maxL none (wsM y bytes maxL none) (rmK h mc ms) mc ms 0 := va_cnB 0 hts (wsM_good l5) rfl rfl rfl hl (hts _ l4) ⟨l7, l8, l9⟩ ⟨hR.1, by show 8 + (maxL + 11) + 64 * h ≤ R.locals; have := hR.2; omega⟩
  exact va_runIN (As := []) ⟨hx, hb, hml, hown, hts⟩ hMt ⟨cw, l6, hts _ l2⟩ ⟨PcK_blind _, PcK_at hF hN0 hL hM ha ha1 _⟩ rfl rfl hls hst (lv_room hrest) d hf
theorem k_alen (C0 : Cx E p m c cc nL s args own meth ret) (hL : Lc E s sz a0 L0 M H locs) (j : Nat) {N : Nat} {f : Nat → Int32} (hj : M[j]? = some (.inl (eC E 0, N, .inl f))) {v : Int32} (hv : Int32.ofNat N = v) (d : decode cc pc = .ok (.arraylength, 1))
    (kk : W p l e R s m args below meth c H locs cells slots Q (F0 m (pc + 1) ls (.int v :: rest))) : W p l e R s m args below meth c H locs cells slots Q (F0 m pc ls (.ref (a0 + j) :: rest)) := by
  obtain ⟨⟨hx, hb, hml, hown, hts⟩, hr, hlocks, hF, hA⟩ := C0
  exact va_alen (x := (N, .inl f)) (ty := .int) hx hb hF.1 hL.1 _ 0 (wl_at sz a0 L0 M hL.2.2.2.1 hj) rfl hv d kk
theorem run_SK {y : MethodName} {bytes : ByteArray} {maxL index n h : Nat} {As st : List Value} {a1 : Nat} {L1 M1 : List va_E} {ret0 : Option FieldType} {Qc : Array Value → State → Outcome → State → Prop} (C0 : Cx E p m c cc nL s args own meth ret) (hN0 : Nx s) (hL : Lc E s sz a0 L0 M H locs) (hM : L0 ++ M = L1 ++ M1) (ha : a0 + M.length = a1 + M1.length) (ha1 : sz + L1.length = a1) (L : LkS own index y bytes maxL ret0 n) (hMt : Met l y (wsM y bytes maxL ret0) (rmK h 0 0) (va_Pc As (PcK E sz a1 L1 M1)) Qc 0 0 (eA E)) (hR : h + 1 ≤ R.frames ∧ 64 * (h + 1) ≤ R.locals) (hn : As.length = n) (hls : ls.size = nL) (hst : st = As.reverse ++ rest) (hrest : (rest.map fun v => v.category).sum ≤ 8) (d : decode cc pc = .ok (.invokestatic index, 3)) (hf : cells ≤ R.cells ∧ slots ≤ R.slots) :
    va_Run p l e R s m args below meth c H locs cells slots 0 0 (F0 m pc ls st) rest (Qc As.toArray) (eA E) := by
  obtain ⟨⟨hx, hb, hml, hown, hts⟩, hr, hlocks, hF, hA⟩ := C0
  obtain ⟨l1, l2, l4, l5, l6, l7, l8, l9⟩ := L
  have cw : CallB R s args own index y bytes maxL ret0 (wsM y bytes maxL ret0) (rmK h 0 0) 0 0 n ∧ (Cond.static y).before args s = true := ⟨callB_of n hts (wsM_good l5) rfl rfl rfl (hts _ l4) (hts _ l1) ⟨l6, l7, l8⟩ ⟨hR.1, by show 8 + (maxL + 11) + 64 * h ≤ R.locals; have := hR.2; omega⟩, hts _ l2⟩
  exact va_runS ⟨hx, hb, hml, hown, hts⟩ hMt cw ⟨PcK_blind _, PcK_at hF hN0 hL hM ha ha1 _⟩ rfl hn hls hst (lv_room hrest) d hf
theorem k_oinit (C0 : Cx E p m c cc nL s args own meth ret) {index a : Nat} (hl : Cond.methodLink own index objectInit ∈ Gw) (hls : ls.size = nL) (hrest : rest = []) (hR : 1 ≤ R.frames ∧ 12 ≤ R.locals) (d : decode cc pc = .ok (.invokespecial index, 3)) (kk : W p l e R s m args below meth c H locs cells slots Q (F0 m (pc + 3) ls rest)) : W p l e R s m args below meth c H locs cells slots Q (F0 m pc ls (.ref a :: rest)) := by
  obtain ⟨⟨hx, hb, hml, hown, hts⟩, hr, hlocks, hF, hA⟩ := C0
  subst hrest
  exact W.objInit hx hb hown (hts _ hl) (hts _ qI_oinit) (hts _ qC_oinit) rfl (by rw [hml]; exact hls) rfl d hR.1 (by show 0 + 12 ≤ _; omega) kk
theorem Met.ofKS {y : MethodName} {bytes : ByteArray} {maxL h : Nat} {ret0 : Option FieldType} {av : List Value} {Qc : Array Value → State → Outcome → State → Prop} {a1 : Nat} {L1 M1 : List va_E} (hy : plainName y.cls = true) (hl : (lg_sl av).length ≤ maxL) (hAd : Ad E)
    (body : ∀ (p : Program) (e : Env) (s : State) (m : MethodId) (below : List Frame) (meth : Method) (c : Code) (ls : Array Slot), Cx E p m c bytes maxL s av.toArray y.cls meth ret0 → Nx s → Lc E s sz a1 L1 M1 s.heap [] → lv_has ls maxL (lv_args 0 av) → W p l e (rmK h 0 0) s m av.toArray below meth c s.heap [] 0 0 (MQ below Qc av.toArray s 0 0 (eA E)) (F0 m 0 ls [])) : Met l y (wsM y bytes maxL ret0) (rmK h 0 0) (va_Pc av (PcK E sz a1 L1 M1)) Qc 0 0 (eA E) := by
  refine Met.ofW (cc := bytes) (maxL := maxL) (ret := ret0) hy rfl ?_
  intro p e s m args below meth c s₁ B hml hv
  obtain ⟨rfl, hP, hz, ha, hA, hF, hN0⟩ := hv
  have hts := atoms_spec (ws := wsM y bytes maxL ret0) B.pre
  rw [lg_entry_eq]
  exact body p e s m below meth c _ ⟨⟨B.exec, B.bytes, hml, findClass_of_methodNamed B.named, fun w hw => hts w (List.mem_cons_of_mem _ hw)⟩, B.returns, B.notSynchronized, hF, hAd⟩ hN0 ⟨hP, va_S.rf, hz, ha, hA⟩ (lv_entry av hl)
theorem Met.ofK {y : MethodName} {bytes : ByteArray} {maxL mc ms h : Nat} {Qc : Array Value → State → Outcome → State → Prop} {a1 : Nat} {L1 M1 : List va_E} (hy : plainName y.cls = true) (hyn : y.name = "<init>") (hl : 1 ≤ maxL) (hAd : Ad E)
    (body : ∀ (p : Program) (e : Env) (s : State) (m : MethodId) (below : List Frame) (meth : Method) (c : Code) (ls : Array Slot), Cx E p m c bytes maxL s [Value.ref a1].toArray y.cls meth none → meth.name = "<init>" → Nx s → Lc E s sz a1 L1 M1 s.heap [] → lv_has ls maxL [(0, .ref a1)] → W p l e (rmK h mc ms) s m [Value.ref a1].toArray below meth c s.heap [] 0 0 (MQ below Qc [Value.ref a1].toArray s mc ms (eA E)) (F0 m 0 ls [])) : Met l y (wsM y bytes maxL none) (rmK h mc ms) (va_Pc [.ref a1] (PcK E sz a1 L1 M1)) Qc mc ms (eA E) := by
  refine Met.ofW (cc := bytes) (maxL := maxL) (ret := none) hy rfl ?_
  intro p e s m args below meth c s₁ B hml hv
  obtain ⟨rfl, hP, hz, ha, hA, hF, hN0⟩ := hv
  have hts := atoms_spec (ws := wsM y bytes maxL none) B.pre
  rw [lg_entry_eq]
  exact body p e s m below meth c _ ⟨⟨B.exec, B.bytes, hml, findClass_of_methodNamed B.named, fun w hw => hts w (List.mem_cons_of_mem _ hw)⟩, B.returns, B.notSynchronized, hF, hAd⟩ ((name_of_methodNamed B.named B.method).1.trans hyn) hN0 ⟨hP, va_S.rf, hz, ha, hA⟩ (lv_entry [.ref a1] hl)
end
