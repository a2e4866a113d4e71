/-! Small words for the functions that methods become; rows that peel them. -/
def FU : Nat := 1000000000
abbrev nc (x : Int32) : Nat := x.toNatClampNeg
abbrev shl (x y : Int32) : Int32 := x <<< (y &&& 31)
abbrev shr (x y : Int32) : Int32 := x >>> (y &&& 31)
abbrev ushr (x y : Int32) : Int32 := (x.toUInt32 >>> (y.toUInt32 &&& Int32.toUInt32 31)).toInt32
abbrev lushr (x : Int64) (y : Int32) : Int64 := (x.toUInt64 >>> (y.toInt64.toUInt64 &&& Int64.toUInt64 63)).toInt64
abbrev lshl (x : Int64) (y : Int32) : Int64 := x <<< (y.toInt64 &&& 63)
abbrev irm (x y : Int32) : Int32 := x - x / y * y
abbrev lrm (x y : Int64) : Int64 := x - x / y * y
abbrev mx (x y : Int32) : Int32 := if x < y then y else x
abbrev mn (x y : Int32) : Int32 := if y < x then y else x
abbrev ab (x : Int32) : Int32 := if 0 ≤ x then x else 0 - x
abbrev i2b (x : Int32) : Int32 := x.toInt8.toInt32
abbrev i2s (x : Int32) : Int32 := x.toInt16.toInt32
abbrev i2c (x : Int32) : Int32 := (x.toUInt32 % 65536).toInt32
def letv {α β : Type} (x : α) (f : α → β) : β := f x
def ob {α β : Type} (x : Option α) (f : α → Option β) : Option β := match x with
  | none => none
  | some a => f a
def ob2 {α β : Type} (x : Option (α × Mem)) (f : α → Mem → Option β) : Option β := match x with
  | none => none
  | some q => f q.1 q.2
/-- an index is looked at -/
def gdx {α : Type} (i : Int32) (n : Nat) (x : Option α) : Option α := if i < 0 ∨ n ≤ i.toNatClampNeg then none else x
def gdz {α : Type} (y : Int32) (x : Option α) : Option α := if y = 0 then none else x
def gdl {α : Type} (y : Int64) (x : Option α) : Option α := if y = 0 then none else x
def gdb {α : Type} (v : Int32) (x : Option α) : Option α := if v = 0 ∨ v = 1 then x else none
def gdc {α : Type} (sp dp n : Int32) (n0 n1 : Nat) (x : Option α) : Option α := if ¬ sp < 0 ∧ ¬ dp < 0 ∧ ¬ n < 0 ∧ sp.toNatClampNeg + n.toNatClampNeg ≤ n0 ∧ dp.toNatClampNeg + n.toNatClampNeg ≤ n1 then x else none
theorem letv_s {α β : Type} {x : α} {f : α → β} {r : β} (h : letv x f = r) : ∃ y, y = x ∧ f y = r := ⟨x, rfl, h⟩
theorem ob_s {α β : Type} {x : Option α} {f : α → Option β} {r : β} (h : ob x f = some r) : ∃ a, x = some a ∧ f a = some r := by
  cases x with
  | none => cases h
  | some a => exact ⟨a, rfl, h⟩
theorem ob2_s {α β : Type} {x : Option (α × Mem)} {f : α → Mem → Option β} {r : β} (h : ob2 x f = some r) : ∃ a σ, x = some (a, σ) ∧ f a σ = some r := by
  cases x with
  | none => cases h
  | some q => exact ⟨q.1, q.2, rfl, h⟩
theorem gdx_s {α : Type} {i : Int32} {n : Nat} {x : Option α} {r : α} (h : gdx i n x = some r) : vp_in i n ∧ x = some r := by
  unfold gdx at h
  by_cases hc : i < 0 ∨ n ≤ i.toNatClampNeg
  · rw [if_pos hc] at h
    cases h
  · rw [if_neg hc] at h
    exact ⟨hc, h⟩
theorem gdz_s {α : Type} {y : Int32} {x : Option α} {r : α} (h : gdz y x = some r) : ¬ y = 0 ∧ x = some r := by
  unfold gdz at h
  by_cases hc : y = 0
  · rw [if_pos hc] at h
    cases h
  · rw [if_neg hc] at h
    exact ⟨hc, h⟩
theorem gdl_s {α : Type} {y : Int64} {x : Option α} {r : α} (h : gdl y x = some r) : ¬ y = 0 ∧ x = some r := by
  unfold gdl at h
  by_cases hc : y = 0
  · rw [if_pos hc] at h
    cases h
  · rw [if_neg hc] at h
    exact ⟨hc, h⟩
theorem gdb_s {α : Type} {v : Int32} {x : Option α} {r : α} (h : gdb v x = some r) : (v = 0 ∨ v = 1) ∧ x = some r := by
  unfold gdb at h
  by_cases hc : v = 0 ∨ v = 1
  · rw [if_pos hc] at h
    exact ⟨hc, h⟩
  · rw [if_neg hc] at h
    cases h
theorem gdc_s {α : Type} {sp dp n : Int32} {n0 n1 : Nat} {x : Option α} {r : α} (h : gdc sp dp n n0 n1 x = some r) : (¬ sp < 0 ∧ ¬ dp < 0 ∧ ¬ n < 0 ∧ sp.toNatClampNeg + n.toNatClampNeg ≤ n0 ∧ dp.toNatClampNeg + n.toNatClampNeg ≤ n1) ∧ x = some r := by
  unfold gdc at h
  by_cases hc : ¬ sp < 0 ∧ ¬ dp < 0 ∧ ¬ n < 0 ∧ sp.toNatClampNeg + n.toNatClampNeg ≤ n0 ∧ dp.toNatClampNeg + n.toNatClampNeg ≤ n1
  · rw [if_pos hc] at h
    exact ⟨hc, h⟩
  · rw [if_neg hc] at h
    cases h
theorem if_t {α : Type} {c : Prop} [Decidable c] {a b r : α} (h : (if c then a else b) = r) (hc : c) : a = r := by rw [if_pos hc] at h; exact h
theorem if_f {α : Type} {c : Prop} [Decidable c] {a b r : α} (h : (if c then a else b) = r) (hc : ¬ c) : b = r := by rw [if_neg hc] at h; exact h
theorem pj1 {α β : Type} {a c : α} {b d : β} (h : some (a, b) = some (c, d)) : a = c := (Prod.mk.inj (Option.some.inj h)).1
theorem pj2 {α β : Type} {a c : α} {b d : β} (h : some (a, b) = some (c, d)) : b = d := (Prod.mk.inj (Option.some.inj h)).2
theorem vin {i : Int32} {n : Nat} (h : ¬ (i < 0 ∨ n ≤ i.toNatClampNeg)) : vp_in i n := h
theorem i32_ne {x y : Int32} (h : ¬ x = y) : x.toInt ≠ y.toInt := fun e => h (Int32.toInt_inj.mp e)
theorem i32_nv {x y : Int32} {v : Int} (h : ¬ x = y) (hv : y.toInt = v) : x.toInt ≠ v := fun e => h (Int32.toInt_inj.mp (e.trans hv.symm))
section
variable {p : Program} {l : Launch} {e : Env} {R : Room} {s : State} {m : MethodId} {args : Array Value} {below : List Frame} {meth : Method} {c : Code} {H : Heap} {locs : List Loc} {Q : State → Prop}
variable {E : EnvT} {cc : ByteArray} {nL : Nat} {own : String} {ret : Option FieldType} {σ : Mem} {pc : Nat} {ls : Array Slot} {rest : List Value} {k : Nat}
theorem hs_of {σ1 : Mem} (e1 : σ1 = σ) (hH : Hs E s σ H locs) : Hs E s σ1 H locs := by rw [e1]; exact hH
theorem topi_of {x y : Int32} (e1 : y = x) (kk : W p l e R s m args below meth c H locs 0 0 Q (F0 m pc ls (.int y :: rest))) : W p l e R s m args below meth c H locs 0 0 Q (F0 m pc ls (.int x :: rest)) := by rw [← e1]; exact kk
theorem topl_of {x y : Int64} (e1 : y = x) (kk : W p l e R s m args below meth c H locs 0 0 Q (F0 m pc ls (.long y :: rest))) : W p l e R s m args below meth c H locs 0 0 Q (F0 m pc ls (.long x :: rest)) := by rw [← e1]; exact kk
theorem ra_13 (C0 : Cx E p m c cc nL s args own meth ret) (hH : Hs E s σ H locs) (hk : kd k = 13) {i : Int32} (hin : vp_in i 3) (d : decode cc pc = .ok (.aaload, 1)) (kk : W p l e R s m args below meth c H locs 0 0 Q (F0 m (pc + 1) ls (.ref (ea E (k + 1 + nc i)) :: rest))) : W p l e R s m args below meth c H locs 0 0 Q (F0 m pc ls (.int i :: .ref (ea E k) :: rest)) := r_aald (cd := 13) (n := 3) (t0 := 2) (f := fun i => k + 1 + i) (ty := .array .int) C0 hH hk (by decide) rfl rfl rfl hin d kk
theorem ra_14 (C0 : Cx E p m c cc nL s args own meth ret) (hH : Hs E s σ H locs) (hk : kd k = 14) {i : Int32} (hin : vp_in i 8) (d : decode cc pc = .ok (.aaload, 1)) (kk : W p l e R s m args below meth c H locs 0 0 Q (F0 m (pc + 1) ls (.ref (ea E (k + 1 + nc i)) :: rest))) : W p l e R s m args below meth c H locs 0 0 Q (F0 m pc ls (.int i :: .ref (ea E k) :: rest)) := r_aald (cd := 14) (n := 8) (t0 := 2) (f := fun i => k + 1 + i) (ty := .array .int) C0 hH hk (by decide) rfl rfl rfl hin d kk
theorem ra_15 (C0 : Cx E p m c cc nL s args own meth ret) (hH : Hs E s σ H locs) (hk : kd k = 15) {i : Int32} (hin : vp_in i 10) (d : decode cc pc = .ok (.aaload, 1)) (kk : W p l e R s m args below meth c H locs 0 0 Q (F0 m (pc + 1) ls (.ref (ea E (k + 1 + nc i)) :: rest))) : W p l e R s m args below meth c H locs 0 0 Q (F0 m pc ls (.int i :: .ref (ea E k) :: rest)) := r_aald (cd := 15) (n := 10) (t0 := 2) (f := fun i => k + 1 + i) (ty := .array .int) C0 hH hk (by decide) rfl rfl rfl hin d kk
theorem ra_16 (C0 : Cx E p m c cc nL s args own meth ret) (hH : Hs E s σ H locs) (hk : kd k = 16) {i : Int32} (hin : vp_in i 24) (d : decode cc pc = .ok (.aaload, 1)) (kk : W p l e R s m args below meth c H locs 0 0 Q (F0 m (pc + 1) ls (.ref (ea E (k + 1 + 6 * nc i)) :: rest))) : W p l e R s m args below meth c H locs 0 0 Q (F0 m pc ls (.int i :: .ref (ea E k) :: rest)) := r_aald (cd := 16) (n := 24) (t0 := 3) (f := fun i => k + 1 + 6 * i) (ty := .object "HandsInBook$Book") C0 hH hk (by decide) rfl rfl rfl hin d kk
theorem ra_17 (C0 : Cx E p m c cc nL s args own meth ret) (hH : Hs E s σ H locs) (hk : kd k = 17) {i : Int32} (hin : vp_in i 2) (d : decode cc pc = .ok (.aaload, 1)) (kk : W p l e R s m args below meth c H locs 0 0 Q (F0 m (pc + 1) ls (.ref (ea E (k + 65 + 6 * nc i)) :: rest))) : W p l e R s m args below meth c H locs 0 0 Q (F0 m pc ls (.int i :: .ref (ea E k) :: rest)) := r_aald (cd := 17) (n := 2) (t0 := 3) (f := fun i => k + 65 + 6 * i) (ty := .object "HandsInBook$Book") C0 hH hk (by decide) rfl rfl rfl hin d kk
theorem r_nk (C0 : Cx E p m c cc nL s args RX11 meth ret) (hH : Hs E s σ H locs) (d : decode cc pc = .ok (.getstatic 362, 3)) (kk : W p l e R s m args below meth c H locs 0 0 Q (F0 m (pc + 3) ls (.ref (eN E) :: rest))) : W p l e R s m args below meth c H locs 0 0 Q (F0 m pc ls rest) := by
  obtain ⟨⟨hx, hb, hml, hown, hts⟩, hr, hlocks, hF, hA⟩ := C0
  exact va_gets hx hb hF.2.1 hH.2 hown (hts _ qF_X11_362) (fun _ h => h) d kk
theorem r_nkald (C0 : Cx E p m c cc nL s args own meth ret) (hH : Hs E s σ H locs) {i : Int32} (hin : vp_in i 6) (d : decode cc pc = .ok (.iaload, 1)) (kk : W p l e R s m args below meth c H locs 0 0 Q (F0 m (pc + 1) ls (.int (nkF (nc i)) :: rest))) : W p l e R s m args below meth c H locs 0 0 Q (F0 m pc ls (.int i :: .ref (eN E) :: rest)) := by
  obtain ⟨⟨hx, hb, hml, hown, hts⟩, hr, hlocks, hF, hA⟩ := C0
  exact va_ti hx hb hF.2.2.1 hH.2 hin rfl d kk
end
theorem cob_0 (E : EnvT) (g : Nat → Int32) (k : Nat) : cellE E g k 0 = .inr (0, [.ref (ea E (k + 1)), .int (g 1), .int (g 2)]) := rfl
theorem cob_1 (E : EnvT) (g : Nat → Int32) (k : Nat) : cellE E g k 1 = .inr (1, [.ref (ea E (k + 1)), .int (g 1), .int (g 2), .int (g 3), .int (g 4), .int (g 5)]) := rfl
theorem cob_2 (E : EnvT) (g : Nat → Int32) (k : Nat) : cellE E g k 2 = .inr (2, [.int (g 0), .int (g 1), .int (g 2), .ref (ea E (k + 1)), .ref (ea E (k + 2))]) := rfl
theorem cob_3 (E : EnvT) (g : Nat → Int32) (k : Nat) : cellE E g k 3 = .inr (3, [.ref (ea E (k + 1)), .ref (ea E (k + 7)), .ref (ea E (k + 23)), .int (g 3), .ref (ea E (k + 24)), .ref (ea E (k + 25))]) := rfl
theorem cob_4 (E : EnvT) (g : Nat → Int32) (k : Nat) : cellE E g k 4 = .inr (4, [.ref (ea E (k + 1)), .ref (ea E (k + 17)), .ref (ea E (k + 23)), .ref (ea E (k + 24)), .int (g 4), .int (g 5), .ref (ea E (k + 35)), .int (g 7)]) := rfl
theorem cob_5 (E : EnvT) (g : Nat → Int32) (k : Nat) : cellE E g k 5 = .inr (5, [.int (g 0), .ref (ea E (k + 1)), .ref (ea E (k + 12))]) := rfl
theorem cob_6 (E : EnvT) (g : Nat → Int32) (k : Nat) : cellE E g k 6 = .inr (6, [.ref (ea E (k + 1)), .ref (ea E (k + 14)), .ref (ea E (k + 15)), .int (g 3)]) := rfl
theorem cob_7 (E : EnvT) (g : Nat → Int32) (k : Nat) : cellE E g k 7 = .inr (7, [.ref (ea E (k + 1)), .int (g 1), .int (g 2)]) := rfl
theorem cob_8 (E : EnvT) (g : Nat → Int32) (k : Nat) : cellE E g k 8 = .inr (8, [.ref (ea E (k + 1)), .ref (ea E (k + 10)), .ref (ea E (k + 11))]) := rfl
theorem cob_9 (E : EnvT) (g : Nat → Int32) (k : Nat) : cellE E g k 9 = .inr (9, [.ref (ea E (k + 1)), .ref (ea E (k + 2)), .ref (ea E (k + 3)), .ref (ea E (k + 4)), .ref (ea E (k + 5)), .int (g 5)]) := rfl
theorem cob_10 (E : EnvT) (g : Nat → Int32) (k : Nat) : cellE E g k 10 = .inr (10, [.ref (ea E (k + 1)), .int (g 1)]) := rfl
theorem cob_11 (E : EnvT) (g : Nat → Int32) (k : Nat) : cellE E g k 11 = .inr (11, [.ref (ea E (k + 1)), .ref (ea E (k + 13)), .ref (ea E (k + 15)), .ref (ea E (k + 22)), .ref (ea E (k + 28)), .ref (ea E (k + 174)), .ref (ea E (k + 175)), .ref (ea E (k + 211)), .ref (ea E (k + 237)), .int (g 9), .int (g 10), .int (g 11)]) := rfl
theorem cob_12 (E : EnvT) (g : Nat → Int32) (k : Nat) : cellE E g k 12 = .inr (12, [.int (g 0), .ref (ea E (k + 1)), .ref (ea E (k + 2)), .ref (ea E (k + 3)), .ref (ea E (k + 4)), .ref (ea E (k + 5)), .ref (ea E (k + 6)), .ref (ea E (k + 7)), .int (g 8), .ref (ea E (k + 8)), .int (g 10), .int (g 11), .int (g 12), .int (g 13), .int (g 14), .int (g 15), .int (g 16), .int (g 17), .ref (ea E (k + 9)), .ref (ea E (k + 10)), .ref (ea E (k + 11)), .ref (ea E (k + 12)), .ref (ea E (k + 13)), .ref (ea E (k + 14)), .ref (ea E (k + 15)), .int (g 25), .ref (ea E (k + 16)), .int (g 27), .ref (ea E (k + 17)), .ref (ea E (k + 18)), .ref (ea E (k + 19)), .int (g 31)]) := rfl
