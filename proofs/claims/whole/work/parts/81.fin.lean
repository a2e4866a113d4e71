/-! What the constructors laid is the world of the memory σ0. -/
def σ0 : Mem := fun q => if q = 12 then (fun _ => -1) else if q = 252 then (fun _ => -1) else (fun _ => 0)
theorem σ0_z {q : Nat} (h1 : q ≠ 12) (h2 : q ≠ 252) : σ0 q = fun _ => 0 := by
  unfold σ0
  rw [if_neg h1, if_neg h2]
abbrev zr : Nat → Int32 := fun _ => 0
/-- as good as: at any address, in any heap -/
def cq1 (E : EnvT) (x y : va_E) : Prop := ∀ (q : Nat) (H : Heap), va_at (eD E) vwCl (q, x) H → va_at (eD E) vwCl (q, y) H
theorem cq1.rf {E : EnvT} {x y : va_E} (h : x = y) : cq1 E x y := fun _ _ z => h ▸ z
theorem cq1.ref {E : EnvT} {cA : ClassId} {N : Nat} {f g : Nat → Option Nat} (h : ∀ i, i < N → f i = g i) : cq1 E (.inl (cA, N, .inr (.inr (.inr (.inr f))))) (.inl (cA, N, .inr (.inr (.inr (.inr g))))) := by
  intro q H hv
  have hv : H[q]? = some (vp_cell cA (N, .inr (.inr (.inr (.inr f))))) := hv
  show H[q]? = some (vp_cell cA (N, .inr (.inr (.inr (.inr g)))))
  rw [vp_cell_q] at hv ⊢
  rw [← arrV_congr cA N (f := fun i => va_rf (f i)) (fun i hi => by rw [h i hi])]
  exact hv
theorem cq1.row {E : EnvT} {cA : ClassId} {N : Nat} {f g : Nat → Int32} (h : ∀ i, i < N → f i = g i) : cq1 E (.inl (cA, N, .inl f)) (.inl (cA, N, .inl g)) := by
  intro q H hv
  have hv : H[q]? = some (vp_cell cA (N, .inl f)) := hv
  show H[q]? = some (vp_cell cA (N, .inl g))
  rw [vp_cell_i] at hv ⊢
  rw [← arrV_congr cA N (f := fun i => .int (f i)) (fun i hi => by rw [h i hi])]
  exact hv
def Cq (E : EnvT) (ρ : Mem) (k : Nat) (M : List va_E) (cs : List Nat) : Prop := M.length = cs.length ∧ ∀ (j : Nat) (x : va_E) (c : Nat), M[j]? = some x → cs[j]? = some c → cq1 E x (cellE E (ρ (k + j)) (k + j) c)
theorem Cq.one {E : EnvT} {ρ : Mem} {k : Nat} {x : va_E} {c : Nat} (h : cq1 E x (cellE E (ρ k) k c)) : Cq E ρ k [x] [c] := by
  refine ⟨rfl, fun j y d hy hd => ?_⟩
  have hj : j < 1 := (List.getElem?_eq_some_iff.mp hy).1
  obtain rfl : j = 0 := by omega
  cases hy
  cases hd
  exact h
theorem Cq.app {E : EnvT} {ρ : Mem} {k n : Nat} {A B : List va_E} {ca cb : List Nat} (h1 : Cq E ρ k A ca) (hn : ca.length = n) (h2 : Cq E ρ (k + n) B cb) : Cq E ρ k (A ++ B) (ca ++ cb) := by
  subst hn
  refine ⟨by rw [List.length_append, List.length_append, h1.1, h2.1], fun j x c hx hc => ?_⟩
  by_cases hj : j < A.length
  · rw [List.getElem?_append_left hj] at hx
    rw [List.getElem?_append_left (by rw [← h1.1]; exact hj)] at hc
    exact h1.2 j x c hx hc
  · rw [List.getElem?_append_right (by omega)] at hx
    rw [List.getElem?_append_right (by rw [← h1.1]; omega)] at hc
    have h3 := h2.2 (j - A.length) x c hx (by rw [h1.1]; exact hc)
    have e : k + ca.length + (j - A.length) = k + j := by rw [← h1.1]; omega
    rw [e] at h3
    exact h3
theorem Cq.nil {E : EnvT} {ρ : Mem} {k : Nat} : Cq E ρ k [] [] := ⟨rfl, fun j x c hx _ => by simp at hx⟩
/-- rows of noughts -/
theorem Cq.rep {E : EnvT} {ρ : Mem} {K : Nat} : ∀ (N k : Nat), (∀ j, j < N → ρ (k + j) = zr) → Cq E ρ k (List.replicate N (.inl (eC E 0, K, .inl (fun _ => 0)))) (List.replicate N (100 + K))
  | 0, _, _ => Cq.nil
  | N + 1, k, h => by
    have h1 : Cq E ρ k [.inl (eC E 0, K, .inl (fun _ => 0))] [100 + K] := Cq.one (cq1.rf (by rw [cellE_ia, show ρ k = zr from h 0 (by omega)]))
    have h2 := Cq.rep (E := E) (ρ := ρ) (K := K) N (k + 1) (fun j hj => by rw [show k + 1 + j = k + (j + 1) by omega]; exact h (j + 1) (by omega))
    exact Cq.app (n := 1) h1 rfl h2
theorem Cq.ia {E : EnvT} {ρ : Mem} {k K : Nat} {f : Nat → Int32} (h : ∀ i, i < K → f i = ρ k i) : Cq E ρ k [.inl (eC E 0, K, .inl f)] [100 + K] := Cq.one (by rw [cellE_ia]; exact cq1.row h)
theorem Cq.cast {E : EnvT} {ρ : Mem} {k : Nat} {M M' : List va_E} {cs cs' : List Nat} (h : Cq E ρ k M cs) (e1 : M = M') (e2 : cs = cs') : Cq E ρ k M' cs' := e1 ▸ e2 ▸ h
def Sq (E : EnvT) (sz : Nat) : Prop := ∀ k, ea E k = sz + k
def cd2 : List Nat := (([2] ++ [100 + 10]) ++ ([13] ++ List.replicate 3 (100 + 10)))
set_option maxRecDepth 20000 in
theorem cq_2 {E : EnvT} {ρ : Mem} {sz : Nat} (hs : Sq E sz) (k : Nat) (hz : ∀ j, j < 6 → ρ (k + j) = zr) : Cq E ρ k (kX2 E (sz + k)) cd2 := by
  have he : ea E = fun k => sz + k := funext hs
  exact (Cq.app (n := 2) (Cq.app (n := 1) (Cq.one (cq1.rf (by rw [show ρ k = zr from hz 0 (by omega)]; show _ = (Sum.inr (2, [.int 0, .int 0, .int 0, .ref (ea E (k + 1)), .ref (ea E (k + 2))]) : va_E); first | (rw [he]; done) | (rw [he]; rfl)))) rfl (Cq.ia (fun i _ => by rw [show ρ (k + 1) = zr from hz 1 (by omega)]))) rfl (Cq.app (n := 1) (Cq.one (c := 13) (cq1.ref (g := fun i => some (ea E (k + 2 + 1 + i))) (fun i _ => by rw [hs]; exact congrArg some (by omega)))) rfl (Cq.rep 3 (k + 2 + 1) (fun j hj => by rw [show k + 2 + 1 + j = k + (2 + 1 + j) by omega]; exact hz (2 + 1 + j) (by omega)))))
def cd5 : List Nat := (([5] ++ ([15] ++ List.replicate 10 (100 + 10))) ++ [100 + 10])
set_option maxRecDepth 20000 in
theorem cq_5 {E : EnvT} {ρ : Mem} {sz : Nat} (hs : Sq E sz) (k : Nat) (hz : ∀ j, j < 13 → ρ (k + j) = zr) : Cq E ρ k (kX5 E (sz + k)) cd5 := by
  have he : ea E = fun k => sz + k := funext hs
  exact (Cq.app (n := 12) (Cq.app (n := 1) (Cq.one (cq1.rf (by rw [show ρ k = zr from hz 0 (by omega)]; show _ = (Sum.inr (5, [.int 0, .ref (ea E (k + 1)), .ref (ea E (k + 12))]) : va_E); first | (rw [he]; done) | (rw [he]; rfl)))) rfl (Cq.app (n := 1) (Cq.one (c := 15) (cq1.ref (g := fun i => some (ea E (k + 1 + 1 + i))) (fun i _ => by rw [hs]; exact congrArg some (by omega)))) rfl (Cq.rep 10 (k + 1 + 1) (fun j hj => by rw [show k + 1 + 1 + j = k + (1 + 1 + j) by omega]; exact hz (1 + 1 + j) (by omega))))) rfl (Cq.ia (fun i _ => by rw [show ρ (k + 12) = zr from hz 12 (by omega)])))
def cd6 : List Nat := ((([6] ++ cd5) ++ [100 + 10]) ++ [100 + 10])
set_option maxRecDepth 20000 in
theorem cq_6 {E : EnvT} {ρ : Mem} {sz : Nat} (hs : Sq E sz) (k : Nat) (hz : ∀ j, j < 16 → ρ (k + j) = zr) : Cq E ρ k (kX6 E (sz + k)) cd6 := by
  have he : ea E = fun k => sz + k := funext hs
  exact (Cq.app (n := 15) (Cq.app (n := 14) (Cq.app (n := 1) (Cq.one (cq1.rf (by rw [show ρ k = zr from hz 0 (by omega)]; show _ = (Sum.inr (6, [.ref (ea E (k + 1)), .ref (ea E (k + 14)), .ref (ea E (k + 15)), .int 0]) : va_E); first | (rw [he]; done) | (rw [he]; rfl)))) rfl (cq_5 hs (k + 1) (fun j hj => by rw [show k + 1 + j = k + (1 + j) by omega]; exact hz (1 + j) (by omega)))) rfl (Cq.ia (fun i _ => by rw [show ρ (k + 14) = zr from hz 14 (by omega)]))) rfl (Cq.ia (fun i _ => by rw [show ρ (k + 15) = zr from hz 15 (by omega)])))
def cd9 : List Nat := ((((([9] ++ [100 + 11]) ++ [100 + 11]) ++ [100 + 10]) ++ [100 + 11]) ++ [100 + 10])
set_option maxRecDepth 20000 in
theorem cq_9 {E : EnvT} {ρ : Mem} {sz : Nat} (hs : Sq E sz) (k : Nat) (hz : ∀ j, j < 6 → ρ (k + j) = zr) : Cq E ρ k (kX9 E (sz + k)) cd9 := by
  have he : ea E = fun k => sz + k := funext hs
  exact (Cq.app (n := 5) (Cq.app (n := 4) (Cq.app (n := 3) (Cq.app (n := 2) (Cq.app (n := 1) (Cq.one (cq1.rf (by rw [show ρ k = zr from hz 0 (by omega)]; show _ = (Sum.inr (9, [.ref (ea E (k + 1)), .ref (ea E (k + 2)), .ref (ea E (k + 3)), .ref (ea E (k + 4)), .ref (ea E (k + 5)), .int 0]) : va_E); first | (rw [he]; done) | (rw [he]; rfl)))) rfl (Cq.ia (fun i _ => by rw [show ρ (k + 1) = zr from hz 1 (by omega)]))) rfl (Cq.ia (fun i _ => by rw [show ρ (k + 2) = zr from hz 2 (by omega)]))) rfl (Cq.ia (fun i _ => by rw [show ρ (k + 3) = zr from hz 3 (by omega)]))) rfl (Cq.ia (fun i _ => by rw [show ρ (k + 4) = zr from hz 4 (by omega)]))) rfl (Cq.ia (fun i _ => by rw [show ρ (k + 5) = zr from hz 5 (by omega)])))
def cd4 : List Nat := ((((([4] ++ cd6) ++ cd9) ++ [100 + 10]) ++ ([15] ++ List.replicate 10 (100 + 10))) ++ [100 + 64])
set_option maxRecDepth 20000 in
theorem cq_4 {E : EnvT} {ρ : Mem} {sz : Nat} (hs : Sq E sz) (k : Nat) (hz : ∀ j, j < 36 → ρ (k + j) = zr) : Cq E ρ k (kX4 E (sz + k)) cd4 := by
  have he : ea E = fun k => sz + k := funext hs
  exact (Cq.app (n := 35) (Cq.app (n := 24) (Cq.app (n := 23) (Cq.app (n := 17) (Cq.app (n := 1) (Cq.one (cq1.rf (by rw [show ρ k = zr from hz 0 (by omega)]; show _ = (Sum.inr (4, [.ref (ea E (k + 1)), .ref (ea E (k + 17)), .ref (ea E (k + 23)), .ref (ea E (k + 24)), .int 0, .int 0, .ref (ea E (k + 35)), .int 0]) : va_E); first | (rw [he]; done) | (rw [he]; rfl)))) rfl (cq_6 hs (k + 1) (fun j hj => by rw [show k + 1 + j = k + (1 + j) by omega]; exact hz (1 + j) (by omega)))) rfl (cq_9 hs (k + 17) (fun j hj => by rw [show k + 17 + j = k + (17 + j) by omega]; exact hz (17 + j) (by omega)))) rfl (Cq.ia (fun i _ => by rw [show ρ (k + 23) = zr from hz 23 (by omega)]))) rfl (Cq.app (n := 1) (Cq.one (c := 15) (cq1.ref (g := fun i => some (ea E (k + 24 + 1 + i))) (fun i _ => by rw [hs]; exact congrArg some (by omega)))) rfl (Cq.rep 10 (k + 24 + 1) (fun j hj => by rw [show k + 24 + 1 + j = k + (24 + 1 + j) by omega]; exact hz (24 + 1 + j) (by omega))))) rfl (Cq.ia (fun i _ => by rw [show ρ (k + 35) = zr from hz 35 (by omega)])))
def cd3 : List Nat := ((((([3] ++ cd2) ++ cd6) ++ [100 + 10]) ++ [100 + 1024]) ++ [100 + 11])
set_option maxRecDepth 20000 in
theorem cq_3 {E : EnvT} {ρ : Mem} {sz : Nat} (hs : Sq E sz) (k : Nat) (hz : ∀ j, j < 26 → ρ (k + j) = zr) : Cq E ρ k (kX3 E (sz + k)) cd3 := by
  have he : ea E = fun k => sz + k := funext hs
  exact (Cq.app (n := 25) (Cq.app (n := 24) (Cq.app (n := 23) (Cq.app (n := 7) (Cq.app (n := 1) (Cq.one (cq1.rf (by rw [show ρ k = zr from hz 0 (by omega)]; show _ = (Sum.inr (3, [.ref (ea E (k + 1)), .ref (ea E (k + 7)), .ref (ea E (k + 23)), .int 0, .ref (ea E (k + 24)), .ref (ea E (k + 25))]) : va_E); first | (rw [he]; done) | (rw [he]; rfl)))) rfl (cq_2 hs (k + 1) (fun j hj => by rw [show k + 1 + j = k + (1 + j) by omega]; exact hz (1 + j) (by omega)))) rfl (cq_6 hs (k + 7) (fun j hj => by rw [show k + 7 + j = k + (7 + j) by omega]; exact hz (7 + j) (by omega)))) rfl (Cq.ia (fun i _ => by rw [show ρ (k + 23) = zr from hz 23 (by omega)]))) rfl (Cq.ia (fun i _ => by rw [show ρ (k + 24) = zr from hz 24 (by omega)]))) rfl (Cq.ia (fun i _ => by rw [show ρ (k + 25) = zr from hz 25 (by omega)])))
def cd1 : List Nat := ([1] ++ [100 + 16])
set_option maxRecDepth 20000 in
theorem cq_1 {E : EnvT} {ρ : Mem} {sz : Nat} (hs : Sq E sz) (k : Nat) (hz : ∀ j, j < 2 → ρ (k + j) = zr) : Cq E ρ k (kX1 E (sz + k)) cd1 := by
  have he : ea E = fun k => sz + k := funext hs
  exact (Cq.app (n := 1) (Cq.one (cq1.rf (by rw [show ρ k = zr from hz 0 (by omega)]; show _ = (Sum.inr (1, [.ref (ea E (k + 1)), .int 0, .int 0, .int 0, .int 0, .int 0]) : va_E); first | (rw [he]; done) | (rw [he]; rfl)))) rfl (Cq.ia (fun i _ => by rw [show ρ (k + 1) = zr from hz 1 (by omega)])))
def cd10 : List Nat := ([10] ++ [100 + 130])
set_option maxRecDepth 20000 in
theorem cq_10 {E : EnvT} {ρ : Mem} {sz : Nat} (hs : Sq E sz) (k : Nat) (hz : ∀ j, j < 2 → ρ (k + j) = zr) : Cq E ρ k (kX10 E (sz + k)) cd10 := by
  have he : ea E = fun k => sz + k := funext hs
  exact (Cq.app (n := 1) (Cq.one (cq1.rf (by rw [show ρ k = zr from hz 0 (by omega)]; show _ = (Sum.inr (10, [.ref (ea E (k + 1)), .int 0]) : va_E); first | (rw [he]; done) | (rw [he]; rfl)))) rfl (Cq.ia (fun i _ => by rw [show ρ (k + 1) = zr from hz 1 (by omega)])))
def cd7 : List Nat := ([7] ++ cd2)
set_option maxRecDepth 20000 in
theorem cq_7 {E : EnvT} {ρ : Mem} {sz : Nat} (hs : Sq E sz) (k : Nat) (hz : ∀ j, j < 7 → ρ (k + j) = zr) : Cq E ρ k (kX7 E (sz + k)) cd7 := by
  have he : ea E = fun k => sz + k := funext hs
  exact (Cq.app (n := 1) (Cq.one (cq1.rf (by rw [show ρ k = zr from hz 0 (by omega)]; show _ = (Sum.inr (7, [.ref (ea E (k + 1)), .int 0, .int 0]) : va_E); first | (rw [he]; done) | (rw [he]; rfl)))) rfl (cq_2 hs (k + 1) (fun j hj => by rw [show k + 1 + j = k + (1 + j) by omega]; exact hz (1 + j) (by omega))))
def cd8 : List Nat := ((([8] ++ ([14] ++ List.replicate 8 (100 + 40))) ++ [100 + 8]) ++ [100 + 8])
set_option maxRecDepth 20000 in
theorem cq_8 {E : EnvT} {ρ : Mem} {sz : Nat} (hs : Sq E sz) (k : Nat) (hz : ∀ j, j < 11 → ρ (k + j) = zr) (hm : ρ (k + 11) = fun _ => -1) : Cq E ρ k (kX8 E (sz + k)) cd8 := by
  have he : ea E = fun k => sz + k := funext hs
  exact (Cq.app (n := 11) (Cq.app (n := 10) (Cq.app (n := 1) (Cq.one (cq1.rf (by rw [show ρ k = zr from hz 0 (by omega)]; show _ = (Sum.inr (8, [.ref (ea E (k + 1)), .ref (ea E (k + 10)), .ref (ea E (k + 11))]) : va_E); first | (rw [he]; done) | (rw [he]; rfl)))) rfl (Cq.app (n := 1) (Cq.one (c := 14) (cq1.ref (g := fun i => some (ea E (k + 1 + 1 + i))) (fun i _ => by rw [hs]; exact congrArg some (by omega)))) rfl (Cq.rep 8 (k + 1 + 1) (fun j hj => by rw [show k + 1 + 1 + j = k + (1 + 1 + j) by omega]; exact hz (1 + 1 + j) (by omega))))) rfl (Cq.ia (fun i _ => by rw [show ρ (k + 10) = zr from hz 10 (by omega)]))) rfl (Cq.ia (fun i _ => by rw [show ρ (k + 11) = (fun _ => -1) from hm])))
def cdB : Nat → List Nat
  | 0 => []
  | n + 1 => cdB n ++ cd2
theorem cdB_len : ∀ n, (cdB n).length = 6 * n
  | 0 => rfl
  | n + 1 => by rw [cdB, List.length_append, cdB_len n]; show 6 * n + 6 = _; omega
theorem cq_B {E : EnvT} {ρ : Mem} {sz : Nat} (hs : Sq E sz) (k : Nat) : ∀ n : Nat, (∀ j, j < 6 * n → ρ (k + j) = zr) → Cq E ρ k (kBk E (sz + k) n) (cdB n)
  | 0, _ => Cq.nil
  | n + 1, hz => by
    have h1 := cq_B hs k n (fun j hj => hz j (by omega))
    have h2 := cq_2 (ρ := ρ) hs (k + 6 * n) (fun j hj => by rw [show k + 6 * n + j = k + (6 * n + j) by omega]; exact hz _ (by omega))
    exact (Cq.app h1 (cdB_len n) h2).cast (by rw [kBk, Nat.add_assoc]) rfl
def cd0 : List Nat := ([0] ++ [16]) ++ cdB 24
theorem cq_0 {E : EnvT} {ρ : Mem} {sz : Nat} (hs : Sq E sz) (k : Nat) (hz : ∀ j, j < 146 → ρ (k + j) = zr) : Cq E ρ k (kX0 E (sz + k)) cd0 := by
  have he : ea E = fun k => sz + k := funext hs
  exact Cq.app (n := 2) (Cq.app (n := 1) (Cq.one (cq1.rf (by rw [show ρ k = zr from hz 0 (by omega)]; show _ = (Sum.inr (0, [.ref (ea E (k + 1)), .int 0, .int 0]) : va_E); first | (rw [he]; done) | (rw [he]; rfl)))) rfl (Cq.one (c := 16) (cq1.ref (g := fun i => some (ea E (k + 1 + 1 + 6 * i))) (fun i _ => by rw [hs]; exact congrArg some (by omega))))) rfl (cq_B hs (k + 2) 24 (fun j hj => by rw [show k + 2 + j = k + (2 + j) by omega]; exact hz _ (by omega)))
def cd11 : List Nat := ((((((((((([11] ++ cd8) ++ cd10) ++ cd7) ++ cd2) ++ cd0) ++ [17]) ++ cd4) ++ cd3) ++ cd1) ++ cd2) ++ cd2)
set_option maxRecDepth 20000 in
set_option maxHeartbeats 4000000 in
theorem cq_11 {E : EnvT} {ρ : Mem} {sz : Nat} (hs : Sq E sz) (k : Nat) (hz : ∀ j, j < 251 ∧ j ≠ 12 → ρ (k + j) = zr) (hm : ρ (k + 12) = fun _ => -1) : Cq E ρ k (kX11 E (sz + k)) cd11 := by
  have he : ea E = fun k => sz + k := funext hs
  exact (Cq.app (n := 245) (Cq.app (n := 239) (Cq.app (n := 237) (Cq.app (n := 211) (Cq.app (n := 175) (Cq.app (n := 174) (Cq.app (n := 28) (Cq.app (n := 22) (Cq.app (n := 15) (Cq.app (n := 13) (Cq.app (n := 1) (Cq.one (cq1.rf (by rw [show ρ k = zr from hz 0 (by omega)]; show _ = (Sum.inr (11, [.ref (ea E (k + 1)), .ref (ea E (k + 13)), .ref (ea E (k + 15)), .ref (ea E (k + 22)), .ref (ea E (k + 28)), .ref (ea E (k + 174)), .ref (ea E (k + 175)), .ref (ea E (k + 211)), .ref (ea E (k + 237)), .int 0, .int 0, .int 0]) : va_E); first | (rw [he]; done) | (rw [he]; rfl)))) rfl (cq_8 hs (k + 1) (fun j hj => by rw [show k + 1 + j = k + (1 + j) by omega]; exact hz (1 + j) (by omega)) hm)) rfl (cq_10 hs (k + 13) (fun j hj => by rw [show k + 13 + j = k + (13 + j) by omega]; exact hz (13 + j) (by omega)))) rfl (cq_7 hs (k + 15) (fun j hj => by rw [show k + 15 + j = k + (15 + j) by omega]; exact hz (15 + j) (by omega)))) rfl (cq_2 hs (k + 22) (fun j hj => by rw [show k + 22 + j = k + (22 + j) by omega]; exact hz (22 + j) (by omega)))) rfl (cq_0 hs (k + 28) (fun j hj => by rw [show k + 28 + j = k + (28 + j) by omega]; exact hz (28 + j) (by omega)))) rfl (Cq.one (c := 17) (cq1.ref (g := fun i => some (ea E (k + 174 + 65 + 6 * i))) (fun i _ => by rw [hs]; exact congrArg some (by omega))))) rfl (cq_4 hs (k + 175) (fun j hj => by rw [show k + 175 + j = k + (175 + j) by omega]; exact hz (175 + j) (by omega)))) rfl (cq_3 hs (k + 211) (fun j hj => by rw [show k + 211 + j = k + (211 + j) by omega]; exact hz (211 + j) (by omega)))) rfl (cq_1 hs (k + 237) (fun j hj => by rw [show k + 237 + j = k + (237 + j) by omega]; exact hz (237 + j) (by omega)))) rfl (cq_2 hs (k + 239) (fun j hj => by rw [show k + 239 + j = k + (239 + j) by omega]; exact hz (239 + j) (by omega)))) rfl (cq_2 hs (k + 245) (fun j hj => by rw [show k + 245 + j = k + (245 + j) by omega]; exact hz (245 + j) (by omega))))
def cd12 : List Nat := ([12] ++ (((((((((((((((((([100 + 8] ++ [100 + 8]) ++ [100 + 320]) ++ [100 + 43]) ++ [100 + 43]) ++ [100 + 43]) ++ [100 + 1032]) ++ [100 + 130]) ++ [100 + 10]) ++ [100 + 10]) ++ [100 + 11]) ++ [100 + 11]) ++ [100 + 10]) ++ [100 + 10]) ++ [100 + 11]) ++ [100 + 64]) ++ [18]) ++ [100 + 86]) ++ [100 + 16]))
set_option maxRecDepth 20000 in
set_option maxHeartbeats 4000000 in
theorem cq_12 {E : EnvT} {ρ : Mem} {sz : Nat} (hs : Sq E sz) (k : Nat) (hz : ∀ j, j < 20 ∧ j ≠ 1 → ρ (k + j) = zr) (hm : ρ (k + 1) = fun _ => -1) : Cq E ρ k (kX12 E (sz + k)) cd12 := by
  have he : ea E = fun k => sz + k := funext hs
  exact (Cq.app (n := 1) (Cq.one (cq1.rf (by rw [show ρ k = zr from hz 0 (by omega)]; show _ = (Sum.inr (12, [.int 0, .ref (ea E (k + 1)), .ref (ea E (k + 2)), .ref (ea E (k + 3)), .ref (ea E (k + 4)), .ref (ea E (k + 5)), .ref (ea E (k + 6)), .ref (ea E (k + 7)), .int 0, .ref (ea E (k + 8)), .int 0, .int 0, .int 0, .int 0, .int 0, .int 0, .int 0, .int 0, .ref (ea E (k + 9)), .ref (ea E (k + 10)), .ref (ea E (k + 11)), .ref (ea E (k + 12)), .ref (ea E (k + 13)), .ref (ea E (k + 14)), .ref (ea E (k + 15)), .int 0, .ref (ea E (k + 16)), .int 0, .ref (ea E (k + 17)), .ref (ea E (k + 18)), .ref (ea E (k + 19)), .int 0]) : va_E); first | (rw [he]; done) | (rw [he]; rfl)))) rfl (Cq.app (n := 18) (Cq.app (n := 17) (Cq.app (n := 16) (Cq.app (n := 15) (Cq.app (n := 14) (Cq.app (n := 13) (Cq.app (n := 12) (Cq.app (n := 11) (Cq.app (n := 10) (Cq.app (n := 9) (Cq.app (n := 8) (Cq.app (n := 7) (Cq.app (n := 6) (Cq.app (n := 5) (Cq.app (n := 4) (Cq.app (n := 3) (Cq.app (n := 2) (Cq.app (n := 1) (Cq.ia (fun i hi => by rw [show ρ (k + 1) = (fun _ => -1) from hm]; match i, hi with | 0, _ => rfl | 1, _ => rfl | 2, _ => rfl | 3, _ => rfl | 4, _ => rfl | 5, _ => rfl | 6, _ => rfl | 7, _ => rfl)) rfl (Cq.ia (fun i _ => by rw [show ρ (k + 1 + 1) = zr from hz 2 (by omega)]))) rfl (Cq.ia (fun i _ => by rw [show ρ (k + 1 + 2) = zr from hz 3 (by omega)]))) rfl (Cq.ia (fun i _ => by rw [show ρ (k + 1 + 3) = zr from hz 4 (by omega)]))) rfl (Cq.ia (fun i _ => by rw [show ρ (k + 1 + 4) = zr from hz 5 (by omega)]))) rfl (Cq.ia (fun i _ => by rw [show ρ (k + 1 + 5) = zr from hz 6 (by omega)]))) rfl (Cq.ia (fun i _ => by rw [show ρ (k + 1 + 6) = zr from hz 7 (by omega)]))) rfl (Cq.ia (fun i _ => by rw [show ρ (k + 1 + 7) = zr from hz 8 (by omega)]))) rfl (Cq.ia (fun i _ => by rw [show ρ (k + 1 + 8) = zr from hz 9 (by omega)]))) rfl (Cq.ia (fun i _ => by rw [show ρ (k + 1 + 9) = zr from hz 10 (by omega)]))) rfl (Cq.ia (fun i _ => by rw [show ρ (k + 1 + 10) = zr from hz 11 (by omega)]))) rfl (Cq.ia (fun i _ => by rw [show ρ (k + 1 + 11) = zr from hz 12 (by omega)]))) rfl (Cq.ia (fun i _ => by rw [show ρ (k + 1 + 12) = zr from hz 13 (by omega)]))) rfl (Cq.ia (fun i _ => by rw [show ρ (k + 1 + 13) = zr from hz 14 (by omega)]))) rfl (Cq.ia (fun i _ => by rw [show ρ (k + 1 + 14) = zr from hz 15 (by omega)]))) rfl (Cq.ia (fun i _ => by rw [show ρ (k + 1 + 15) = zr from hz 16 (by omega)]))) rfl (Cq.one (c := 18) (cq1.rf (by rw [show ρ (k + 1 + 16) = zr from hz 17 (by omega)]; rfl)))) rfl (Cq.ia (fun i _ => by rw [show ρ (k + 1 + 17) = zr from hz 18 (by omega)]))) rfl (Cq.ia (fun i _ => by rw [show ρ (k + 1 + 18) = zr from hz 19 (by omega)]))))
theorem cd_KD : cd11 ++ cd12 = KD := by decide +kernel
theorem cq_all {E : EnvT} {sz : Nat} (hs : Sq E sz) : Cq E σ0 0 (kX11 E sz ++ kX12 E (sz + 251)) KD := by
  have h1 := cq_11 (ρ := σ0) hs 0 (fun j hj => by rw [Nat.zero_add]; exact σ0_z (by omega) (by omega)) rfl
  have h2 := cq_12 (ρ := σ0) hs 251 (fun j hj => σ0_z (by omega) (by omega)) rfl
  have h3 := Cq.app (n := 251) h1 (by decide +kernel) (by rw [Nat.zero_add]; exact h2)
  rw [cd_KD] at h3
  exact h3
theorem fin_wd {E : EnvT} {sz : Nat} {H : Heap} (hs : Sq E sz) (hP : va_P (eD E) vwCl (wl sz (kX11 E sz ++ kX12 E (sz + 251))) H) : va_P (eD E) vwCl (wd E σ0) H := by
  obtain ⟨hlen, hq⟩ := cq_all hs
  intro k q hk
  have hl : k < NC := by
    have := (List.getElem?_eq_some_iff.mp hk).1
    rwa [wd_len] at this
  have hk2 : (wd E σ0)[k]? = some (ea E k, cellE E (σ0 k) k (kd k)) := by
    unfold wd
    rw [List.getElem?_map, List.getElem?_range hl]
    rfl
  rw [hk2] at hk
  cases hk
  have hkd : KD[k]? = some (kd k) := by
    unfold kd
    rw [List.getD_eq_getElem?_getD, List.getElem?_eq_getElem (by rw [KD_len]; exact hl)]
    rfl
  cases hM : (kX11 E sz ++ kX12 E (sz + 251))[k]? with
  | none =>
    rw [List.getElem?_eq_none_iff, hlen, KD_len] at hM
    omega
  | some x =>
    have h1 := hq k x _ hM hkd
    rw [Nat.zero_add] at h1
    have h2 := hP k (sz + k, x) (by rw [wl_get, hM]; rfl)
    rw [hs k]
    exact h1 _ _ h2
