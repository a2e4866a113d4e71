/-! PURE: ask. -/
def mkl (k : Nat) : List Nat := if k = 2 then [24, 21, 20] else if k = 3 then [22, 21, 20] else if k = 4 then [23, 20, 13, 10] else if k = 5 then [23, 20, 14, 13, 10] else [21, 20]
def mkv (k p h s : Nat) : Int32 := if k = 2 then 2 * (nI p + nI h) else if k = 3 then nI p + nI h - 1000 else if k = 4 then nI p - (nI s - 100) else if k = 5 then nI p - 2 * (nI s - 100) else nI p + nI h
def szl (k : Nat) : List Nat := if k = 2 then [12, 11, 10] ++ mkl k else if k = 4 then [13, 10] else if k = 5 then [14, 13, 10] else [11, 10] ++ mkl k
def szv (k p h s : Nat) : Int32 := if k = 2 then -(nI s + mkv k p h s) else if k = 4 then nI s - 100 else if k = 5 then 2 * (nI s - 100) else nI s + mkv k p h s
/-- what is asked, on the class's side -/
def CK (p h k s : Nat) (σ : Mem) (l : List Nat) : Prop := WrA σ 238 237 1 l ∧ σ 237 2 = nI p ∧ σ 237 3 = nI h ∧ σ 237 4 = nI k ∧ σ 237 5 = nI s
def FrC (σ σ' : Mem) : Prop := ∀ q, q ≠ 237 → q ≠ 238 → σ' q = σ q
theorem FrC.tr {a b c : Mem} (h : FrC a b) (h' : FrC b c) : FrC a c := fun q x y => by rw [h' q x y, h q x y]
section
variable {p h k s : Nat}
theorem lv_s {σ : Mem} {l : List Nat} (a : CK p h k s σ l) (hl : l.length < 16) (x : Nat) : ∃ σ', X1_leave 237 (nI x) σ = some σ' ∧ CK p h k s σ' (l ++ [x]) ∧ FrC σ σ' := by
  obtain ⟨a1, a2, a3, a4, a5⟩ := a
  refine ⟨wr (wr σ 238 l.length (nI x)) 237 1 (nI (l.length + 1)), ?_, ⟨WrA_add a1 (by omega) x, ?_, ?_, ?_, ?_⟩, fun q u v => by rw [wr_off _ _ _ u, wr_off _ _ _ v]⟩
  · unfold X1_leave X1_leave_b0
    rw [a1.1, if_neg (show ¬ (16 : Int32) ≤ nI l.length from nI_ge (b := 16) (by omega) (by omega)), gdx_n (by omega) (by omega), letv_eq, nc_n (by omega), wr_off _ _ _ (by omega), a1.1, nI_1]
  · rw [wr_in _ _ (by omega), wr_off _ _ _ (by omega)]
    exact a2
  · rw [wr_in _ _ (by omega), wr_off _ _ _ (by omega)]
    exact a3
  · rw [wr_in _ _ (by omega), wr_off _ _ _ (by omega)]
    exact a4
  · rw [wr_in _ _ (by omega), wr_off _ _ _ (by omega)]
    exact a5
theorem sLent {σ : Mem} {l : List Nat} (a : CK p h k s σ l) (hl : l.length < 16) : ∃ σ', X1_sizeLent 237 σ = some (nI s, σ') ∧ CK p h k s σ' (l ++ [10]) ∧ FrC σ σ' := by
  obtain ⟨σ1, a1, a2, a3⟩ := lv_s a hl 10
  refine ⟨σ1, ?_, a2, a3⟩
  unfold X1_sizeLent X1_sizeLent_b0
  rw [show X1_leave 237 10 σ = _ from a1, ob_some, a2.2.2.2.2]
theorem mLent {σ : Mem} {l : List Nat} (a : CK p h k s σ l) (hl : l.length < 16) : ∃ σ', X1_markLent 237 σ = some (nI p, σ') ∧ CK p h k s σ' (l ++ [20]) ∧ FrC σ σ' := by
  obtain ⟨σ1, a1, a2, a3⟩ := lv_s a hl 20
  refine ⟨σ1, ?_, a2, a3⟩
  unfold X1_markLent X1_markLent_b0
  rw [show X1_leave 237 20 σ = _ from a1, ob_some, a2.2.1]
theorem sCopy {σ : Mem} {l : List Nat} (a : CK p h k s σ l) (hl : l.length < 14) : ∃ σ', X1_sizeOfCopy 237 σ = some (nI s - 100, σ') ∧ CK p h k s σ' (l ++ [13, 10]) ∧ FrC σ σ' := by
  obtain ⟨σ1, a1, a2, a3⟩ := lv_s a (by omega) 13
  obtain ⟨σ2, b1, b2, b3⟩ := sLent a2 (by rw [List.length_append]; show l.length + 1 < 16; omega)
  refine ⟨σ2, ?_, by simpa [List.append_assoc] using b2, a3.tr b3⟩
  unfold X1_sizeOfCopy X1_sizeOfCopy_b0
  rw [show X1_leave 237 13 σ = _ from a1, ob_some, b1, ob2_some]
theorem sAny {σ : Mem} {l : List Nat} (a : CK p h k s σ l) (hl : l.length < 12) (hk5 : k ≤ 5) : ∃ σ', X1_sizeOfAnyCopy 237 σ = some (if k = 5 then 2 * (nI s - 100) else nI s - 100, σ') ∧ CK p h k s σ' (l ++ (if k = 5 then [14, 13, 10] else [13, 10])) ∧ FrC σ σ' := by
  unfold X1_sizeOfAnyCopy X1_sizeOfAnyCopy_b0
  rw [a.2.2.2.1]
  by_cases c : k = 5
  · rw [if_pos (show nI k = 5 by rw [c]; rfl), if_pos c, if_pos c]
    obtain ⟨σ1, a1, a2, a3⟩ := lv_s a (by omega) 14
    obtain ⟨σ2, b1, b2, b3⟩ := sCopy a2 (by rw [List.length_append]; show l.length + 1 < 14; omega)
    refine ⟨σ2, ?_, by simpa [List.append_assoc] using b2, a3.tr b3⟩
    rw [show X1_leave 237 14 σ = _ from a1, ob_some, b1, ob2_some]
  · rw [if_neg (show ¬ nI k = 5 from fun q => c ((nI_inj (b := 5) (by omega) (by omega)).mp q)), if_neg c, if_neg c]
    obtain ⟨σ2, b1, b2, b3⟩ := sCopy a (by omega)
    refine ⟨σ2, ?_, b2, b3⟩
    rw [b1, ob2_some]
theorem mPlain {σ : Mem} {l : List Nat} (a : CK p h k s σ l) (hl : l.length < 14) : ∃ σ', X1_markOfPlain 237 σ = some (nI p + nI h, σ') ∧ CK p h k s σ' (l ++ [21, 20]) ∧ FrC σ σ' := by
  obtain ⟨σ1, a1, a2, a3⟩ := lv_s a (by omega) 21
  obtain ⟨σ2, b1, b2, b3⟩ := mLent a2 (by rw [List.length_append]; show l.length + 1 < 16; omega)
  refine ⟨σ2, ?_, by simpa [List.append_assoc] using b2, a3.tr b3⟩
  unfold X1_markOfPlain X1_markOfPlain_b0
  rw [show X1_leave 237 21 σ = _ from a1, ob_some, b1, ob2_some, b2.2.2.1]
theorem cAnyPl {σ : Mem} {l : List Nat} (a : CK p h k s σ l) (hl : l.length < 8) (hk1 : 1 ≤ k) (hk3 : k ≤ 3) : ∃ σ', X1_markOfAnyPlain 237 σ = some (mkv k p h s, σ') ∧ CK p h k s σ' (l ++ mkl k) ∧ FrC σ σ' := by
  unfold X1_markOfAnyPlain X1_markOfAnyPlain_b0
  rw [a.2.2.2.1]
  rcases (show k = 1 ∨ k = 2 ∨ k = 3 by omega) with rfl | rfl | rfl
  · rw [if_neg (show ¬ nI 1 = 2 by decide), if_neg (show ¬ nI 1 = 3 by decide)]
    obtain ⟨σ2, b1, b2, b3⟩ := mPlain a (by omega)
    refine ⟨σ2, ?_, b2, b3⟩
    rw [b1, ob2_some]
    rfl
  · rw [if_pos (show nI 2 = 2 from rfl)]
    obtain ⟨σ1, a1, a2, a3⟩ := lv_s a (by omega) 24
    obtain ⟨σ2, b1, b2, b3⟩ := mPlain a2 (by rw [List.length_append]; show l.length + 1 < 14; omega)
    refine ⟨σ2, ?_, ?_, a3.tr b3⟩
    · rw [show X1_leave 237 24 σ = _ from a1, ob_some, b1, ob2_some]
      rfl
    · show CK p h 2 s σ2 (l ++ [24, 21, 20])
      simpa [List.append_assoc] using b2
  · rw [if_neg (show ¬ nI 3 = 2 by decide), if_pos (show nI 3 = 3 from rfl)]
    obtain ⟨σ1, a1, a2, a3⟩ := lv_s a (by omega) 22
    obtain ⟨σ2, b1, b2, b3⟩ := mPlain a2 (by rw [List.length_append]; show l.length + 1 < 14; omega)
    refine ⟨σ2, ?_, ?_, a3.tr b3⟩
    · rw [show X1_leave 237 22 σ = _ from a1, ob_some, b1, ob2_some]
      rfl
    · show CK p h 3 s σ2 (l ++ [22, 21, 20])
      simpa [List.append_assoc] using b2
theorem cmark {σ : Mem} {l : List Nat} (a : CK p h k s σ l) (hl : l.length < 8) (hk1 : 1 ≤ k) (hk5 : k ≤ 5) : ∃ σ', X1_mark 237 σ = some (mkv k p h s, σ') ∧ CK p h k s σ' (l ++ mkl k) ∧ FrC σ σ' := by
  have cop : 4 ≤ k → ∃ σ', X1_mark_b16 237 σ = some (mkv k p h s, σ') ∧ CK p h k s σ' (l ++ mkl k) ∧ FrC σ σ' := by
    intro h4
    obtain ⟨σ1, a1, a2, a3⟩ := lv_s a (by omega) 23
    obtain ⟨σ2, b1, b2, b3⟩ := mLent a2 (by rw [List.length_append]; show l.length + 1 < 16; omega)
    obtain ⟨σ3, c1, c2, c3⟩ := sAny b2 (by rw [List.length_append, List.length_append]; show l.length + 1 + 1 < 12; omega) hk5
    refine ⟨σ3, ?_, ?_, (a3.tr b3).tr c3⟩
    · unfold X1_mark_b16 X1_markOfCopy X1_markOfCopy_b0
      rw [show X1_leave 237 23 σ = _ from a1, ob_some, b1, ob2_some, c1, ob2_some, ob2_some]
      rcases (show k = 4 ∨ k = 5 by omega) with rfl | rfl <;> rfl
    · rcases (show k = 4 ∨ k = 5 by omega) with rfl | rfl
      · have c2' : CK p h 4 s σ3 (l ++ [23] ++ [20] ++ [13, 10]) := c2
        show CK p h 4 s σ3 (l ++ [23, 20, 13, 10])
        simpa [List.append_assoc] using c2'
      · have c2' : CK p h 5 s σ3 (l ++ [23] ++ [20] ++ [14, 13, 10]) := c2
        show CK p h 5 s σ3 (l ++ [23, 20, 14, 13, 10])
        simpa [List.append_assoc] using c2'
  unfold X1_mark X1_mark_b0
  rw [a.2.2.2.1]
  by_cases c4 : k = 4
  · rw [if_pos (show nI k = 4 by rw [c4]; rfl)]
    exact cop (by omega)
  · rw [if_neg (show ¬ nI k = 4 from fun q => c4 ((nI_inj (b := 4) (by omega) (by omega)).mp q))]
    by_cases c5' : k = 5
    · rw [if_pos (show nI k = 5 by rw [c5']; rfl)]
      exact cop (by omega)
    · rw [if_neg (show ¬ nI k = 5 from fun q => c5' ((nI_inj (b := 5) (by omega) (by omega)).mp q))]
      obtain ⟨σ2, b1, b2, b3⟩ := cAnyPl a hl hk1 (by omega)
      refine ⟨σ2, ?_, b2, b3⟩
      rw [b1, ob2_some]
theorem csize {σ : Mem} (a : CK p h k s σ []) (hk1 : 1 ≤ k) (hk5 : k ≤ 5) : ∃ σ', X1_size 237 σ = some (szv k p h s, σ') ∧ CK p h k s σ' (szl k) ∧ FrC σ σ' := by
  have pl : k ≤ 3 → ∀ (l : List Nat) (σ1 : Mem), l.length ≤ 2 → CK p h k s σ1 l → ∃ σ', X1_sizeOfPlain 237 σ1 = some (nI s + mkv k p h s, σ') ∧ CK p h k s σ' (l ++ ([11, 10] ++ mkl k)) ∧ FrC σ1 σ' := by
    intro hk3 l σ1 hl b
    obtain ⟨σ2, a1, a2, a3⟩ := lv_s b (by omega) 11
    obtain ⟨σ3, b1, b2, b3⟩ := sLent a2 (by rw [List.length_append]; show l.length + 1 < 16; omega)
    obtain ⟨σ4, c1, c2, c3⟩ := cAnyPl b2 (by rw [List.length_append, List.length_append]; show l.length + 1 + 1 < 8; omega) hk1 hk3
    refine ⟨σ4, ?_, by simpa [List.append_assoc] using c2, (a3.tr b3).tr c3⟩
    unfold X1_sizeOfPlain X1_sizeOfPlain_b0
    rw [show X1_leave 237 11 σ1 = _ from a1, ob_some, b1, ob2_some, c1, ob2_some]
  unfold X1_size X1_size_b0
  rw [a.2.2.2.1]
  rcases c5 hk1 hk5 with rfl | rfl | rfl | rfl | rfl
  · rw [if_neg (show ¬ nI 1 = 2 by decide), if_neg (show ¬ nI 1 = 3 by decide), if_neg (show ¬ nI 1 = 4 by decide), if_neg (show ¬ nI 1 = 5 by decide)]
    obtain ⟨σ2, b1, b2, b3⟩ := pl (by decide) [] σ (by decide) a
    refine ⟨σ2, ?_, b2, b3⟩
    unfold X1_size_b53
    rw [b1, ob2_some]
    rfl
  · rw [if_pos (show nI 2 = 2 from rfl)]
    obtain ⟨σ1, a1, a2, a3⟩ := lv_s a (by decide) 12
    obtain ⟨σ2, b1, b2, b3⟩ := pl (by decide) [12] σ1 (by decide) a2
    refine ⟨σ2, ?_, b2, a3.tr b3⟩
    rw [show X1_leave 237 12 σ = _ from a1, ob_some, b1, ob2_some]
    rfl
  · rw [if_neg (show ¬ nI 3 = 2 by decide), if_pos (show nI 3 = 3 from rfl)]
    obtain ⟨σ2, b1, b2, b3⟩ := pl (by decide) [] σ (by decide) a
    refine ⟨σ2, ?_, b2, b3⟩
    unfold X1_size_b53
    rw [b1, ob2_some]
    rfl
  · rw [if_neg (show ¬ nI 4 = 2 by decide), if_neg (show ¬ nI 4 = 3 by decide), if_pos (show nI 4 = 4 from rfl)]
    obtain ⟨σ2, b1, b2, b3⟩ := sAny a (by decide) hk5
    refine ⟨σ2, ?_, b2, b3⟩
    unfold X1_size_b48
    rw [b1, ob2_some]
    rfl
  · rw [if_neg (show ¬ nI 5 = 2 by decide), if_neg (show ¬ nI 5 = 3 by decide), if_neg (show ¬ nI 5 = 4 by decide), if_pos (show nI 5 = 5 from rfl)]
    obtain ⟨σ2, b1, b2, b3⟩ := sAny a (by decide) hk5
    refine ⟨σ2, ?_, b2, b3⟩
    unfold X1_size_b48
    rw [b1, ob2_some]
    rfl
end
/-- … and on the model's -/
def FrK (σ σ' : Mem) : Prop := (∀ q, q ≠ 251 → q ≠ 270 → (q < 261 ∨ 266 ≤ q) → σ' q = σ q) ∧ ∀ j, j ≠ 31 → σ' 251 j = σ 251 j
theorem FrK.tr {a b c : Mem} (h : FrK a b) (h' : FrK b c) : FrK a c := ⟨fun q x y z => by rw [h'.1 q x y z, h.1 q x y z], fun j hj => by rw [h'.2 j hj, h.2 j hj]⟩
def MK (B : Nat → Nat) (σ : Mem) (l : List Nat) : Prop := WrA σ 270 251 31 l ∧ RwB (σ 255) 0 B
section
variable {B : Nat → Nat} {p : Nat}
theorem bg_s {σ : Mem} {l : List Nat} (a : MK B σ l) (hl : l.length < 16) (x : Nat) : ∃ σ', X12_began 251 (nI x) σ = some σ' ∧ MK B σ' (l ++ [x]) ∧ FrK σ σ' := by
  refine ⟨wr (wr σ 270 l.length (nI x)) 251 31 (nI (l.length + 1)), ?_, ⟨WrA_add a.1 (by omega) x, by rw [wr_off _ _ _ (by omega), wr_off _ _ _ (by omega)]; exact a.2⟩, fun q u v _ => by rw [wr_off _ _ _ u, wr_off _ _ _ v], fun j hj => by rw [wr_in _ _ hj, wr_off _ _ _ (by omega)]⟩
  unfold X12_began X12_began_b0
  rw [a.1.1, if_neg (show ¬ (16 : Int32) ≤ nI l.length from nI_ge (b := 16) (by omega) (by omega)), gdx_n (by omega) (by omega), letv_eq, nc_n (by omega), wr_off _ _ _ (by omega), a.1.1, nI_1]
theorem mlent {σ : Mem} {l : List Nat} (ho : okB B) (hp : p < B 0) (a : MK B σ l) (hl : l.length < 16) : ∃ σ', X12_lentSize 251 (nI p) σ = some (nI (B (4 + 4 * p)), σ') ∧ MK B σ' (l ++ [10]) ∧ FrK σ σ' := by
  have hn := ho.1
  obtain ⟨σ1, a1, a2, a3⟩ := bg_s a hl 10
  refine ⟨σ1, ?_, a2, a3⟩
  have e := a2.2 (4 + 4 * p) (by omega)
  rw [Nat.zero_add] at e
  unfold X12_lentSize X12_lentSize_b0
  rw [show X12_began 251 10 σ = _ from a1, ob_some, show (3 : Int32) = nI 3 from rfl, show (4 : Int32) = nI 4 from rfl, nI_mul, nI_add, nI_1, gdx_n (by omega) (by omega), nc_n (by omega), show 3 + 4 * p + 1 = 4 + 4 * p by omega, show σ1 (251 + 4) (4 + 4 * p) = _ from e]
theorem mcopy {σ : Mem} {l : List Nat} (ho : okB B) (hp : p < B 0) (a : MK B σ l) (hl : l.length < 12) : ∃ σ', X12_copySize 251 (nI p) σ = some (if B (3 + 4 * p) = 5 then 2 * (nI (B (4 + 4 * p)) - 100) else nI (B (4 + 4 * p)) - 100, σ') ∧ MK B σ' (l ++ (if B (3 + 4 * p) = 5 then [14, 13, 10] else [13, 10])) ∧ FrK σ σ' := by
  have hn := ho.1
  have hk := (ho.2.2.2 p hp).2.1
  have fin : ∀ (l1 : List Nat) (σ1 : Mem) (v : Int32), l1.length < 14 → MK B σ1 l1 → ∃ σ', X12_copySize_b28 251 (nI p) v σ1 = some (if v = 0 then nI (B (4 + 4 * p)) - 100 else 2 * (nI (B (4 + 4 * p)) - 100), σ') ∧ MK B σ' (l1 ++ [13, 10]) ∧ FrK σ1 σ' := by
    intro l1 σ1 v hl1 b
    obtain ⟨σ2, a1, a2, a3⟩ := bg_s b (by omega) 13
    obtain ⟨σ3, b1, b2, b3⟩ := mlent ho hp a2 (by rw [List.length_append]; show l1.length + 1 < 16; omega)
    refine ⟨σ3, ?_, by simpa [List.append_assoc] using b2, a3.tr b3⟩
    unfold X12_copySize_b28
    rw [show X12_began 251 13 σ1 = _ from a1, ob_some, b1, ob2_some, letv_eq]
    split <;> rfl
  unfold X12_copySize X12_copySize_b0
  rw [show X12_kindOf (251 + 4) (nI p) σ = _ from kindOf_s 255 p σ B a.2 hn hp, ob_some]
  by_cases c : B (3 + 4 * p) = 5
  · rw [if_pos (show nI (B (3 + 4 * p)) = 5 by rw [c]; rfl), if_pos c, if_pos c]
    unfold X12_copySize_b17
    rw [if_neg (show ¬ (1 : Int32) = 0 by decide)]
    obtain ⟨σ1, a1, a2, a3⟩ := bg_s a (by omega) 14
    obtain ⟨σ2, b1, b2, b3⟩ := fin (l ++ [14]) σ1 1 (by rw [List.length_append]; show l.length + 1 < 14; omega) a2
    refine ⟨σ2, ?_, by simpa [List.append_assoc] using b2, a3.tr b3⟩
    rw [show X12_began 251 14 σ = _ from a1, ob_some, b1]
    rfl
  · rw [if_neg (show ¬ nI (B (3 + 4 * p)) = 5 from fun q => c ((nI_inj (b := 5) (by omega) (by omega)).mp q)), if_neg c, if_neg c]
    unfold X12_copySize_b17
    rw [if_pos rfl]
    obtain ⟨σ2, b1, b2, b3⟩ := fin l σ 0 (by omega) a
    refine ⟨σ2, ?_, b2, b3⟩
    rw [b1]
    rfl
theorem mmark {σ : Mem} {l : List Nat} (ho : okB B) (hp : p < B 0) {kk : Nat} {h : Nat → Nat} (H : HOK (nrT (nrM (far B) (B 0) (B 1))) (B 0) kk h) (a : MK B σ l) (hl : l.length < 8) : ∃ σ', X12_markOf 251 (nI p) σ = some (mkv (B (3 + 4 * p)) p (h p) (B (4 + 4 * p)), σ') ∧ MK B σ' (l ++ mkl (B (3 + 4 * p))) ∧ FrK σ σ' := by
  have hn := ho.1
  have hl60 := ho.2.1
  obtain ⟨hk1, hk5, _⟩ := ho.2.2.2 p hp
  have hkk := hands_le (nrM_rf (far_self B)) H
  have plain : ∀ (l1 : List Nat) (σ1 : Mem) (v : Int32), l1.length < 14 → MK B σ1 l1 → ∃ σ', X12_markOf_b55 251 (nI p) v σ1 = (if v = 1 then some (nI p + nI (h p), σ') else if v = 3 then some (nI p + nI (h p) - 1000, σ') else some (2 * (nI p + nI (h p)), σ')) ∧ MK B σ' (l1 ++ [21, 20]) ∧ FrK σ1 σ' := by
    intro l1 σ1 v hl1 b
    obtain ⟨σ2, a1, a2, a3⟩ := bg_s b (by omega) 21
    obtain ⟨σ3, b1, b2, b3⟩ := bg_s a2 (by rw [List.length_append]; show l1.length + 1 < 16; omega) 20
    obtain ⟨σ4, kk', h', g1, g2, g3, g4, g5⟩ := hands_s (k1 := 255) (by omega) ho (by omega) (B 1) (by omega) σ3 b2.2 (b2.2 1 (by omega))
    obtain ⟨u1, u2⟩ := HOK_uniq g2 H
    have hkp : 0 < kk' := by have := g2.1.1.1 0 (by omega); omega
    refine ⟨σ4, ?_, ⟨⟨by rw [g5 251 (by omega)]; exact (by simpa [List.append_assoc] using b2.1.1), fun i hi => by rw [g5 270 (by omega)]; exact (by simpa [List.append_assoc] using b2.1.2 i (by simpa [List.append_assoc] using hi))⟩, by rw [g5 255 (by omega)]; exact b2.2⟩, (a3.tr b3).tr ⟨fun q x y z => g5 q (by omega), fun j hj => by rw [g5 251 (by omega)]⟩⟩
    unfold X12_markOf_b55 X12_markOf_b91
    rw [show X12_began 251 21 σ1 = _ from a1, ob_some, show X12_began 251 20 σ2 = _ from b1, ob_some, show X12_layHands 251 (251 + 4) σ3 = _ from g1, ob2_some, if_neg (show ¬ nI kk' ≤ 0 by rw [show (0 : Int32) = nI 0 from rfl, nI_le_iff (by omega) (by omega)]; omega), gdx_n (by omega) (by omega), nc_n (by omega), show σ4 (251 + 13) p = _ from g3 p hp, u2 p hp, letv_eq]
  unfold X12_markOf X12_markOf_b0
  rw [show X12_kindOf (251 + 4) (nI p) σ = _ from kindOf_s 255 p σ B a.2 hn hp, ob_some]
  by_cases c4 : B (3 + 4 * p) < 4
  · rw [if_pos (show nI (B (3 + 4 * p)) < 4 from nI_lt (b := 4) c4 (by omega))]
    rcases (show B (3 + 4 * p) = 1 ∨ B (3 + 4 * p) = 2 ∨ B (3 + 4 * p) = 3 by omega) with c | c | c
    · rw [c, if_pos (show nI 1 = 1 from rfl)]
      obtain ⟨σ2, b1, b2, b3⟩ := plain l σ (nI 1) (by omega) a
      exact ⟨σ2, b1, b2, b3⟩
    · rw [c, if_neg (show ¬ nI 2 = 1 by decide), if_neg (show ¬ nI 2 = 3 by decide)]
      obtain ⟨σ1, a1, a2, a3⟩ := bg_s a (by omega) 24
      obtain ⟨σ2, b1, b2, b3⟩ := plain (l ++ [24]) σ1 (nI 2) (by rw [List.length_append]; show l.length + 1 < 14; omega) a2
      refine ⟨σ2, ?_, ?_, a3.tr b3⟩
      · unfold X12_markOf_b52
        rw [show X12_began 251 24 σ = _ from a1, ob_some, b1]
        rfl
      · show MK B σ2 (l ++ [24, 21, 20])
        simpa [List.append_assoc] using b2
    · rw [c, if_neg (show ¬ nI 3 = 1 by decide), if_pos (show nI 3 = 3 from rfl)]
      obtain ⟨σ1, a1, a2, a3⟩ := bg_s a (by omega) 22
      obtain ⟨σ2, b1, b2, b3⟩ := plain (l ++ [22]) σ1 (nI 3) (by rw [List.length_append]; show l.length + 1 < 14; omega) a2
      refine ⟨σ2, ?_, ?_, a3.tr b3⟩
      · unfold X12_markOf_b52
        rw [show X12_began 251 22 σ = _ from a1, ob_some, b1]
        rfl
      · show MK B σ2 (l ++ [22, 21, 20])
        simpa [List.append_assoc] using b2
  · rw [if_neg (show ¬ nI (B (3 + 4 * p)) < 4 by rw [show (4 : Int32) = nI 4 from rfl, nI_lt_iff (by omega) (by omega)]; exact c4)]
    obtain ⟨σ1, a1, a2, a3⟩ := bg_s a (by omega) 23
    obtain ⟨σ2, b1, b2, b3⟩ := bg_s a2 (by rw [List.length_append]; show l.length + 1 < 16; omega) 20
    obtain ⟨σ3, d1, d2, d3⟩ := mcopy ho hp b2 (by rw [List.length_append, List.length_append]; show l.length + 1 + 1 < 12; omega)
    refine ⟨σ3, ?_, ?_, (a3.tr b3).tr d3⟩
    · rw [show X12_began 251 23 σ = _ from a1, ob_some, show X12_began 251 20 σ1 = _ from b1, ob_some, d1, ob2_some]
      rcases (show B (3 + 4 * p) = 4 ∨ B (3 + 4 * p) = 5 by omega) with c | c
      · rw [c]
        rfl
      · rw [c]
        rfl
    · rcases (show B (3 + 4 * p) = 4 ∨ B (3 + 4 * p) = 5 by omega) with c | c
      · rw [c] at d2 ⊢
        have d2' : MK B σ3 (l ++ [23] ++ [20] ++ [13, 10]) := d2
        show MK B σ3 (l ++ [23, 20, 13, 10])
        simpa [List.append_assoc] using d2'
      · rw [c] at d2 ⊢
        have d2' : MK B σ3 (l ++ [23] ++ [20] ++ [14, 13, 10]) := d2
        show MK B σ3 (l ++ [23, 20, 14, 13, 10])
        simpa [List.append_assoc] using d2'
theorem msize {σ : Mem} (ho : okB B) (hp : p < B 0) {kk : Nat} {h : Nat → Nat} (H : HOK (nrT (nrM (far B) (B 0) (B 1))) (B 0) kk h) (a : MK B σ []) : ∃ σ', X12_askedSize 251 (nI p) σ = some (szv (B (3 + 4 * p)) p (h p) (B (4 + 4 * p)), σ') ∧ MK B σ' (szl (B (3 + 4 * p))) ∧ FrK σ σ' := by
  have hn := ho.1
  obtain ⟨hk1, hk5, _⟩ := ho.2.2.2 p hp
  have pl : ∀ (l1 : List Nat) (σ1 : Mem) (v : Int32), l1.length ≤ 2 → MK B σ1 l1 → ∃ σ', X12_askedSize_b31 251 (nI p) v σ1 = (if v = 2 then some (-(nI (B (4 + 4 * p)) + mkv (B (3 + 4 * p)) p (h p) (B (4 + 4 * p))), σ') else some (nI (B (4 + 4 * p)) + mkv (B (3 + 4 * p)) p (h p) (B (4 + 4 * p)), σ')) ∧ MK B σ' (l1 ++ ([11, 10] ++ mkl (B (3 + 4 * p)))) ∧ FrK σ1 σ' := by
    intro l1 σ1 v hl1 b
    obtain ⟨σ2, a1, a2, a3⟩ := bg_s b (by omega) 11
    obtain ⟨σ3, b1, b2, b3⟩ := mlent ho hp a2 (by rw [List.length_append]; show l1.length + 1 < 16; omega)
    obtain ⟨σ4, c1, c2, c3⟩ := mmark ho hp H b2 (by rw [List.length_append, List.length_append]; show l1.length + 1 + 1 < 8; omega)
    refine ⟨σ4, ?_, by simpa [List.append_assoc] using c2, (a3.tr b3).tr c3⟩
    unfold X12_askedSize_b31
    rw [show X12_began 251 11 σ1 = _ from a1, ob_some, b1, ob2_some, c1, ob2_some, letv_eq]
  unfold X12_askedSize X12_askedSize_b0
  rw [show X12_kindOf (251 + 4) (nI p) σ = _ from kindOf_s 255 p σ B a.2 hn hp, ob_some]
  by_cases c4 : B (3 + 4 * p) < 4
  · rw [if_pos (show nI (B (3 + 4 * p)) < 4 from nI_lt (b := 4) c4 (by omega))]
    rcases (show B (3 + 4 * p) = 1 ∨ B (3 + 4 * p) = 2 ∨ B (3 + 4 * p) = 3 by omega) with c | c | c
    · obtain ⟨σ2, b1, b2, b3⟩ := pl [] σ (nI 1) (by decide) a
      rw [c] at b1 b2 ⊢
      rw [if_neg (show ¬ nI 1 = 2 by decide)]
      exact ⟨σ2, b1, b2, b3⟩
    · obtain ⟨σ1, a1, a2, a3⟩ := bg_s a (by decide) 12
      obtain ⟨σ2, b1, b2, b3⟩ := pl [12] σ1 (nI 2) (by decide) a2
      rw [c] at b1 b2 ⊢
      rw [if_pos (show nI 2 = 2 from rfl), show X12_began 251 12 σ = _ from a1, ob_some]
      exact ⟨σ2, b1, b2, a3.tr b3⟩
    · obtain ⟨σ2, b1, b2, b3⟩ := pl [] σ (nI 3) (by decide) a
      rw [c] at b1 b2 ⊢
      rw [if_neg (show ¬ nI 3 = 2 by decide)]
      exact ⟨σ2, b1, b2, b3⟩
  · rw [if_neg (show ¬ nI (B (3 + 4 * p)) < 4 by rw [show (4 : Int32) = nI 4 from rfl, nI_lt_iff (by omega) (by omega)]; exact c4)]
    obtain ⟨σ3, d1, d2, d3⟩ := mcopy ho hp a (by decide)
    rw [d1, ob2_some]
    rcases (show B (3 + 4 * p) = 4 ∨ B (3 + 4 * p) = 5 by omega) with c | c
    · rw [c] at d2 ⊢
      exact ⟨σ3, rfl, d2, d3⟩
    · rw [c] at d2 ⊢
      exact ⟨σ3, rfl, d2, d3⟩
end
theorem op_ask (σ : Mem) (h : InvF FOK σ) (v1 v2 : Int32) : ∃ (r : Int32) (σ1 σ2 : Mem), X11_ask 0 v1 v2 σ = some (r, σ1) ∧ X12_ask 251 v1 v2 σ1 = some (r, σ2) ∧ InvF FOK σ2 := by
  have hI := h
  obtain ⟨B, m, L, I, h⟩ := h
  obtain ⟨r6, r7, r8⟩ := ref_rb h
  have n1 : σ 22 0 = nI (B 0) := r7.1
  have n2 : σ 255 0 = nI (B 0) := r8 0 (by omega)
  have hn := r6.1
  unfold X11_ask X11_ask_b0 X12_ask X12_ask_b0
  rcases pgs v1 (B 0) hn with ⟨p, hp, rfl, t1, t2⟩ | ⟨t1, t2⟩
  · rw [t1 σ n1, if_neg (by decide)]
    rcases in_r v2 0 1 (by omega) (by omega) with ⟨w, a1, a2, rfl, a3⟩ | ⟨a3, a4⟩
    · have a3' : X12_in (nI w).toInt64 0 1 = 1 := a3
      obtain ⟨σ1, l1, l2, l3, l4, l5⟩ := look_s h
      obtain ⟨q6, q7, q8⟩ := ref_rb l3
      obtain ⟨_, f1, f2, f3⟩ := id l2
      rcases f3 with ⟨f3, _⟩ | ⟨hn0, kk, hh, M, f, mm, D, k1, k2, k3, _⟩
      · omega
      obtain ⟨hk1, hk5, _⟩ := q6.2.2.2 p hp
      have hs := (q7.2.2.2 p hp)
      rw [if_neg (nI_nn (by omega)), if_pos (show nI w ≤ 1 from nI_le (b := 1) (by omega) (by omega)), l1, ob_some, gdx_n (by omega) (by omega), nc_n (by omega), show σ1 (0 + 175 + 1 + 14) p = _ from k2.1 p hp]
      -- the asking begins
      have hbeg : ∃ σb, X1_begin (0 + 237) (0 + 22) (nI p) (nI (hh p)) σ1 = some σb ∧ CK p (hh p) (B (3 + 4 * p)) (B (4 + 4 * p)) σb [] ∧ FrC σ1 σb := by
        refine ⟨wr (wr (wr (wr (wr σ1 237 1 0) 237 2 (nI p)) 237 3 (nI (hh p))) 237 4 (nI (B (3 + 4 * p)))) 237 5 (nI (B (4 + 4 * p))), ?_, ⟨⟨?_, fun i hi => absurd hi (Nat.not_lt_zero i)⟩, ?_, ?_, ?_, ?_⟩, fun q x y => by simp (disch := omega) only [wr_off]⟩
        · unfold X1_begin X1_begin_b0
          simp (disch := omega) only [letv_eq, gdx_n, nc_n, nc_0, wr_off]
          rw [show σ1 (0 + 22 + 1) p = _ from hs.1, show σ1 (0 + 22 + 2 + 1 + 0) p = _ from hs.2 0 (by omega)]
          rfl
        · simp (disch := omega) only [wr_in, wr_at]
          rfl
        · simp (disch := omega) only [wr_in, wr_at]
        · simp (disch := omega) only [wr_in, wr_at]
        · simp (disch := omega) only [wr_in, wr_at]
        · rw [wr_at]
      obtain ⟨σb, b1, b2, b3⟩ := hbeg
      rw [b1, ob_some]
      -- both sides, one after the other
      have fin : ∀ (σc σd : Mem) (l : List Nat), l.length ≤ 16 → CK p (hh p) (B (3 + 4 * p)) (B (4 + 4 * p)) σc l → FrC σ1 σc → MK B σd l → FrK (wr σc 251 31 0) σd → InvF FOK σd := by
        intro σc σd l hl16 x1 x2 x3 x4
        have hd : ∀ q, q ≠ 251 → q ≠ 270 → (q < 261 ∨ 266 ≤ q) → σd q = σc q := fun q y1 y2 y3 => by rw [x4.1 q y1 y2 y3, wr_off _ _ _ y1]
        have hj : ∀ j, j ≠ 31 → σd 251 j = σ1 251 j := fun j y => by rw [x4.2 j y, wr_in _ _ y, x2 251 (by omega) (by omega)]
        have hq : ∀ q, q ≠ 251 → q ≠ 270 → q ≠ 237 → q ≠ 238 → (q < 261 ∨ 266 ≤ q) → σd q = σ1 q := fun q y1 y2 y3 y4 y5 => by rw [hd q y1 y2 y5, x2 q y3 y4]
        obtain ⟨s1, s2, s3, s4, s5, s6, s7, s8, s9, s10, s11, s12, s13⟩ := id l3
        refine ⟨B, m, L, I, Ref.re l3 (fun q y1 y2 y3 y4 y5 y6 y7 y8 y9 y10 => hq q y2 y7 y5 y6 (by unfold Scr at y10; omega)) (by rw [hq 0 (by omega) (by omega) (by omega) (by omega) (by omega)]) (by rw [hq 0 (by omega) (by omega) (by omega) (by omega) (by omega)]) (hj 0 (by omega)) (hj 10 (by omega)) (hj 17 (by omega)) ⟨l.length, hl16, ?_, x3.1.1, fun i hi => ?_⟩ s6 (AtB.cg s7 (fun q y1 y2 => hq q (by omega) (by omega) (by omega) (by omega) (by omega))) x3.2 s9 (CA.cg s10 (fun q y1 y2 => hq q (by omega) (by omega) (by omega) (by omega) (by omega))) (MA.cg s11 (hj 8 (by omega)) (hq 258 (by omega) (by omega) (by omega) (by omega) (by omega))) (Fsh.cg FOK_loc s13 (by rw [hq 0 (by omega) (by omega) (by omega) (by omega) (by omega)]) (fun q y1 y2 => hq q (by omega) (by omega) (by omega) (by omega) (by omega)))⟩
        · rw [hd 237 (by omega) (by omega) (by omega)]
          exact x1.1.1
        · rw [hd 238 (by omega) (by omega) (by omega), x1.1.2 i hi, x3.1.2 i hi]
      have start : ∀ σc : Mem, FrC σ1 σc → MK B (wr σc 251 31 0) [] := fun σc x => ⟨⟨wr_at _ _ _ _, fun i hi => absurd hi (Nat.not_lt_zero i)⟩, by rw [wr_off _ _ _ (by omega), x 255 (by omega) (by omega)]; exact q8⟩
      have n4 : ∀ σc : Mem, FrC σ1 σc → σc 255 0 = nI (B 0) := fun σc x => by rw [x 255 (by omega) (by omega)]; exact q8 0 (by omega)
      have hlen : ∀ k, (szl k).length ≤ 16 ∧ (mkl k).length ≤ 16 := by
        intro k
        have h1 : (mkl k).length ≤ 5 := by
          unfold mkl
          split
          · decide
          · split
            · decide
            · split
              · decide
              · split <;> decide
        refine ⟨?_, by omega⟩
        unfold szl
        split
        · rw [List.length_append]
          show 3 + _ ≤ 16
          omega
        · split
          · decide
          · split
            · decide
            · rw [List.length_append]
              show 2 + _ ≤ 16
              omega
      rcases (show w = 0 ∨ w = 1 by omega) with rfl | rfl
      · obtain ⟨σc, c1, c2, c3⟩ := csize b2 hk1 hk5
        have c4 := b3.tr c3
        obtain ⟨σd, d1, d2, d3⟩ := msize q6 hp k1 (start σc c4)
        refine ⟨szv (B (3 + 4 * p)) p (hh p) (B (4 + 4 * p)), σc, σd, ?_, ?_, fin σc σd _ (hlen _).1 c2 c4 d2 d3⟩
        · rw [if_pos (show nI 0 = 0 from rfl), show X1_size (0 + 237) σb = _ from c1, ob2_some]
        · rw [t2 _ (n4 σc c4), ob_some, if_neg (by decide), a3', if_neg (by decide), if_pos (show nI 0 = 0 from rfl), d1, ob2_some]
      · obtain ⟨σc, c1, c2, c3⟩ := cmark b2 (by decide) hk1 hk5
        have c4 := b3.tr c3
        obtain ⟨σd, d1, d2, d3⟩ := mmark q6 hp k1 (start σc c4) (by decide)
        refine ⟨mkv (B (3 + 4 * p)) p (hh p) (B (4 + 4 * p)), σc, σd, ?_, ?_, fin σc σd _ (hlen _).2 c2 c4 d2 d3⟩
        · rw [if_neg (show ¬ nI 1 = 0 by decide), show X1_mark (0 + 237) σb = _ from c1, ob2_some]
        · rw [t2 _ (n4 σc c4), ob_some, if_neg (by decide), a3', if_neg (by decide), if_neg (show ¬ nI 1 = 0 by decide), d1, ob2_some]
    · have a3' : X12_in v2.toInt64 0 1 = 0 := a3
      refine ⟨-1000001, σ, σ, ?_, by rw [t2 σ n2, ob_some, if_neg (by decide), a3', if_pos rfl], hI⟩
      rcases a4 with a4 | a4
      · rw [if_pos (show v2 < 0 from a4)]
      · rw [if_neg (show ¬ v2 ≤ 1 from fun q => Int32.not_lt.mpr q a4)]
        split <;> rfl
  · exact ⟨-1000001, σ, σ, by rw [t1 σ n1, if_pos rfl], by rw [t2 σ n2, ob_some, if_pos rfl], hI⟩
