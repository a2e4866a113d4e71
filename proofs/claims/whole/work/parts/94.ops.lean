/-! PURE: the coupling, and acts on it. -/
section
variable {F : Mem → (Nat → Nat) → Prop}
def Loc (F : Mem → (Nat → Nat) → Prop) : Prop := ∀ (σ σ' : Mem) (B : Nat → Nat), (∀ q, 175 ≤ q → q < 211 → σ' q = σ q) → F σ B → F σ' B
def Trc (σ : Mem) : Prop := ∃ t : Nat, t ≤ 16 ∧ σ 237 1 = nI t ∧ σ 251 31 = nI t ∧ ∀ i, i < t → σ 238 i = σ 270 i
def Img (σ : Mem) (I : Nat → Nat → Nat) : Prop := ∀ k, k < 2 → okB (I k) ∧ AtB σ (239 + 6 * k) (I k) ∧ ((I k 0 = 0 ∧ σ 268 k = 0) ∨ (0 < I k 0 ∧ σ 268 k = 1 ∧ RwB (σ 269) (43 * k) (I k)))
def Fsh (F : Mem → (Nat → Nat) → Prop) (σ : Mem) (B : Nat → Nat) : Prop := σ 0 9 = 0 ∨ (σ 0 9 = 1 ∧ F σ B)
def Ref (F : Mem → (Nat → Nat) → Prop) (σ : Mem) (B : Nat → Nat) (m : Nat) (L I : Nat → Nat → Nat) : Prop := IRow σ ∧ ITape σ ∧ σ 0 10 = σ 251 17 ∧ σ 0 11 = σ 251 0 ∧ Trc σ ∧ okB B ∧ AtB σ 22 B ∧ RwB (σ 255) 0 B ∧ (m ≤ 24 ∧ ∀ i, i < m → okB (L i)) ∧ CA σ m L ∧ MA σ m L ∧ Img σ I ∧ Fsh F σ B
def InvF (F : Mem → (Nat → Nat) → Prop) (σ : Mem) : Prop := ∃ B m L I, Ref F σ B m L I
theorem IRow.cg {σ σ' : Mem} (h : IRow σ) (e : ∀ q, (3 ≤ q ∧ q ≤ 12) ∨ (252 ≤ q ∧ q ≤ 254) → σ' q = σ q) : IRow σ' := by
  intro r hr
  rw [e 12 (by omega), e 252 (by omega), e 11 (by omega), e 253 (by omega), e (3 + r) (by omega), e 254 (by omega)]
  exact h r hr
theorem ITape.cg {σ σ' : Mem} (h : ITape σ) (e1 : σ' 13 = σ 13) (e2 : σ' 14 = σ 14) (e3 : σ' 259 = σ 259) (e4 : σ' 251 10 = σ 251 10) : ITape σ' := by
  obtain ⟨t, h1, h2, h3, h4⟩ := h
  refine ⟨t, h1, by rw [e1]; exact h2, by rw [e4]; exact h3, fun i hi => ?_⟩
  rw [e2, e3]
  exact h4 i hi
theorem Trc.cg {σ σ' : Mem} (h : Trc σ) (e1 : σ' 237 1 = σ 237 1) (e2 : σ' 238 = σ 238) (e3 : σ' 270 = σ 270) (e4 : σ' 251 31 = σ 251 31) : Trc σ' := by
  obtain ⟨t, h1, h2, h3, h4⟩ := h
  refine ⟨t, h1, by rw [e1]; exact h2, by rw [e4]; exact h3, fun i hi => ?_⟩
  rw [e2, e3]
  exact h4 i hi
theorem Img.cg {σ σ' : Mem} {I : Nat → Nat → Nat} (h : Img σ I) (e : ∀ q, (239 ≤ q ∧ q < 251) ∨ q = 268 ∨ q = 269 → σ' q = σ q) : Img σ' I := by
  intro k hk
  obtain ⟨h1, h2, h3⟩ := h k hk
  rw [e 268 (by omega), e 269 (by omega)]
  exact ⟨h1, AtB.cg h2 (fun q a b => e q (by omega)), h3⟩
theorem CA.cg {σ σ' : Mem} {m : Nat} {L : Nat → Nat → Nat} (h : CA σ m L) (e : ∀ q, 28 ≤ q → q < 174 → σ' q = σ q) : CA σ' m L := by
  obtain ⟨o, h1, h2, h3, h4⟩ := h
  refine ⟨o, h1, by rw [e 28 (by omega) (by omega)]; exact h2, by rw [e 28 (by omega) (by omega)]; exact h3, fun i hi => AtB.cg (h4 i hi) (fun q a b => e q (by omega) (by omega))⟩
theorem MA.cg {σ σ' : Mem} {m : Nat} {L : Nat → Nat → Nat} (h : MA σ m L) (e1 : σ' 251 8 = σ 251 8) (e2 : σ' 258 = σ 258) : MA σ' m L := by
  obtain ⟨h1, h2⟩ := h
  exact ⟨by rw [e1]; exact h1, by rw [e2]; exact h2⟩
theorem Fsh.cg {σ σ' : Mem} {B : Nat → Nat} (hl : Loc F) (h : Fsh F σ B) (e1 : σ' 0 9 = σ 0 9) (e2 : ∀ q, 175 ≤ q → q < 211 → σ' q = σ q) : Fsh F σ' B := by
  rcases h with h | ⟨h, h2⟩
  · exact Or.inl (by rw [e1]; exact h)
  · exact Or.inr ⟨by rw [e1]; exact h, hl σ σ' B e2 h2⟩
def Scr (q : Nat) : Prop := (15 ≤ q ∧ q < 22) ∨ (211 ≤ q ∧ q < 237) ∨ q = 256 ∨ q = 257 ∨ (260 ≤ q ∧ q < 268)
/-- the coupling again, after calls that leave rows, tape and images -/
theorem Ref.re {σ σ' : Mem} {B B' : Nat → Nat} {m m' : Nat} {L L' I : Nat → Nat → Nat} (h : Ref F σ B m L I) (fr : ∀ q, q ≠ 0 → q ≠ 251 → (q < 22 ∨ 174 ≤ q) → (q < 175 ∨ 211 ≤ q) → q ≠ 237 → q ≠ 238 → q ≠ 270 → q ≠ 255 → q ≠ 258 → ¬ Scr q → σ' q = σ q) (h10 : σ' 0 10 = σ 0 10) (h11 : σ' 0 11 = σ 0 11) (j0 : σ' 251 0 = σ 251 0) (j10 : σ' 251 10 = σ 251 10) (j17 : σ' 251 17 = σ 251 17) (ht : Trc σ') (a1 : okB B') (a2 : AtB σ' 22 B') (a3 : RwB (σ' 255) 0 B') (a4 : m' ≤ 24 ∧ ∀ i, i < m' → okB (L' i)) (a5 : CA σ' m' L') (a6 : MA σ' m' L') (a7 : Fsh F σ' B') : Ref F σ' B' m' L' I := by
  obtain ⟨r1, r2, r3, r4, _, _, _, _, _, _, _, r5, _⟩ := h
  refine ⟨IRow.cg r1 (fun q hq => fr q ?_ ?_ ?_ ?_ ?_ ?_ ?_ ?_ ?_ ?_), ITape.cg r2 (fr 13 ?_ ?_ ?_ ?_ ?_ ?_ ?_ ?_ ?_ ?_) (fr 14 ?_ ?_ ?_ ?_ ?_ ?_ ?_ ?_ ?_ ?_) (fr 259 ?_ ?_ ?_ ?_ ?_ ?_ ?_ ?_ ?_ ?_) j10, by rw [h10, j17]; exact r3, by rw [h11, j0]; exact r4, ht, a1, a2, a3, a4, a5, a6, Img.cg r5 (fun q hq => fr q ?_ ?_ ?_ ?_ ?_ ?_ ?_ ?_ ?_ ?_), a7⟩ <;> (try unfold Scr) <;> omega
/-- … and nothing but scratch and what is found has changed -/
theorem Ref.sc {σ σ' : Mem} {B : Nat → Nat} {m : Nat} {L I : Nat → Nat → Nat} (h : Ref F σ B m L I) (fr : ∀ q, q ≠ 0 → q ≠ 251 → (q < 175 ∨ 211 ≤ q) → ¬ Scr q → σ' q = σ q) (h10 : σ' 0 10 = σ 0 10) (h11 : σ' 0 11 = σ 0 11) (j0 : σ' 251 0 = σ 251 0) (j8 : σ' 251 8 = σ 251 8) (j10 : σ' 251 10 = σ 251 10) (j17 : σ' 251 17 = σ 251 17) (j31 : σ' 251 31 = σ 251 31) (a7 : Fsh F σ' B) : Ref F σ' B m L I := by
  have h' := h
  obtain ⟨_, _, _, _, r5, r6, r7, r8, r9, r10, r11, _, _⟩ := h
  have g : ∀ q, (22 ≤ q ∧ q < 175) ∨ q = 237 ∨ q = 238 ∨ q = 255 ∨ q = 258 ∨ q = 270 → σ' q = σ q := fun q hq => fr q (by omega) (by omega) (by omega) (by unfold Scr; omega)
  exact Ref.re h' (fun q b1 b2 b3 b4 b5 b6 b7 b8 b9 b10 => fr q b1 b2 b4 b10) h10 h11 j0 j10 j17 (Trc.cg r5 (by rw [g 237 (by omega)]) (g 238 (by omega)) (g 270 (by omega)) j31) r6 (AtB.cg r7 (fun q a b => g q (by omega))) (by rw [g 255 (by omega)]; exact r8) r9 (CA.cg r10 (fun q a b => g q (by omega))) (MA.cg r11 j8 (g 258 (by omega))) a7
theorem kp_ok {m : Nat} {B : Nat → Nat} {L : Nat → Nat → Nat} (hb : okB B) (h : m ≤ 24 ∧ ∀ i, i < m → okB (L i)) : kpM m ≤ 24 ∧ ∀ i, i < kpM m → okB (kpL m B L i) := by
  unfold kpM kpL
  by_cases c : m = 24
  · rw [if_pos c]
    refine ⟨by omega, fun i hi => ?_⟩
    rw [if_pos c]
    by_cases c2 : i = 23
    · rw [if_pos c2]
      exact hb
    · rw [if_neg c2]
      exact h.2 (i + 1) (by omega)
  · rw [if_neg c]
    refine ⟨by omega, fun i hi => ?_⟩
    rw [if_neg c]
    by_cases c2 : i = m
    · rw [if_pos c2]
      exact hb
    · rw [if_neg c2]
      exact h.2 i (by omega)
theorem act_s {σ : Mem} {B : Nat → Nat} {m : Nat} {L I : Nat → Nat → Nat} (h : Ref F σ B m L I) : ∃ σ1, X11_beginAct 0 σ = some σ1 ∧ AtB σ1 22 B ∧ ∀ σ1' B', (∀ q, (q < 22 ∨ 28 ≤ q) → σ1' q = σ1 q) → AtB σ1' 22 B' → okB B' → RwB (σ1' 255) 0 B ∧ ∃ σ2, X12_keeps 251 σ1' = some σ2 ∧ RwB (σ2 255) 0 B ∧ ∀ σ3, (∀ q, q ≠ 255 → σ3 q = σ2 q) → RwB (σ3 255) 0 B' → InvF F σ3 := by
  have h' := h
  obtain ⟨r1, r2, r3, r4, r5, r6, r7, r8, r9, r10, r11, r12, r13⟩ := h
  obtain ⟨σ0, e1, e2, e3⟩ := keep_s σ m B L r9.1 r10 r7 r6.1
  refine ⟨wr σ0 0 9 0, ?_, AtB.cg r7 (fun q a b => by rw [wr_off _ _ _ (by omega), e3 q (by omega)]), fun σ1' B' f1 a1 a2 => ?_⟩
  · unfold X11_beginAct X11_beginAct_b0
    rw [show X0_keep (0 + 28) (0 + 22) σ = some σ0 from e1, ob_some]
  · have g : ∀ q, q ≠ 0 → (q < 22 ∨ 174 ≤ q) → σ1' q = σ q := fun q a b => by rw [f1 q (by omega), wr_off _ _ _ a, e3 q (by omega)]
    have g0 : ∀ j, j ≠ 9 → σ1' 0 j = σ 0 j := fun j hj => by rw [f1 0 (by omega), wr_in _ _ hj, e3 0 (by omega)]
    have hb : RwB (σ1' 255) 0 B := by rw [g 255 (by omega) (by omega)]; exact r8
    obtain ⟨σ2, k1, k2, k3, k4⟩ := keeps_s σ1' m B L r9.1 (MA.cg r11 (by rw [g 251 (by omega) (by omega)]) (g 258 (by omega) (by omega))) hb r6.1 (fun i hi => (r9.2 i hi).1)
    refine ⟨hb, σ2, k1, by rw [k3 255 (by omega) (by omega)]; exact hb, fun σ3 f3 a3 => ?_⟩
    have t : ∀ q, q ≠ 255 → q ≠ 251 → q ≠ 258 → σ3 q = σ1' q := fun q a b c => by rw [f3 q a, k3 q b c]
    have t2 : ∀ j, j ≠ 8 → σ3 251 j = σ 251 j := fun j hj => by rw [f3 251 (by omega), k4 j hj, g 251 (by omega) (by omega)]
    refine ⟨B', kpM m, kpL m B L, I, Ref.re h' (fun q b1 b2 b3 b4 b5 b6 b7 b8 b9 b10 => by rw [t q b8 b2 b9, g q b1 b3]) (by rw [t 0 (by omega) (by omega) (by omega), g0 10 (by omega)]) (by rw [t 0 (by omega) (by omega) (by omega), g0 11 (by omega)]) (t2 0 (by omega)) (t2 10 (by omega)) (t2 17 (by omega)) (Trc.cg r5 ?_ ?_ ?_ (t2 31 (by omega))) a2 (AtB.cg a1 (fun q a b => t q (by omega) (by omega) (by omega))) a3 (kp_ok r6 r9) ?_ (MA.cg k2 (by rw [f3 251 (by omega)]) (f3 258 (by omega))) ?_⟩
    · rw [t 237 (by omega) (by omega) (by omega), g 237 (by omega) (by omega)]
    · rw [t 238 (by omega) (by omega) (by omega), g 238 (by omega) (by omega)]
    · rw [t 270 (by omega) (by omega) (by omega), g 270 (by omega) (by omega)]
    · exact CA.cg e2 (fun q a b => by rw [t q (by omega) (by omega) (by omega), f1 q (by omega), wr_off _ _ _ (by omega)])
    · left
      rw [t 0 (by omega) (by omega) (by omega), f1 0 (by omega), wr_at]
theorem in_r (v : Int32) (a b : Nat) (hab : a ≤ b) (hb : b < 2 ^ 31) : (∃ n : Nat, a ≤ n ∧ n ≤ b ∧ v = nI n ∧ X12_in v.toInt64 (lN a) (lN b) = 1) ∨ (X12_in v.toInt64 (lN a) (lN b) = 0 ∧ (v < nI a ∨ nI b < v)) := by
  rw [m_in, Int32.toInt_toInt64, l_lit a (by omega), l_lit b hb]
  by_cases h1 : v < nI a
  · right
    refine ⟨if_neg (fun q => ?_), Or.inl h1⟩
    rw [Int32.lt_iff_toInt_lt, nI_toInt (by omega)] at h1
    omega
  · have h0 : ¬ v < 0 := fun q => h1 (by
      rw [Int32.lt_iff_toInt_lt] at q ⊢
      rw [nI_toInt (by omega)]
      have : (0 : Int32).toInt = 0 := by decide
      omega)
    obtain ⟨i, hi, rfl⟩ := i32_nat h0
    rw [nI_lt_iff hi (by omega)] at h1
    rw [nI_toInt hi]
    by_cases h2 : i ≤ b
    · left
      exact ⟨i, by omega, h2, rfl, if_pos (by omega)⟩
    · right
      exact ⟨if_neg (by omega), Or.inr (nI_lt (by omega) hi)⟩
theorem kin (v : Int32) : (∃ x : Nat, 1 ≤ x ∧ x ≤ 5 ∧ v = nI x ∧ X11_isKindOfPage v = 1 ∧ X12_in v.toInt64 1 5 = 1) ∨ (X11_isKindOfPage v = 0 ∧ X12_in v.toInt64 1 5 = 0) := by
  unfold X11_isKindOfPage X11_isKindOfPage_b0
  rcases in_r v 1 5 (by omega) (by omega) with ⟨n, a, b, rfl, c⟩ | ⟨c, d⟩
  · left
    exact ⟨n, a, b, rfl, by rw [if_neg (by rw [show (1 : Int32) = nI 1 from rfl, nI_lt_iff (by omega) (by omega)]; omega), if_neg (by rw [show (5 : Int32) = nI 5 from rfl, nI_lt_iff (by omega) (by omega)]; omega)], c⟩
  · right
    refine ⟨?_, c⟩
    rcases d with d | d
    · rw [if_pos (show v < 1 from d)]
    · rw [if_pos (show (5 : Int32) < v from d)]
      split <;> rfl
theorem mea (v : Int32) : (∃ x : Nat, x ≤ 30 ∧ v = nI x ∧ X11_isMeasure v = 1 ∧ X12_in v.toInt64 0 30 = 1) ∨ (X11_isMeasure v = 0 ∧ X12_in v.toInt64 0 30 = 0) := by
  unfold X11_isMeasure X11_isMeasure_b0
  rcases in_r v 0 30 (by omega) (by omega) with ⟨n, a, b, rfl, c⟩ | ⟨c, d⟩
  · left
    exact ⟨n, b, rfl, by rw [if_neg (nI_nn (by omega)), if_neg (by rw [show (30 : Int32) = nI 30 from rfl, nI_lt_iff (by omega) (by omega)]; omega)], c⟩
  · right
    refine ⟨?_, c⟩
    rcases d with d | d
    · rw [if_pos (show v < 0 from d)]
    · rw [if_pos (show (30 : Int32) < v from d)]
      split <;> rfl
theorem pgs (v : Int32) (n : Nat) (hn : n ≤ 10) : (∃ p : Nat, p < n ∧ v = nI p ∧ (∀ σ : Mem, σ 22 0 = nI n → X11_isPage 0 v σ = 1) ∧ ∀ σ : Mem, σ 255 0 = nI n → X12_isPage 251 v σ = some 1) ∨ ((∀ σ : Mem, σ 22 0 = nI n → X11_isPage 0 v σ = 0) ∧ ∀ σ : Mem, σ 255 0 = nI n → X12_isPage 251 v σ = some 0) := by
  by_cases h0 : v < 0
  · right
    refine ⟨fun σ h => ?_, fun σ h => ?_⟩
    · unfold X11_isPage X11_isPage_b0
      rw [if_pos h0]
    · unfold X12_isPage X12_isPage_b0
      have : X12_in v.toInt64 0 (Int32.toInt64 (σ (251 + 4) (nc 0) - 1)) = 0 := by
        rw [m_in, Int32.toInt_toInt64, l_0]
        refine if_neg (fun q => ?_)
        rw [Int32.lt_iff_toInt_lt] at h0
        have : (0 : Int32).toInt = 0 := by decide
        omega
      rw [this, gdb_0]
  · obtain ⟨p, hp, rfl⟩ := i32_nat h0
    have key : ∀ σ : Mem, σ 255 0 = nI n → X12_in (nI p).toInt64 0 (Int32.toInt64 (σ (251 + 4) (nc 0) - 1)) = if p < n then 1 else 0 := by
      intro σ h
      rw [show σ (251 + 4) (nc 0) = nI n from h, m_in, Int32.toInt_toInt64, Int32.toInt_toInt64, l_0, nI_toInt hp]
      cases n with
      | zero =>
        rw [show (nI 0 - 1 : Int32).toInt = -1 from rfl, if_neg (by omega), if_neg (by omega)]
      | succ n =>
        rw [nI_s1, nI_toInt (by omega)]
        by_cases c : p < n + 1
        · rw [if_pos c, if_pos (by omega)]
        · rw [if_neg c, if_neg (by omega)]
    by_cases c : p < n
    · left
      refine ⟨p, c, rfl, fun σ h => ?_, fun σ h => ?_⟩
      · unfold X11_isPage X11_isPage_b0
        rw [if_neg (nI_nn hp), show σ (0 + 22) 0 = nI n from h, if_neg (by rw [nI_le_iff (by omega) hp]; omega)]
      · unfold X12_isPage X12_isPage_b0
        rw [key σ h, if_pos c, gdb_1]
    · right
      refine ⟨fun σ h => ?_, fun σ h => ?_⟩
      · unfold X11_isPage X11_isPage_b0
        rw [if_neg (nI_nn hp), show σ (0 + 22) 0 = nI n from h, if_pos (nI_le (by omega) hp)]
      · unfold X12_isPage X12_isPage_b0
        rw [key σ h, if_neg c, gdb_0]
theorem there (n : Nat) (hn : n ≤ 10) : (n = 0 ∧ (∀ σ : Mem, σ 22 0 = nI n → X11_isWithoutBook 0 σ = 1) ∧ ∀ σ : Mem, σ 255 0 = nI n → X12_isThere 251 σ = some 0) ∨ (0 < n ∧ (∀ σ : Mem, σ 22 0 = nI n → X11_isWithoutBook 0 σ = 0) ∧ ∀ σ : Mem, σ 255 0 = nI n → X12_isThere 251 σ = some 1) := by
  by_cases c : n = 0
  · left
    refine ⟨c, fun σ h => ?_, fun σ h => ?_⟩
    · unfold X11_isWithoutBook X11_isWithoutBook_b0
      rw [show σ (0 + 22) 0 = nI n from h, c, if_pos (show nI 0 = 0 from rfl)]
    · unfold X12_isThere X12_isThere_b0
      rw [show σ (251 + 4) (nc 0) = nI n from h, c, if_pos (by decide)]
  · right
    refine ⟨by omega, fun σ h => ?_, fun σ h => ?_⟩
    · unfold X11_isWithoutBook X11_isWithoutBook_b0
      rw [show σ (0 + 22) 0 = nI n from h, if_neg (show ¬ nI n = 0 from fun q => c ((nI_inj (b := 0) (by omega) (by omega)).mp q))]
    · unfold X12_isThere X12_isThere_b0
      rw [show σ (251 + 4) (nc 0) = nI n from h, if_neg (by rw [show (0 : Int32) = nI 0 from rfl, nI_le_iff (by omega) (by omega)]; omega)]
theorem okB_ins {B : Nat → Nat} {p : Nat} {x : Nat → Nat} (h : okB B) (hp : p ≤ B 0) (hn : B 0 < 10) (h1 : 1 ≤ x 0) (h2 : x 0 ≤ 5) (h3 : ∀ c, 1 ≤ c → c < 4 → x c ≤ 30) : okB (insB B p x) := by
  obtain ⟨a1, a2, a3, a4⟩ := h
  refine ⟨?_, ?_, ?_, fun q hq => ?_⟩
  · show B 0 + 1 ≤ 10
    omega
  · unfold insB
    rw [if_neg (by omega), if_pos (by omega)]
    exact a2
  · unfold insB
    rw [if_neg (by omega), if_pos (by omega)]
    exact a3
  · have hq' : q < B 0 + 1 := hq
    unfold insB
    by_cases e : q = p
    · subst e
      rw [if_neg (by omega), if_neg (by omega), if_pos (by omega), show 3 + 4 * q - (3 + 4 * q) = 0 by omega]
      refine ⟨h1, h2, fun w hw => ?_⟩
      rw [if_neg (by omega), if_neg (by omega), if_pos (by omega)]
      exact h3 _ (by omega) (by omega)
    · by_cases e2 : q < p
      · obtain ⟨b1, b2, b3⟩ := a4 q (by omega)
        rw [if_neg (by omega), if_pos (by omega)]
        refine ⟨b1, b2, fun w hw => ?_⟩
        rw [if_neg (by omega), if_pos (by omega)]
        exact b3 w hw
      · obtain ⟨b1, b2, b3⟩ := a4 (q - 1) (by omega)
        rw [if_neg (by omega), if_neg (by omega), if_neg (by omega), show 3 + 4 * q - 4 = 3 + 4 * (q - 1) by omega]
        refine ⟨b1, b2, fun w hw => ?_⟩
        rw [if_neg (by omega), if_neg (by omega), if_neg (by omega), show 4 + 4 * q + w - 4 = 4 + 4 * (q - 1) + w by omega]
        exact b3 w hw
theorem okB_cut {B : Nat → Nat} {p : Nat} (h : okB B) (hp : p < B 0) : okB (cutB B p) := by
  obtain ⟨a1, a2, a3, a4⟩ := h
  refine ⟨?_, ?_, ?_, fun q hq => ?_⟩
  · show B 0 - 1 ≤ 10
    omega
  · unfold cutB
    rw [if_neg (by omega), if_pos (by omega)]
    exact a2
  · unfold cutB
    rw [if_neg (by omega), if_pos (by omega)]
    exact a3
  · have hq' : q < B 0 - 1 := hq
    unfold cutB
    by_cases e2 : q < p
    · obtain ⟨b1, b2, b3⟩ := a4 q (by omega)
      rw [if_neg (by omega), if_pos (by omega)]
      refine ⟨b1, b2, fun w hw => ?_⟩
      rw [if_neg (by omega), if_pos (by omega)]
      exact b3 w hw
    · obtain ⟨b1, b2, b3⟩ := a4 (q + 1) (by omega)
      rw [if_neg (by omega), if_neg (by omega), show 3 + 4 * q + 4 = 3 + 4 * (q + 1) by omega]
      refine ⟨b1, b2, fun w hw => ?_⟩
      rw [if_neg (by omega), if_neg (by omega), show 4 + 4 * q + w + 4 = 4 + 4 * (q + 1) + w by omega]
      exact b3 w hw
theorem op_put (σ : Mem) (h : InvF F σ) (v1 v2 v3 v4 v5 : Int32) : ∃ (r : Int32) (σ1 σ2 : Mem), X11_put 0 v1 v2 v3 v4 v5 σ = some (r, σ1) ∧ X12_put 251 v1 v2 v3 v4 v5 σ1 = some (r, σ2) ∧ InvF F σ2 := by
  have hI := h
  obtain ⟨B, m, L, I, h⟩ := h
  have h' := h
  obtain ⟨r1, r2, r3, r4, r5, r6, r7, r8, r9, r10, r11, r12, r13⟩ := h
  have n1 : σ 22 0 = nI (B 0) := r7.1
  have n2 : σ 255 0 = nI (B 0) := r8 0 (by omega)
  have hn := r6.1
  unfold X11_put X11_put_b0 X12_put X12_put_b0
  rcases there (B 0) hn with ⟨c0, t1, t2⟩ | ⟨c0, t1, t2⟩
  · exact ⟨-1000002, σ, σ, by rw [t1 σ n1]; rfl, by rw [t2 σ n2]; rfl, hI⟩
  rw [t1 σ n1, if_pos rfl]
  have hbad : ∀ {P : Prop}, P → P := fun h => h
  rcases (show (∃ p : Nat, p ≤ B 0 ∧ v1 = nI p) ∨ (v1 < 0 ∨ nI (B 0) < v1) by
    by_cases q : v1 < 0
    · exact Or.inr (Or.inl q)
    · by_cases q2 : nI (B 0) < v1
      · exact Or.inr (Or.inr q2)
      · obtain ⟨p, a, b⟩ := i32_upto q q2 (by omega)
        exact Or.inl ⟨p, a, b⟩) with ⟨p, hp, rfl⟩ | c1
  · have e1 : ∀ σ : Mem, σ 255 0 = nI (B 0) → X12_in (nI p).toInt64 0 (Int32.toInt64 (σ (251 + 4) (nc 0))) = 1 := by
      intro σ hσ
      rw [show σ (251 + 4) (nc 0) = nI (B 0) from hσ, m_in, Int32.toInt_toInt64, Int32.toInt_toInt64, l_0, nI_toInt (by omega), nI_toInt (by omega)]
      exact if_pos (by omega)
    rw [if_neg (nI_nn (by omega)), show σ (0 + 22) 0 = nI (B 0) from n1, if_neg (by rw [nI_lt_iff (by omega) (by omega)]; omega)]
    rcases kin v2 with ⟨x0, a1, a2, rfl, a3, a4⟩ | ⟨a3, a4⟩
    · rw [a3, if_neg (by decide)]
      rcases mea v3 with ⟨x1, b1, rfl, b3, b4⟩ | ⟨b3, b4⟩
      · rw [b3, if_neg (by decide)]
        rcases mea v4 with ⟨x2, d1, rfl, d3, d4⟩ | ⟨d3, d4⟩
        · rw [d3, if_neg (by decide)]
          rcases mea v5 with ⟨x3, f1, rfl, f3, f4⟩ | ⟨f3, f4⟩
          · rw [f3, if_neg (by decide)]
            by_cases cn : B 0 = 10
            · refine ⟨-1000003, σ, σ, ?_, ?_, hI⟩
              · rw [cn, if_neg (by decide)]
              · rw [t2 σ n2, ob_some, if_neg (by decide), e1 σ n2, if_neg (by decide), a4, if_neg (by decide), b4, if_neg (by decide), d4, if_neg (by decide), f4, if_neg (by decide), show σ (251 + 4) (nc 0) = nI (B 0) from n2, cn, if_pos (by decide)]
            · rw [if_pos (show nI (B 0) < 10 from nI_lt (b := 10) (by omega) (by omega))]
              obtain ⟨σ1, s1, s2, s3⟩ := act_s h'
              rw [s1, ob_some]
              obtain ⟨σ1', i1, i2, i3⟩ := ins_s 22 p (fun c => if c = 0 then x0 else if c = 1 then x1 else if c = 2 then x2 else x3) σ1 B s2 hp (by omega)
              have i1' : X2_insert (0 + 22) (nI p) (nI x0) (nI x1) (nI x2) (nI x3) σ1 = some σ1' := i1
              obtain ⟨u1, σ2, u2, u3, u4⟩ := s3 σ1' (insB B p (fun c => if c = 0 then x0 else if c = 1 then x1 else if c = 2 then x2 else x3)) (fun q hq => i3 q (by omega)) i2 (okB_ins r6 hp (by omega) a1 a2 (fun c w1 w2 => by
                show (if c = 0 then x0 else if c = 1 then x1 else if c = 2 then x2 else x3) ≤ 30
                split
                · omega
                · split
                  · omega
                  · split <;> omega))
              obtain ⟨σ3, f, o1, o2, o3⟩ := mins_s 255 p (fun c => if c = 0 then x0 else if c = 1 then x1 else if c = 2 then x2 else x3) σ2 B u3 hp (by omega)
              have o1' : X12_opens (251 + 4) (nI p) σ2 = some σ3 := o1
              have o2' : X12_lays (251 + 4) (nI p) (nI x0) (nI x1) (nI x2) (nI x3) σ3 = some (wrF σ2 255 f) := o2
              have n3 : σ1' 255 0 = nI (B 0) := u1 0 (by omega)
              refine ⟨nI (B 0 + 1), σ1', wrF σ2 255 f, ?_, ?_, u4 _ (fun q hq => wrF_ne _ _ hq) (by rw [wrF_same]; exact o3)⟩
              · rw [i1', ob_some, show σ1' (0 + 22) 0 = nI (B 0 + 1) from i2.1]
              · rw [t2 _ n3, ob_some, if_neg (by decide), e1 _ n3, if_neg (by decide), a4, if_neg (by decide), b4, if_neg (by decide), d4, if_neg (by decide), f4, if_neg (by decide), show σ1' (251 + 4) (nc 0) = nI (B 0) from n3, if_neg (show ¬ nI (B 0) = 10 from fun q => cn ((nI_inj (b := 10) (by omega) (by omega)).mp q)), u2, ob_some, o1', ob_some, o2', ob_some, show wrF σ2 255 f (251 + 4) (nc 0) = nI (B 0 + 1) from (congrFun (wrF_same σ2 255 f) 0).trans (o3 0 (by omega))]
          · exact ⟨-1000001, σ, σ, by rw [f3, if_pos rfl], by rw [t2 σ n2, ob_some, if_neg (by decide), e1 σ n2, if_neg (by decide), a4, if_neg (by decide), b4, if_neg (by decide), d4, if_neg (by decide), f4, if_pos rfl], hI⟩
        · exact ⟨-1000001, σ, σ, by rw [d3, if_pos rfl], by rw [t2 σ n2, ob_some, if_neg (by decide), e1 σ n2, if_neg (by decide), a4, if_neg (by decide), b4, if_neg (by decide), d4, if_pos rfl], hI⟩
      · exact ⟨-1000001, σ, σ, by rw [b3, if_pos rfl], by rw [t2 σ n2, ob_some, if_neg (by decide), e1 σ n2, if_neg (by decide), a4, if_neg (by decide), b4, if_pos rfl], hI⟩
    · exact ⟨-1000001, σ, σ, by rw [a3, if_pos rfl], by rw [t2 σ n2, ob_some, if_neg (by decide), e1 σ n2, if_neg (by decide), a4, if_pos rfl], hI⟩
  · refine ⟨-1000001, σ, σ, ?_, ?_, hI⟩
    · rcases c1 with c1 | c1
      · rw [if_pos c1]
      · rw [show σ (0 + 22) 0 = nI (B 0) from n1, if_pos c1]
        split <;> rfl
    · rw [t2 σ n2, ob_some, if_neg (by decide)]
      rcases in_r v1 0 (B 0) (by omega) (by omega) with ⟨n, w1, w2, rfl, w3⟩ | ⟨w3, w4⟩
      · rcases c1 with c1 | c1
        · exact absurd c1 (nI_nn (by omega))
        · rw [nI_lt_iff (by omega) (by omega)] at c1
          omega
      · rw [show X12_in v1.toInt64 0 (Int32.toInt64 (σ (251 + 4) (nc 0))) = 0 by rw [show σ (251 + 4) (nc 0) = nI (B 0) from n2, nI_l (by omega)]; exact w3, if_pos rfl]
end
