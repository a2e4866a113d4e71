/-! PURE: whether so many hands will do for a set of pages. -/
def Fea (nr : Nat → Nat → Prop) (S k : Nat) : Prop := ∃ g : Nat → Nat, (∀ p, S.testBit p = true → g p < k) ∧ ∀ p q, S.testBit p = true → S.testBit q = true → g p = g q → nr p q
theorem or_two (f V p : Nat) : (2 ^ f ||| V).testBit p = true ↔ p = f ∨ V.testBit p = true := by
  rw [Nat.testBit_or, Nat.testBit_two_pow, Bool.or_eq_true, decide_eq_true_iff]
  constructor
  · rintro (a | a)
    · exact Or.inl a.symm
    · exact Or.inr a
  · rintro (a | a)
    · exact Or.inl a.symm
    · exact Or.inr a
theorem oth_t (S f p : Nat) : (oth S f).testBit p = true ↔ S.testBit p = true ∧ p ≠ f := by
  rw [oth_bit, Bool.and_eq_true, Bool.not_eq_true', decide_eq_false_iff_not]
  constructor
  · rintro ⟨a, b⟩
    exact ⟨a, fun c => b c.symm⟩
  · rintro ⟨a, b⟩
    exact ⟨a, fun c => b c.symm⟩
theorem andn_t (a b i : Nat) : (andn a b).testBit i = true ↔ a.testBit i = true ∧ ¬ b.testBit i = true := by
  rw [andn_bit, Bool.and_eq_true, Bool.not_eq_true']
  simp
theorem bit10 {S p n : Nat} (hS : S < 2 ^ n) (hp : S.testBit p = true) : p < n := by
  rcases Nat.lt_or_ge p n with e | e
  · exact e
  · have := lt_bits.mp hS p e
    rw [hp] at this
    exact absurd this (by decide)
/-- the pages of one mind with the first -/
def blo (g : Nat → Nat) (S f : Nat) : Nat := msk (fun p => (oth S f).testBit p && decide (g p = g f)) 10
theorem blo_t (g : Nat → Nat) {S f : Nat} (hS : S < 2 ^ 10) (p : Nat) : (blo g S f).testBit p = true ↔ (oth S f).testBit p = true ∧ g p = g f := by
  unfold blo
  rw [msk_bit, Bool.and_eq_true, Bool.and_eq_true, decide_eq_true_iff, decide_eq_true_iff]
  constructor
  · rintro ⟨_, a⟩
    exact a
  · rintro ⟨a, b⟩
    exact ⟨bit10 hS ((oth_t S f p).mp a).1, a, b⟩
theorem relab {nr : Nat → Nat → Prop} {S k x R : Nat} {g : Nat → Nat} (hx : x < k) (h1 : ∀ p, S.testBit p = true → g p < k) (h2 : ∀ p q, S.testBit p = true → S.testBit q = true → g p = g q → nr p q) (hR : ∀ p, R.testBit p = true → S.testBit p = true ∧ g p ≠ x) : Fea nr R (k - 1) := by
  refine ⟨fun p => if x < g p then g p - 1 else g p, fun p hp => ?_, fun p q hp hq e => ?_⟩
  · have a := hR p hp
    have b := h1 p a.1
    have c := a.2
    show (if x < g p then g p - 1 else g p) < k - 1
    split <;> omega
  · have a := hR p hp
    have b := hR q hq
    have a2 := a.2
    have b2 := b.2
    have e' : (if x < g p then g p - 1 else g p) = (if x < g q then g q - 1 else g q) := e
    refine h2 p q a.1 b.1 ?_
    by_cases c1 : x < g p
    · rw [if_pos c1] at e'
      by_cases c2 : x < g q
      · rw [if_pos c2] at e'
        omega
      · rw [if_neg c2] at e'
        omega
    · rw [if_neg c1] at e'
      by_cases c2 : x < g q
      · rw [if_pos c2] at e'
        omega
      · rw [if_neg c2] at e'
        omega
theorem subs_lt {S T f : Nat} (hs : ∀ i, T.testBit i = true → S.testBit i = true) (h1 : S.testBit f = true) (h2 : ¬ T.testBit f = true) : T < S := by
  have a := sub_le hs
  rcases Nat.lt_or_ge T S with c | c
  · exact c
  · have e : T = S := by omega
    rw [e] at h2
    exact absurd h1 h2
theorem Cp_of_Fea {nr : Nat → Nat → Prop} : ∀ (b S k d : Nat) (pre : Nat → Nat), S ≤ b → S < 2 ^ 10 → Fea nr S k → ∃ h, Cp nr (d + k) pre d S h := by
  intro b
  induction b with
  | zero =>
    intro S k d pre hb hS hF
    obtain rfl : S = 0 := by omega
    exact ⟨pre, Cp_nil⟩
  | succ b ih =>
    intro S k d pre hb hS hF
    by_cases z : S = 0
    · subst z
      exact ⟨pre, Cp_nil⟩
    obtain ⟨f, hf⟩ := low_ex z
    obtain ⟨g, h1, h2⟩ := hF
    have hk : g f < k := h1 f hf.1
    have tb := fun p => blo_t g (S := S) (f := f) hS p
    have hv : sub (blo g S f) (oth S f) := fun p hp => ((tb p).mp hp).1
    have inT : ∀ p, (2 ^ f ||| blo g S f).testBit p = true ↔ S.testBit p = true ∧ g p = g f := by
      intro p
      rw [or_two, tb, oth_t]
      constructor
      · rintro (a | ⟨⟨a, _⟩, c⟩)
        · rw [a]
          exact ⟨hf.1, rfl⟩
        · exact ⟨a, c⟩
      · rintro ⟨a, c⟩
        by_cases e : p = f
        · exact Or.inl e
        · exact Or.inr ⟨⟨a, e⟩, c⟩
    have hR : ∀ p, (andn S (2 ^ f ||| blo g S f)).testBit p = true → S.testBit p = true ∧ g p ≠ g f := by
      intro p hp
      have := (andn_t _ _ _).mp hp
      exact ⟨this.1, fun e => this.2 ((inT p).mpr ⟨this.1, e⟩)⟩
    have hlt : andn S (2 ^ f ||| blo g S f) < S := subs_lt (f := f) (fun i hi => (hR i hi).1) hf.1 (fun q => (hR f q).2 rfl)
    obtain ⟨h, hh⟩ := ih (andn S (2 ^ f ||| blo g S f)) (k - 1) (d + 1) (upp pre (2 ^ f ||| blo g S f) d) (by omega) (by omega) (relab hk h1 h2 hR)
    rw [show d + 1 + (k - 1) = d + k by omega] at hh
    refine ⟨h, (Cp_put (by omega) hf hv (fun p q hp hq => ?_) hh).1⟩
    have a := (inT p).mp hp
    have c := (inT q).mp hq
    exact h2 p q a.1 c.1 (by rw [a.2, c.2])
theorem Fea_Cp {nr : Nat → Nat → Prop} {S k : Nat} (hS : S < 2 ^ 10) : Fea nr S k ↔ ∃ h, Cp nr k (fun _ => 0) 0 S h := by
  constructor
  · intro h
    have := Cp_of_Fea S S k 0 (fun _ => 0) (Nat.le_refl S) hS h
    rw [Nat.zero_add] at this
    exact this
  · rintro ⟨h, c⟩
    exact ⟨h, fun p hp => (c.2.1 p hp).2, c.2.2.1⟩
theorem Fea_nr {nr nr' : Nat → Nat → Prop} {S k : Nat} (e : ∀ p q, S.testBit p = true → S.testBit q = true → (nr p q ↔ nr' p q)) : Fea nr S k ↔ Fea nr' S k := by
  constructor
  · rintro ⟨g, a, b⟩
    exact ⟨g, a, fun p q hp hq x => (e p q hp hq).mp (b p q hp hq x)⟩
  · rintro ⟨g, a, b⟩
    exact ⟨g, a, fun p q hp hq x => (e p q hp hq).mpr (b p q hp hq x)⟩
theorem Fea_mono {nr : Nat → Nat → Prop} {S k k' : Nat} (hk : k ≤ k') (h : Fea nr S k) : Fea nr S k' := by
  obtain ⟨g, a, b⟩ := h
  exact ⟨g, fun p hp => Nat.lt_of_lt_of_le (a p hp) hk, b⟩
theorem Fea_0 {nr : Nat → Nat → Prop} {k : Nat} : Fea nr 0 k := ⟨fun _ => 0, fun p hp => by rw [Nat.zero_testBit] at hp; exact absurd hp (by decide), fun p q hp => by rw [Nat.zero_testBit] at hp; exact absurd hp (by decide)⟩
theorem Fea_n0 {nr : Nat → Nat → Prop} {S : Nat} (h : S ≠ 0) : ¬ Fea nr S 0 := by
  rintro ⟨g, a, _⟩
  obtain ⟨f, hf⟩ := low_ex h
  exact absurd (a f hf.1) (Nat.not_lt_zero _)
theorem Fea_10 {nr : Nat → Nat → Prop} {S n : Nat} (hn : n ≤ 10) (hS : S < 2 ^ n) (hr : ∀ p, p < n → nr p p) : Fea nr S 10 := ⟨fun p => p, fun p hp => by have := bit10 hS hp; show p < 10; omega, fun p q hp hq e => by
  have e' : p = q := e
  subst e'
  exact hr p (bit10 hS hp)⟩
theorem Fea_step {nr : Nat → Nat → Prop} {S f k n : Nat} (hn : n ≤ 10) (hS : S < 2 ^ n) (hf : isLow S f) (hr : ∀ p, p < n → nr p p) (hs : ∀ p q, p < n → q < n → nr p q → nr q p) : Fea nr S (k + 1) ↔ ∃ V, sub V (oth S f) ∧ (∀ p, V.testBit p = true → nr f p) ∧ Fea nr V 1 ∧ Fea nr (andn (oth S f) V) k := by
  have hS10 : S < 2 ^ 10 := Nat.lt_of_lt_of_le hS (Nat.pow_le_pow_right (by omega) hn)
  constructor
  · rintro ⟨g, h1, h2⟩
    have tb := fun p => blo_t g (S := S) (f := f) hS10 p
    refine ⟨blo g S f, fun p hp => ((tb p).mp hp).1, fun p hp => ?_, ⟨fun _ => 0, fun p _ => Nat.zero_lt_one, fun p q hp hq _ => ?_⟩, ?_⟩
    · have a := (tb p).mp hp
      exact h2 f p hf.1 ((oth_t _ _ _).mp a.1).1 a.2.symm
    · have a := (tb p).mp hp
      have c := (tb q).mp hq
      exact h2 p q ((oth_t _ _ _).mp a.1).1 ((oth_t _ _ _).mp c.1).1 (by rw [a.2, c.2])
    · have := relab (nr := nr) (x := g f) (R := andn (oth S f) (blo g S f)) (h1 f hf.1) h1 h2 (fun p hp => by
        have a := (andn_t _ _ _).mp hp
        exact ⟨((oth_t _ _ _).mp a.1).1, fun e => a.2 ((tb p).mpr ⟨a.1, e⟩)⟩)
      rw [Nat.add_sub_cancel] at this
      exact this
  · rintro ⟨V, v1, v2, ⟨g1, v3, v4⟩, g, h1, h2⟩
    have vv : ∀ p q, V.testBit p = true → V.testBit q = true → nr p q := fun p q hp hq => v4 p q hp hq (by
      have := v3 p hp
      have := v3 q hq
      omega)
    have cs : ∀ p, S.testBit p = true → (andn (oth S f) V).testBit p = true ∨ (¬ (andn (oth S f) V).testBit p = true ∧ (p = f ∨ V.testBit p = true)) := by
      intro p hp
      by_cases c : (andn (oth S f) V).testBit p = true
      · exact Or.inl c
      · refine Or.inr ⟨c, ?_⟩
        rw [andn_t, oth_t] at c
        by_cases e : p = f
        · exact Or.inl e
        · right
          rcases hv : V.testBit p with _ | _
          · exact absurd ⟨⟨hp, e⟩, by rw [hv]; decide⟩ c
          · rfl
    refine ⟨fun p => if (andn (oth S f) V).testBit p = true then g p else k, fun p hp => ?_, fun p q hp hq e => ?_⟩
    · show (if (andn (oth S f) V).testBit p = true then g p else k) < k + 1
      by_cases c : (andn (oth S f) V).testBit p = true
      · rw [if_pos c]
        have := h1 p c
        omega
      · rw [if_neg c]
        omega
    · have e' : (if (andn (oth S f) V).testBit p = true then g p else k) = (if (andn (oth S f) V).testBit q = true then g q else k) := e
      have bf : f < n := bit10 hS hf.1
      rcases cs p hp with c | ⟨c, c'⟩
      · rw [if_pos c] at e'
        have := h1 p c
        rcases cs q hq with d | ⟨d, d'⟩
        · rw [if_pos d] at e'
          exact h2 p q c d e'
        · rw [if_neg d] at e'
          omega
      · rw [if_neg c] at e'
        rcases cs q hq with d | ⟨d, d'⟩
        · rw [if_pos d] at e'
          have := h1 q d
          omega
        · rcases c' with rfl | c'
          · rcases d' with rfl | d'
            · exact hr _ bf
            · exact v2 q d'
          · rcases d' with rfl | d'
            · exact hs _ p bf (bit10 hS hp) (v2 p c')
            · exact vv p q c' d'
theorem least_ex {P : Nat → Prop} (hm : ∀ k k', k ≤ k' → P k → P k') : ∀ b, P b → ∃ t, t ≤ b ∧ ∀ k, P k ↔ t ≤ k := by
  intro b
  induction b with
  | zero => exact fun h => ⟨0, Nat.le_refl 0, fun k => ⟨fun _ => Nat.zero_le k, fun _ => hm 0 k (Nat.zero_le k) h⟩⟩
  | succ b ih =>
    intro h
    by_cases c : P b
    · obtain ⟨t, a, d⟩ := ih c
      exact ⟨t, by omega, d⟩
    · refine ⟨b + 1, Nat.le_refl _, fun k => ⟨fun x => ?_, fun x => hm _ _ x h⟩⟩
      rcases Nat.lt_or_ge b k with e | e
      · exact e
      · exact absurd (hm k b e x) c
/-- the table of the fewest hands -/
def Tb (nr : Nat → Nat → Prop) (n : Nat) (T : Nat → Nat) : Prop := ∀ V, V < 2 ^ n → T V ≤ 10 ∧ ∀ k, Fea nr V k ↔ T V ≤ k
theorem Tb_ex {nr : Nat → Nat → Prop} {n : Nat} (hn : n ≤ 10) (hr : ∀ p, p < n → nr p p) : ∃ T, Tb nr n T := by
  have : ∀ V : Nat, ∃ t : Nat, V < 2 ^ n → t ≤ 10 ∧ ∀ k, Fea nr V k ↔ t ≤ k := by
    intro V
    by_cases c : V < 2 ^ n
    · obtain ⟨t, a, b⟩ := least_ex (P := Fea nr V) (fun k k' h x => Fea_mono h x) 10 (Fea_10 hn c hr)
      exact ⟨t, fun _ => ⟨a, b⟩⟩
    · exact ⟨0, fun x => absurd x c⟩
  obtain ⟨T, hT⟩ := Classical.axiomOfChoice this
  exact ⟨T, hT⟩
theorem Tb_0 {nr : Nat → Nat → Prop} {n : Nat} {T : Nat → Nat} (h : Tb nr n T) : T 0 = 0 := by
  have := ((h 0 (Nat.two_pow_pos n)).2 0).mp Fea_0
  omega
theorem few_l {T : Nat → Nat} {O X : Nat} (σ : Mem) (hO : O < 1024) (hX : sub X O) (hσ : ∀ V, V ≤ O → σ 235 V = nI (T V) ∧ T V ≤ 10) : ∀ (d W m acc : Nat), W ≤ d → d < m → sub W X → acc ≤ 11 → ∃ r, X3_fewestFor_l47 m 211 (nI O) (nI X) (nI acc) (nI W) σ = some (nI r) ∧ r ≤ acc ∧ (r = acc ∨ ∃ V, sub V X ∧ T V = 1 ∧ r = 1 + T (andn O V)) ∧ ∀ V, sub V X → V ≠ 0 → V ≤ W → T V = 1 → r ≤ 1 + T (andn O V) := by
  intro d
  induction d with
  | zero =>
    intro W m acc hd hm hW ha
    obtain ⟨m, rfl⟩ : ∃ m', m = m' + 1 := ⟨m - 1, by omega⟩
    obtain rfl : W = 0 := by omega
    exact ⟨acc, rfl, Nat.le_refl _, Or.inl rfl, fun V _ h0 h1 => by omega⟩
  | succ d ih =>
    intro W m acc hd hm hW ha
    obtain ⟨m, rfl⟩ : ∃ m', m = m' + 1 := ⟨m - 1, by omega⟩
    by_cases z : W = 0
    · subst z
      exact ⟨acc, rfl, Nat.le_refl _, Or.inl rfl, fun V _ h0 h1 => by omega⟩
    obtain ⟨f, hf⟩ := low_ex z
    have hWX : W ≤ X := sub_le hW
    have hXO : X ≤ O := sub_le hX
    have hlt : (W - 1) &&& X < W := next_lt hf
    have hsub : sub ((W - 1) &&& X) X := fun i hi => by
      rw [Nat.testBit_and, Bool.and_eq_true] at hi
      exact hi.2
    have han : andn O W ≤ O := sub_le (fun i hi => ((andn_t _ _ _).mp hi).1)
    have hw := hσ W (by omega)
    have ha2 := hσ (andn O W) han
    have un : X3_fewestFor_l47 (m + 1) 211 (nI O) (nI X) (nI acc) (nI W) σ = if T W = 1 then X3_fewestFor_l47 m 211 (nI O) (nI X) (nI (min acc (1 + T (andn O W)))) (nI ((W - 1) &&& X)) σ else X3_fewestFor_l47 m 211 (nI O) (nI X) (nI acc) (nI ((W - 1) &&& X)) σ := by
      show X3_fewestFor_b47 _ 211 (nI O) (nI X) (nI acc) (nI W) σ = _
      unfold X3_fewestFor_b47 X3_fewestFor_b83
      rw [if_neg (show ¬ nI W ≤ 0 by rw [show (0 : Int32) = nI 0 from rfl, nI_le_iff (by omega) (by omega)]; omega), gdx_n (by omega) (by omega), nc_n (by omega), show σ (211 + 24) W = _ from hw.1, nI_andn, gdx_n (by omega) (by omega), nc_n (by omega), show σ (211 + 24) (andn O W) = _ from ha2.1, show (1 : Int32) + nI (T (andn O W)) = nI (1 + T (andn O W)) from nI_add 1 _, mn_n (by omega) (by omega), letv_eq, nI_p1 (by omega), nI_and, letv_eq]
      by_cases c : T W = 1
      · rw [if_pos c, if_pos (show nI (T W) = 1 by rw [c]; rfl)]
      · rw [if_neg c, if_neg (show ¬ nI (T W) = 1 from fun q => c ((nI_inj (b := 1) (by omega) (by omega)).mp q)), letv_eq]
    rw [un]
    by_cases c : T W = 1
    · rw [if_pos c]
      obtain ⟨r, q1, q2, q3, q4⟩ := ih ((W - 1) &&& X) m (min acc (1 + T (andn O W))) (by omega) (by omega) hsub (by omega)
      refine ⟨r, q1, by omega, ?_, fun V v1 v2 v3 v4 => ?_⟩
      · rcases q3 with e | e
        · rcases Nat.le_total acc (1 + T (andn O W)) with y | y
          · exact Or.inl (by omega)
          · exact Or.inr ⟨W, hW, c, by omega⟩
        · exact Or.inr e
      · by_cases e : V = W
        · subst e
          omega
        · exact q4 V v1 v2 (sub_le_next hf hW v1 (by omega)) v4
    · rw [if_neg c]
      obtain ⟨r, q1, q2, q3, q4⟩ := ih ((W - 1) &&& X) m acc (by omega) (by omega) hsub ha
      refine ⟨r, q1, q2, q3, fun V v1 v2 v3 v4 => ?_⟩
      by_cases e : V = W
      · subst e
        exact absurd v4 c
      · exact q4 V v1 v2 (sub_le_next hf hW v1 (by omega)) v4
theorem few_s {M : Nat → Nat} {n : Nat} (hn : n ≤ 10) {T : Nat → Nat} (hT : Tb (nrT M) n T) (hM : ∀ p, p < n → M p < 2 ^ 10) (hr : ∀ p, p < n → nrT M p p) (hs : ∀ p q, p < n → q < n → nrT M p q → nrT M q p) (σ : Mem) (h1 : ∀ p, p < n → σ 231 p = nI (M p)) {S : Nat} (hS : S < 2 ^ n) (h2 : ∀ V, V < S → σ 235 V = nI (T V)) : X3_fewestFor 211 (nI S) σ = some (nI (T S)) := by
  by_cases z : S = 0
  · subst z
    rw [Tb_0 hT]
    rfl
  have h2n : 2 ^ n ≤ 2 ^ 10 := Nat.pow_le_pow_right (by omega) hn
  obtain ⟨f, hf⟩ := low_ex z
  have bf : f < n := bit10 hS hf.1
  have eO : S &&& (S - 1) = oth S f := by
    apply Nat.eq_of_testBit_eq
    intro i
    rw [Nat.testBit_and, pred_bit f S hf i, oth_bit]
    by_cases c : i < f
    · rw [if_pos c, hf.2 i c]
      rfl
    · rw [if_neg c]
      by_cases e : i = f
      · rw [if_pos e, e, decide_eq_true rfl]
        rfl
      · rw [if_neg e, decide_eq_false (fun q => e q.symm)]
        cases S.testBit i <;> rfl
  have hO : oth S f < S := subs_lt (f := f) (fun i hi => ((oth_t _ _ _).mp hi).1) hf.1 (fun q => ((oth_t _ _ _).mp q).2 rfl)
  have hX : sub (oth S f &&& M f) (oth S f) := fun i hi => by
    rw [Nat.testBit_and, Bool.and_eq_true] at hi
    exact hi.1
  have hXO := sub_le hX
  have hTO := (hT (oth S f) (by omega)).1
  obtain ⟨r, q1, q2, q3, q4⟩ := few_l (T := T) (O := oth S f) (X := oth S f &&& M f) σ (by omega) hX (fun V hV => ⟨h2 V (by omega), (hT V (by omega)).1⟩) (oth S f &&& M f) (oth S f &&& M f) FU (1 + T (oth S f)) (Nat.le_refl _) (by unfold FU; omega) (fun i hi => hi) (by omega)
  have st := fun k => Fea_step (nr := nrT M) (k := k) hn hS hf hr hs
  have up : ∀ V, sub V (oth S f) → (∀ p, V.testBit p = true → nrT M f p) → Fea (nrT M) V 1 → T S ≤ 1 + T (andn (oth S f) V) := by
    intro V v1 v2 v3
    have hle : andn (oth S f) V ≤ oth S f := sub_le (fun i hi => ((andn_t _ _ _).mp hi).1)
    refine ((hT S hS).2 _).mp ?_
    rw [Nat.add_comm]
    exact (st _).mpr ⟨V, v1, v2, v3, ((hT _ (by omega)).2 _).mpr (Nat.le_refl _)⟩
  have an0 : andn (oth S f) 0 = oth S f := by
    apply Nat.eq_of_testBit_eq
    intro i
    rw [andn_bit, Nat.zero_testBit]
    cases (oth S f).testBit i <;> rfl
  have er : r = T S := by
    apply Nat.le_antisymm
    · have hF : Fea (nrT M) S (T S) := ((hT S hS).2 _).mpr (Nat.le_refl _)
      rcases hk : T S with _ | k
      · rw [hk] at hF
        exact absurd hF (Fea_n0 z)
      rw [hk] at hF
      obtain ⟨V, v1, v2, v3, v4⟩ := (st k).mp hF
      have hle : andn (oth S f) V ≤ oth S f := sub_le (fun i hi => ((andn_t _ _ _).mp hi).1)
      have hVO := sub_le v1
      have t1 := ((hT _ (by omega)).2 _).mp v4
      by_cases e : V = 0
      · subst e
        rw [an0] at t1
        omega
      · have t2 := ((hT V (by omega)).2 1).mp v3
        have t3 : ¬ T V ≤ 0 := fun q => Fea_n0 e (((hT V (by omega)).2 0).mpr q)
        have vs : sub V (oth S f &&& M f) := fun i hi => by
          rw [Nat.testBit_and, Bool.and_eq_true]
          exact ⟨v1 i hi, v2 i hi⟩
        have := q4 V vs e (sub_le vs) (by omega)
        omega
    · rcases q3 with e | ⟨V, v1, v2, e⟩
      · have := up 0 (fun i hi => by rw [Nat.zero_testBit] at hi; exact absurd hi (by decide)) (fun p hp => by rw [Nat.zero_testBit] at hp; exact absurd hp (by decide)) Fea_0
        rw [an0] at this
        omega
      · have hb : ∀ i, V.testBit i = true → (oth S f).testBit i = true ∧ (M f).testBit i = true := fun i hi => by
          have := v1 i hi
          rw [Nat.testBit_and, Bool.and_eq_true] at this
          exact this
        have hVO : V ≤ oth S f := sub_le (fun i hi => (hb i hi).1)
        have := up V (fun i hi => (hb i hi).1) (fun p hp => (hb p hp).2) (((hT V (by omega)).2 1).mpr (by omega))
        omega
  rw [← er]
  unfold X3_fewestFor X3_fewestFor_b0
  rw [if_neg (nI_ne0 (by omega) (by omega)), letv_eq, ntz_s hf (by omega), nI_p1 (by omega), nI_and, eO, letv_eq, gdx_n (by omega) (by omega), nc_n (by omega), show σ (211 + 7 + 1 + 12) f = _ from h1 f bf, nI_and, letv_eq, gdx_n (by omega) (by omega), nc_n (by omega), show σ (211 + 24) (oth S f) = _ from h2 _ hO, letv_eq, show (1 : Int32) + nI (T (oth S f)) = nI (1 + T (oth S f)) from nI_add 1 _]
  exact q1
