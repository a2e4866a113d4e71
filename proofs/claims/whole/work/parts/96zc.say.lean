/-! PURE: say. -/
theorem look_f {σ : Mem} {B : Nat → Nat} (ho : okB B) (hA : AtB σ 22 B) (hf : Fsh FOK σ B) : ∃ σ', X11_look 0 σ = some σ' ∧ FOK σ' B ∧ σ' 0 9 = 1 ∧ (∀ q, q ≠ 0 → (q < 175 ∨ 211 ≤ q) → σ' q = σ q) ∧ ∀ j, j ≠ 9 → σ' 0 j = σ 0 j := by
  unfold X11_look X11_look_b0
  rcases hf with r13 | ⟨r13, r14⟩
  · obtain ⟨σ1, e1, e2, e3⟩ := lookAt_s ho σ hA
    refine ⟨wr σ1 0 9 1, ?_, FOK_loc σ1 _ B (fun q a b => wr_off _ _ _ (by omega)) e2, wr_at _ _ _ _, fun q a b => by rw [wr_off _ _ _ a, e3 q b], fun j hj => by rw [wr_in _ _ hj, e3 0 (by omega)]⟩
    rw [if_pos r13, show X4_lookAt (0 + 175) (0 + 22) σ = some σ1 from e1, ob_some]
  · refine ⟨σ, ?_, r14, r13, fun _ _ _ => rfl, fun _ _ => rfl⟩
    rw [if_neg (by rw [r13]; decide)]
theorem spl_l {σ : Mem} {t : Nat} (ht : t ≤ 130) (h1 : σ 13 1 = nI t) (w : Nat) (hw : t = stLN w) : ∀ (d i m : Nat), i + d = t → d < m → (∀ j, j < i → σ 14 j = stCh w j) → ∃ r, X10_spells_l15 m 13 w (nI i) σ = some r ∧ ((r = 1 ∧ ∀ j, j < t → σ 14 j = stCh w j) ∨ (r = 0 ∧ ¬ ∀ j, j < t → σ 14 j = stCh w j)) := by
  intro d
  induction d with
  | zero =>
    intro i m hi hm hs
    obtain ⟨m, rfl⟩ : ∃ m', m = m' + 1 := ⟨m - 1, by omega⟩
    refine ⟨1, ?_, Or.inl ⟨rfl, fun j hj => hs j (by omega)⟩⟩
    show X10_spells_b15 _ 13 w (nI i) σ = _
    unfold X10_spells_b15
    rw [h1, if_pos (nI_le (by omega) (by omega))]
  | succ d ih =>
    intro i m hi hm hs
    obtain ⟨m, rfl⟩ : ∃ m', m = m' + 1 := ⟨m - 1, by omega⟩
    show ∃ r, X10_spells_b15 _ 13 w (nI i) σ = some r ∧ _
    unfold X10_spells_b15
    rw [h1, if_neg (show ¬ nI t ≤ nI i by rw [nI_le_iff (by omega) (by omega)]; omega), gdx_n (by omega) (by omega), gdx_n (by omega) (by omega), nc_n (by omega), nI_1]
    by_cases c : σ (13 + 1) i = stCh w i
    · rw [if_pos c]
      exact ih (i + 1) m (by omega) (by omega) (fun j hj => by
        by_cases e : j = i
        · rw [e]
          exact c
        · exact hs j (by omega))
    · rw [if_neg c]
      exact ⟨0, rfl, Or.inr ⟨rfl, fun q => c (q i (by omega))⟩⟩
theorem spl_s {σ : Mem} {t : Nat} (ht : t ≤ 130) (h1 : σ 13 1 = nI t) (w : Nat) (hl : stLN w < 2 ^ 31) : ∃ r, X10_spells 13 w σ = some r ∧ ((r = 1 ∧ t = stLN w ∧ ∀ j, j < t → σ 14 j = stCh w j) ∨ (r = 0 ∧ ¬ (t = stLN w ∧ ∀ j, j < t → σ 14 j = stCh w j))) := by
  unfold X10_spells X10_spells_b0
  rw [h1]
  by_cases c : t = stLN w
  · rw [if_pos (show stLn w = nI t by rw [c]; rfl)]
    obtain ⟨r, e1, e2⟩ := spl_l ht h1 w c t 0 FU (by omega) (by unfold FU; omega) (fun j hj => by omega)
    refine ⟨r, e1, ?_⟩
    rcases e2 with ⟨e2, e3⟩ | ⟨e2, e3⟩
    · exact Or.inl ⟨e2, c, e3⟩
    · exact Or.inr ⟨e2, fun q => e3 q.2⟩
  · rw [if_neg (show ¬ stLn w = nI t from fun q => c ((nI_inj hl (by omega)).mp q).symm)]
    exact ⟨0, rfl, Or.inr ⟨rfl, fun q => c q.1⟩⟩
theorem isAt_s {σ : Mem} {t : Nat} (ht : t ≤ 130) (h1 : σ 251 10 = nI t) (i : Nat) (hi : i < 6) (c : Int32) : ∃ r, X12_isAt 251 (nI i) c σ = some r ∧ ((r = 1 ∧ ((c = 0 ∧ t ≤ i) ∨ (c ≠ 0 ∧ i < t ∧ σ 259 i = c))) ∨ (r = 0 ∧ ¬ ((c = 0 ∧ t ≤ i) ∨ (c ≠ 0 ∧ i < t ∧ σ 259 i = c)))) := by
  unfold X12_isAt X12_isAt_b0
  rw [h1]
  by_cases c0 : c = 0
  · rw [if_pos c0]
    by_cases c1 : i < t
    · rw [if_pos (nI_lt c1 (by omega))]
      refine ⟨0, rfl, Or.inr ⟨rfl, ?_⟩⟩
      rintro (q | q)
      · omega
      · exact q.1 c0
    · rw [if_neg (show ¬ nI i < nI t by rw [nI_lt_iff (by omega) (by omega)]; exact c1)]
      exact ⟨1, rfl, Or.inl ⟨rfl, Or.inl ⟨c0, by omega⟩⟩⟩
  · rw [if_neg c0]
    by_cases c1 : t ≤ i
    · rw [if_pos (nI_le c1 (by omega))]
      refine ⟨0, rfl, Or.inr ⟨rfl, ?_⟩⟩
      rintro (q | q)
      · exact c0 q.1
      · omega
    · rw [if_neg (show ¬ nI t ≤ nI i by rw [nI_le_iff (by omega) (by omega)]; exact c1), gdx_n (by omega) (by omega), nc_n (by omega)]
      by_cases c2 : σ (251 + 8) i = c
      · rw [if_pos c2]
        exact ⟨1, rfl, Or.inl ⟨rfl, Or.inr ⟨c0, by omega, c2⟩⟩⟩
      · rw [if_neg c2]
        refine ⟨0, rfl, Or.inr ⟨rfl, ?_⟩⟩
        rintro (q | q)
        · exact c0 q.1
        · exact c2 q.2.2
/-- the model's look at a word -/
theorem told_s {σ : Mem} {t : Nat} (ht : t ≤ 130) (h1 : σ 251 10 = nI t) (c : Nat → Int32) : ∃ r, X12_isTold 251 (c 0) (c 1) (c 2) (c 3) (c 4) (c 5) σ = some r ∧ ((r = 1 ∧ t ≤ 6 ∧ ∀ i, i < 6 → (c i = 0 ∧ t ≤ i) ∨ (c i ≠ 0 ∧ i < t ∧ σ 259 i = c i)) ∨ (r = 0 ∧ ¬ (t ≤ 6 ∧ ∀ i, i < 6 → (c i = 0 ∧ t ≤ i) ∨ (c i ≠ 0 ∧ i < t ∧ σ 259 i = c i)))) := by
  unfold X12_isTold X12_isTold_b0
  obtain ⟨r0, a0, b0⟩ := isAt_s ht h1 0 (by omega) (c 0)
  obtain ⟨r1, a1, b1⟩ := isAt_s ht h1 1 (by omega) (c 1)
  obtain ⟨r2, a2, b2⟩ := isAt_s ht h1 2 (by omega) (c 2)
  obtain ⟨r3, a3, b3⟩ := isAt_s ht h1 3 (by omega) (c 3)
  obtain ⟨r4, a4, b4⟩ := isAt_s ht h1 4 (by omega) (c 4)
  obtain ⟨r5, a5, b5⟩ := isAt_s ht h1 5 (by omega) (c 5)
  rw [show X12_isAt 251 0 (c 0) σ = _ from a0, ob_some, show X12_isAt 251 1 (c 1) σ = _ from a1, ob_some, show X12_isAt 251 2 (c 2) σ = _ from a2, ob_some, show X12_isAt 251 3 (c 3) σ = _ from a3, ob_some, show X12_isAt 251 4 (c 4) σ = _ from a4, ob_some, show X12_isAt 251 5 (c 5) σ = _ from a5, ob_some, h1]
  have no : ∀ i, i < 6 → ¬ ((c i = 0 ∧ t ≤ i) ∨ (c i ≠ 0 ∧ i < t ∧ σ 259 i = c i)) → ∃ r : Int32, some (0 : Int32) = some r ∧ ((r = 1 ∧ t ≤ 6 ∧ ∀ i, i < 6 → (c i = 0 ∧ t ≤ i) ∨ (c i ≠ 0 ∧ i < t ∧ σ 259 i = c i)) ∨ (r = 0 ∧ ¬ (t ≤ 6 ∧ ∀ i, i < 6 → (c i = 0 ∧ t ≤ i) ∨ (c i ≠ 0 ∧ i < t ∧ σ 259 i = c i)))) := fun i hi hx => ⟨0, rfl, Or.inr ⟨rfl, fun q => hx (q.2 i hi)⟩⟩
  rcases b0 with ⟨e0, b0⟩ | ⟨e0, b0⟩
  · rw [if_neg (by rw [e0]; decide)]
    rcases b1 with ⟨e1, b1⟩ | ⟨e1, b1⟩
    · rw [if_neg (by rw [e1]; decide)]
      rcases b2 with ⟨e2, b2⟩ | ⟨e2, b2⟩
      · rw [if_neg (by rw [e2]; decide)]
        rcases b3 with ⟨e3, b3⟩ | ⟨e3, b3⟩
        · rw [if_neg (by rw [e3]; decide)]
          rcases b4 with ⟨e4, b4⟩ | ⟨e4, b4⟩
          · rw [if_neg (by rw [e4]; decide)]
            rcases b5 with ⟨e5, b5⟩ | ⟨e5, b5⟩
            · rw [if_neg (by rw [e5]; decide)]
              by_cases c6 : 6 < t
              · rw [if_pos (show (6 : Int32) < nI t from nI_lt (a := 6) c6 (by omega))]
                exact ⟨0, rfl, Or.inr ⟨rfl, fun q => by omega⟩⟩
              · rw [if_neg (show ¬ (6 : Int32) < nI t from nI_nlt (a := 6) (by omega) (by omega))]
                refine ⟨1, rfl, Or.inl ⟨rfl, by omega, fun i hi => ?_⟩⟩
                rcases (show i = 0 ∨ i = 1 ∨ i = 2 ∨ i = 3 ∨ i = 4 ∨ i = 5 by omega) with rfl | rfl | rfl | rfl | rfl | rfl <;> assumption
            · rw [if_pos e5]
              exact no 5 (by omega) b5
          · rw [if_pos e4]
            exact no 4 (by omega) b4
        · rw [if_pos e3]
          exact no 3 (by omega) b3
      · rw [if_pos e2]
        exact no 2 (by omega) b2
    · rw [if_pos e1]
      exact no 1 (by omega) b1
  · rw [if_pos e0]
    exact no 0 (by omega) b0
/-- one word, asked on both sides -/
theorem word_s {σ σ1 : Mem} {t : Nat} (ht : t ≤ 130) (h1 : σ 13 1 = nI t) (h2 : σ1 251 10 = nI t) (h3 : ∀ i, i < t → σ1 259 i = σ 14 i) (w : Nat) (c : Nat → Int32) (hl : stLN w ≤ 6) (hc : ∀ i, i < stLN w → c i ≠ 0 ∧ c i = stCh w i) (hz : ∀ i, i < 6 → stLN w ≤ i → c i = 0) : ∃ r, X10_spells 13 w σ = some r ∧ X12_isTold 251 (c 0) (c 1) (c 2) (c 3) (c 4) (c 5) σ1 = some r ∧ (r = 0 ∨ r = 1) := by
  obtain ⟨r, e1, e2⟩ := spl_s ht h1 w (by omega)
  obtain ⟨r', f1, f2⟩ := told_s ht h2 c
  have key : (t = stLN w ∧ ∀ j, j < t → σ 14 j = stCh w j) ↔ (t ≤ 6 ∧ ∀ i, i < 6 → (c i = 0 ∧ t ≤ i) ∨ (c i ≠ 0 ∧ i < t ∧ σ1 259 i = c i)) := by
    constructor
    · rintro ⟨q1, q2⟩
      refine ⟨by omega, fun i hi => ?_⟩
      by_cases c1 : i < t
      · obtain ⟨x1, x2⟩ := hc i (by omega)
        exact Or.inr ⟨x1, c1, by rw [h3 i c1, q2 i c1, x2]⟩
      · exact Or.inl ⟨hz i hi (by omega), by omega⟩
    · rintro ⟨q1, q2⟩
      have q3 : t = stLN w := by
        rcases Nat.lt_trichotomy t (stLN w) with x | x | x
        · rcases q2 t (by omega) with y | y
          · exact absurd y.1 (hc t x).1
          · omega
        · exact x
        · rcases q2 (stLN w) (by omega) with y | y
          · omega
          · exact absurd (hz (stLN w) (by omega) (Nat.le_refl _)) y.1
      refine ⟨q3, fun j hj => ?_⟩
      rcases q2 j (by omega) with y | y
      · omega
      · rw [← h3 j hj, y.2.2]
        exact (hc j (by omega)).2
  rcases e2 with ⟨e2, e3⟩ | ⟨e2, e3⟩
  · rcases f2 with ⟨f2, f3⟩ | ⟨f2, f3⟩
    · exact ⟨r, e1, by rw [f1, f2, e2], Or.inr e2⟩
    · exact absurd (key.mp e3) f3
  · rcases f2 with ⟨f2, f3⟩ | ⟨f2, f3⟩
    · exact absurd (key.mpr f3) e3
    · exact ⟨r, e1, by rw [f1, f2, e2], Or.inl e2⟩
theorem wlk {σ σ1 : Mem} {t : Nat} (ht : t ≤ 130) (h1 : σ 13 1 = nI t) (h2 : σ1 251 10 = nI t) (h3 : ∀ i, i < t → σ1 259 i = σ 14 i) : ∃ r r', X10_asks 13 σ = some r ∧ X12_asked 251 σ1 = some r' ∧ ((r = -1000000 ∧ r' = -1) ∨ ∃ w : Nat, w ≤ 9 ∧ w ≠ 8 ∧ r = nI w ∧ r' = nI w) := by
  have W := fun (w : Nat) (c : Nat → Int32) => word_s ht h1 h2 h3 w c
  obtain ⟨r0, a0, b0, c0⟩ := W 0 (fun i => [104, 97, 110, 100, 115, 0].getD i 0) (by decide) (by decide) (by decide)
  obtain ⟨r1, a1, b1, c1⟩ := W 1 (fun i => [100, 111, 117, 98, 116, 115].getD i 0) (by decide) (by decide) (by decide)
  obtain ⟨r2, a2, b2, c2⟩ := W 2 (fun i => [114, 117, 110, 115, 0, 0].getD i 0) (by decide) (by decide) (by decide)
  obtain ⟨r3, a3, b3, c3⟩ := W 3 (fun i => [119, 101, 105, 103, 104, 116].getD i 0) (by decide) (by decide) (by decide)
  obtain ⟨r4, a4, b4, c4⟩ := W 4 (fun i => [103, 114, 111, 117, 112, 115].getD i 0) (by decide) (by decide) (by decide)
  obtain ⟨r5, a5, b5, c5⟩ := W 5 (fun i => [115, 112, 114, 101, 97, 100].getD i 0) (by decide) (by decide) (by decide)
  obtain ⟨r6, a6, b6, c6⟩ := W 6 (fun i => [108, 105, 109, 105, 116, 0].getD i 0) (by decide) (by decide) (by decide)
  obtain ⟨r7, a7, b7, c7⟩ := W 7 (fun i => [99, 104, 97, 110, 103, 101].getD i 0) (by decide) (by decide) (by decide)
  obtain ⟨r8, a8, b8, c8⟩ := W 8 (fun i => [112, 97, 103, 101, 115, 0].getD i 0) (by decide) (by decide) (by decide)
  unfold X10_asks X10_asks_b0 X12_asked X12_asked_b0 X12_askedLater X12_askedLater_b0
  rw [a0, ob_some, a1, ob_some, a2, ob_some, a3, ob_some, a4, ob_some, a5, ob_some, a6, ob_some, a7, ob_some, a8, ob_some]
  rw [show X12_isTold 251 104 97 110 100 115 0 σ1 = _ from b0, ob_some, show X12_isTold 251 100 111 117 98 116 115 σ1 = _ from b1, ob_some, show X12_isTold 251 114 117 110 115 0 0 σ1 = _ from b2, ob_some, show X12_isTold 251 119 101 105 103 104 116 σ1 = _ from b3, ob_some, show X12_isTold 251 103 114 111 117 112 115 σ1 = _ from b4, ob_some, show X12_isTold 251 115 112 114 101 97 100 σ1 = _ from b5, ob_some, show X12_isTold 251 108 105 109 105 116 0 σ1 = _ from b6, ob_some, show X12_isTold 251 99 104 97 110 103 101 σ1 = _ from b7, ob_some, show X12_isTold 251 112 97 103 101 115 0 σ1 = _ from b8, ob_some]
  rcases c0 with e0 | e0
  · rw [if_pos e0, if_pos e0]
    rcases c1 with e1 | e1
    · rw [if_pos e1, if_pos e1]
      rcases c2 with e2 | e2
      · rw [if_pos e2, if_pos e2]
        rcases c3 with e3 | e3
        · rw [if_pos e3, if_pos e3]
          rcases c4 with e4 | e4
          · rw [if_pos e4, if_pos e4]
            rcases c5 with e5 | e5
            · rw [if_pos e5, if_pos e5]
              rcases c6 with e6 | e6
              · rw [if_pos e6, if_pos e6]
                rcases c7 with e7 | e7
                · rw [if_pos e7, if_pos e7]
                  rcases c8 with e8 | e8
                  · rw [if_pos e8, if_pos e8]
                    exact ⟨_, _, rfl, rfl, Or.inl ⟨rfl, rfl⟩⟩
                  · rw [if_neg (by rw [e8]; decide), if_neg (by rw [e8]; decide)]
                    exact ⟨_, _, rfl, rfl, Or.inr ⟨9, by omega, by omega, rfl, rfl⟩⟩
                · rw [if_neg (by rw [e7]; decide), if_neg (by rw [e7]; decide)]
                  exact ⟨_, _, rfl, rfl, Or.inr ⟨7, by omega, by omega, rfl, rfl⟩⟩
              · rw [if_neg (by rw [e6]; decide), if_neg (by rw [e6]; decide)]
                exact ⟨_, _, rfl, rfl, Or.inr ⟨6, by omega, by omega, rfl, rfl⟩⟩
            · rw [if_neg (by rw [e5]; decide), if_neg (by rw [e5]; decide)]
              exact ⟨_, _, rfl, rfl, Or.inr ⟨5, by omega, by omega, rfl, rfl⟩⟩
          · rw [if_neg (by rw [e4]; decide), if_neg (by rw [e4]; decide)]
            exact ⟨_, _, rfl, rfl, Or.inr ⟨4, by omega, by omega, rfl, rfl⟩⟩
        · rw [if_neg (by rw [e3]; decide), if_neg (by rw [e3]; decide)]
          exact ⟨_, _, rfl, rfl, Or.inr ⟨3, by omega, by omega, rfl, rfl⟩⟩
      · rw [if_neg (by rw [e2]; decide), if_neg (by rw [e2]; decide)]
        exact ⟨_, _, rfl, rfl, Or.inr ⟨2, by omega, by omega, rfl, rfl⟩⟩
    · rw [if_neg (by rw [e1]; decide), if_neg (by rw [e1]; decide)]
      exact ⟨_, _, rfl, rfl, Or.inr ⟨1, by omega, by omega, rfl, rfl⟩⟩
  · rw [if_neg (by rw [e0]; decide), if_neg (by rw [e0]; decide)]
    exact ⟨_, _, rfl, rfl, Or.inr ⟨0, by omega, by omega, rfl, rfl⟩⟩
/-- both tapes are empty -/
theorem Ref.tp {σ σ' : Mem} {B : Nat → Nat} {m : Nat} {L I : Nat → Nat → Nat} (h : Ref FOK σ B m L I) (fr : ∀ q, q ≠ 13 → q ≠ 251 → σ' q = σ q) (fj : ∀ j, j ≠ 10 → σ' 251 j = σ 251 j) (h1 : σ' 13 1 = 0) (h2 : σ' 251 10 = 0) : Ref FOK σ' B m L I := by
  obtain ⟨r1, r2, r3, r4, r5, r6, r7, r8, r9, r10, r11, r12, r13⟩ := h
  exact ⟨IRow.cg r1 (fun q hq => fr q (by omega) (by omega)), ⟨0, by omega, h1, h2, fun i hi => by omega⟩, by rw [fr 0 (by omega) (by omega), fj 17 (by omega)]; exact r3, by rw [fr 0 (by omega) (by omega), fj 0 (by omega)]; exact r4, Trc.cg r5 (by rw [fr 237 (by omega) (by omega)]) (fr 238 (by omega) (by omega)) (fr 270 (by omega) (by omega)) (fj 31 (by omega)), r6, AtB.cg r7 (fun q a b => fr q (by omega) (by omega)), by rw [fr 255 (by omega) (by omega)]; exact r8, r9, CA.cg r10 (fun q a b => fr q (by omega) (by omega)), MA.cg r11 (fj 8 (by omega)) (fr 258 (by omega) (by omega)), Img.cg r12 (fun q hq => fr q (by omega) (by omega)), Fsh.cg FOK_loc r13 (by rw [fr 0 (by omega) (by omega)]) (fun q a b => fr q (by omega) (by omega))⟩
theorem op_say (σ : Mem) (h : InvF FOK σ) : ∃ (r : Int32) (σ1 σ2 : Mem), X11_say 0 σ = some (r, σ1) ∧ X12_say 251 σ1 = some (r, σ2) ∧ InvF FOK σ2 := by
  obtain ⟨B, m, L, I, h⟩ := h
  obtain ⟨r6, r7, r8⟩ := ref_rb h
  have n1 : σ 22 0 = nI (B 0) := r7.1
  have hn := r6.1
  obtain ⟨t, t1, t2, t3, t4⟩ := h.2.1
  have hz : Ref FOK (wr (wr σ 13 1 0) 251 10 0) B m L I := Ref.tp h (fun q a b => by rw [wr_off _ _ _ b, wr_off _ _ _ a]) (fun j hj => by rw [wr_in _ _ hj, wr_off _ _ _ (by omega)]) (by rw [wr_off _ _ _ (by omega), wr_at]) (wr_at _ _ _ _)
  unfold X11_say X11_say_b0 X12_say X12_say_b0
  rcases there (B 0) hn with ⟨c0, u1, u2⟩ | ⟨c0, u1, u2⟩
  · obtain ⟨r, r', e1, e2, _⟩ := wlk (σ := σ) (σ1 := wr σ 13 1 0) t1 t2 (by rw [wr_off _ _ _ (by omega)]; exact t3) (fun i hi => by rw [wr_off _ _ _ (by omega)]; exact (t4 i hi).1.symm)
    refine ⟨-1000002, wr σ 13 1 0, wr (wr σ 13 1 0) 251 10 0, ?_, ?_, ⟨B, m, L, I, hz⟩⟩
    · rw [u1 σ n1, if_neg (by decide)]
      rfl
    · rw [e2, ob_some, u2 (wr (wr σ 13 1 0) 251 10 0) (by rw [wr_off _ _ _ (by omega), wr_off _ _ _ (by omega)]; exact r8 0 (by omega)), ob_some, if_pos rfl]
  · rw [u1 σ n1, if_pos rfl]
    obtain ⟨σ1, l1, l2, l3, l4, l5⟩ := look_f (σ := wr σ 13 1 0) r6 (AtB.cg r7 (fun q a b => wr_off _ _ _ (by omega))) (Fsh.cg FOK_loc h.2.2.2.2.2.2.2.2.2.2.2.2 (by rw [wr_off _ _ _ (by omega)]) (fun q a b => wr_off _ _ _ (by omega)))
    obtain ⟨r, r', e1, e2, e3⟩ := wlk (σ := σ) (σ1 := σ1) t1 t2 (by rw [l4 251 (by omega) (by omega), wr_off _ _ _ (by omega)]; exact t3) (fun i hi => by rw [l4 259 (by omega) (by omega), wr_off _ _ _ (by omega)]; exact (t4 i hi).1.symm)
    obtain ⟨s, s', g1, g2, g3⟩ := wlk (σ := σ) (σ1 := wr σ 13 1 0) t1 t2 (by rw [wr_off _ _ _ (by omega)]; exact t3) (fun i hi => by rw [wr_off _ _ _ (by omega)]; exact (t4 i hi).1.symm)
    have hz255 : wr (wr σ 13 1 0) 251 10 0 255 0 = nI (B 0) := by rw [wr_off _ _ _ (by omega), wr_off _ _ _ (by omega)]; exact r8 0 (by omega)
    have hb255 : wr σ1 251 10 0 255 = σ 255 := by rw [wr_off _ _ _ (by omega), l4 255 (by omega) (by omega), wr_off _ _ _ (by omega)]
    rw [show X10_asks (0 + 13) σ = some r from e1, ob_some]
    rcases e3 with ⟨e3, e4⟩ | ⟨w, w1, w2, e3, e4⟩
    · -- no word
      have hs : s = r := by
        rw [e1] at g1
        exact (Option.some.inj g1).symm
      rcases g3 with ⟨g3, g4⟩ | ⟨w, w1, w2, g3, g4⟩
      · refine ⟨-1000000, wr σ 13 1 0, wr (wr σ 13 1 0) 251 10 0, ?_, ?_, ⟨B, m, L, I, hz⟩⟩
        · unfold X11_say_b19
          rw [e3, if_neg (by decide)]
        · rw [g2, ob_some, u2 _ hz255, ob_some, if_neg (by decide), g4, if_neg (by decide)]
      · rw [hs, e3] at g3
        exact absurd g3.symm (fun q => nI_nn (show w < 2 ^ 31 by omega) (by rw [q]; decide))
    · have fin : ∀ τ : Mem, FrM (wr σ1 251 10 0) τ → InvF FOK τ := by
        intro τ hτ
        have k : ∀ q, q ≠ 251 → (q < 256 ∨ 268 ≤ q ∨ q = 258 ∨ q = 259) → τ q = σ1 q := fun q a b => by rw [hτ.1 q a b, wr_off _ _ _ a]
        have kj : ∀ j, j ≠ 25 → j ≠ 27 → τ 251 j = wr (wr σ 13 1 0) 251 10 0 251 j := fun j a b => by
          rw [hτ.2 j a b]
          by_cases c : j = 10
          · subst c
            rw [wr_at, wr_at]
          · rw [wr_in _ _ c, wr_in _ _ c, l4 251 (by omega) (by omega)]
        refine ⟨B, m, L, I, Ref.sc hz (fun q a b c d => ?_) ?_ ?_ (kj 0 (by omega) (by omega)) (kj 8 (by omega) (by omega)) (kj 10 (by omega) (by omega)) (kj 17 (by omega) (by omega)) (kj 31 (by omega) (by omega)) (Or.inr ⟨?_, FOK_loc σ1 τ B (fun q a b => k q (by omega) (by omega)) l2⟩)⟩
        · rw [k q b (by unfold Scr at d; omega), l4 q a c, wr_off _ _ _ b]
        · rw [k 0 (by omega) (by omega), l5 10 (by omega)]
          simp (disch := omega) only [wr_off]
        · rw [k 0 (by omega) (by omega), l5 11 (by omega)]
          simp (disch := omega) only [wr_off]
        · rw [k 0 (by omega) (by omega)]
          exact l3
      have hthere : X12_isThere 251 (wr σ1 251 10 0) = some 1 := u2 _ (by rw [hb255]; exact r8 0 (by omega))
      have hA1 : AtB σ1 22 B := AtB.cg r7 (fun q a b => by rw [l4 q (by omega) (by omega), wr_off _ _ _ (by omega)])
      by_cases c9 : w = 9
      · subst c9
        refine ⟨nI (B 0), σ1, wr σ1 251 10 0, ?_, ?_, fin _ (FrM.rf _)⟩
        · unfold X11_say_b19
          rw [e3, if_pos (by decide), show X11_look 0 (wr σ (0 + 13) 1 0) = some σ1 from l1, ob_some]
          unfold X11_answer X11_answer_b0
          rw [if_neg (show ¬ nI 9 = 0 by decide), if_neg (show ¬ nI 9 = 1 by decide), if_neg (show ¬ nI 9 = 2 by decide), if_neg (show ¬ nI 9 = 3 by decide), if_neg (show ¬ nI 9 = 4 by decide), if_neg (show ¬ nI 9 = 5 by decide), if_neg (show ¬ nI 9 = 6 by decide), if_neg (show ¬ nI 9 = 7 by decide), if_neg (show ¬ nI 9 = 8 by decide), ob_some, show σ1 (0 + 22) 0 = _ from hA1.1]
        · rw [e2, ob_some, hthere, ob_some, if_neg (by decide), e4, if_pos (by decide), if_pos (show nI 9 = 9 from rfl), letv_eq, nc_0, show wr σ1 251 10 0 (251 + 4) 0 = nI (B 0) from (congrFun hb255 0).trans (r8 0 (by omega))]
      · obtain ⟨x, τ, x1, x2, x3⟩ := ans_s (σ := σ1) (τ := wr σ1 251 10 0) l2 hA1 r6 c0 (by rw [hb255]; exact r8) w (by omega)
        refine ⟨x, σ1, τ, ?_, ?_, fin τ x3⟩
        · unfold X11_say_b19
          rw [e3, if_pos (nI_ge0 (by omega)), show X11_look 0 (wr σ (0 + 13) 1 0) = some σ1 from l1, ob_some, x1, ob_some]
        · rw [e2, ob_some, hthere, ob_some, if_neg (by decide), e4, if_pos (nI_ge0 (by omega)), if_neg (show ¬ nI w = 9 from fun q => c9 ((nI_inj (b := 9) (by omega) (by omega)).mp q)), x2, ob2_some]
