/-! PURE: book. -/
theorem book_c  : ∀ (d i m : Nat) (σ : Mem), i + d = 43 → d < m → ∃ f : Nat → Int32, X12_book_l171 m 251 (nI i) σ = some ((wrF σ 255 f) 255 0, (wrF σ 255 f)) ∧ ∀ j, f j = if i ≤ j ∧ j < 43 then σ 256 (j) else σ 255 j := by
  intro d
  induction d with
  | zero =>
    intro i m σ hi hm 
    obtain ⟨m, rfl⟩ : ∃ m', m = m' + 1 := ⟨m - 1, by omega⟩
    obtain rfl : i = 43 := by omega
    refine ⟨σ 255, ?_, fun j => ?_⟩
    · show X12_book_b171 _ 251 (nI 43) σ = _
      unfold X12_book_b171
      rw [if_pos (by decide), wrF_self]
      rfl
    · rw [if_neg (by omega)]
  | succ d ih =>
    intro i m σ hi hm 
    obtain ⟨m, rfl⟩ : ∃ m', m = m' + 1 := ⟨m - 1, by omega⟩
    obtain ⟨f, h1, h2⟩ := ih (i + 1) m (wr σ 255 (i) (σ 256 (i))) (by omega) (by omega) 
    refine ⟨f, ?_, fun j => ?_⟩
    · show X12_book_b171 _ 251 (nI i) σ = _
      unfold X12_book_b171
      rw [if_neg (show ¬ (43 : Int32) ≤ nI i from nI_ge (b := 43) (by omega) (by omega))]
      simp (disch := omega) only [show (43 : Int32) = nI 43 from rfl, nI_mul, nI_add, gdx_n, nc_n, nI_1]
      rw [h1, wrF_wr]
    · rw [h2 j]
      by_cases e : j = i
      · subst e
        rw [if_neg (by omega), if_pos (by omega), wr_at]
      · rw [wr_in _ _ e, wr_off _ _ _ (by omega)]
        by_cases c : i ≤ j ∧ j < 43
        · rw [if_pos c, if_pos (by omega)]
        · rw [if_neg c, if_neg (by omega)]
/-- the law is read from here on, by the model -/
def mlaw (τ : Mem) : Option (Int32 × Mem) := if τ 251 13 = 2 then (if τ 251 14 = 104 then X12_book_b58 251 251 1 τ else X12_book_b57 251 251 τ) else X12_book_b57 251 251 τ
theorem clr_l : ∀ (d i m : Nat) (τ : Mem), i + d = 43 → d < m → ∃ f : Nat → Int32, X12_book_l16 m 251 (nI i) τ = mlaw (wrF τ 256 f) ∧ ∀ j, f j = if i ≤ j ∧ j < 43 then 0 else τ 256 j := by
  intro d
  induction d with
  | zero =>
    intro i m τ hi hm
    obtain ⟨m, rfl⟩ : ∃ m', m = m' + 1 := ⟨m - 1, by omega⟩
    obtain rfl : i = 43 := by omega
    refine ⟨τ 256, ?_, fun j => ?_⟩
    · show X12_book_b16 _ 251 (nI 43) τ = _
      unfold X12_book_b16 mlaw
      rw [if_pos (by decide), wrF_self]
    · rw [if_neg (by omega)]
  | succ d ih =>
    intro i m τ hi hm
    obtain ⟨m, rfl⟩ : ∃ m', m = m' + 1 := ⟨m - 1, by omega⟩
    obtain ⟨f, h1, h2⟩ := ih (i + 1) m (wr τ 256 i 0) (by omega) (by omega)
    refine ⟨f, ?_, fun j => ?_⟩
    · show X12_book_b16 _ 251 (nI i) τ = _
      unfold X12_book_b16
      rw [if_neg (show ¬ (43 : Int32) ≤ nI i from nI_ge (b := 43) (by omega) (by omega)), gdx_n (by omega) (by omega), nc_n (by omega), nI_1]
      rw [show X12_book_l16 m 251 (nI (i + 1)) (wr τ (251 + 5) i 0) = _ from h1, wrF_wr]
    · rw [h2 j]
      by_cases e : j = i
      · subst e
        rw [if_neg (by omega), if_pos (by omega), wr_at]
      · rw [wr_in _ _ e]
        by_cases c : i ≤ j ∧ j < 43
        · rw [if_pos c, if_pos (by omega)]
        · rw [if_neg c, if_neg (by omega)]
def lawB (l c : Nat) : Nat → Nat := fun i => if i = 1 then l else if i = 2 then c else 0
section
variable {t : Nat} {b : Nat → Nat}
theorem law_j {σ : Mem} (hT : TP σ t b) (h1 : σ 15 1 = nI 0) (h0 : σ 16 0 = 0) : ∃ r σ', X7_readsLaw 15 13 σ = some (r, σ') ∧ FrR7 σ σ' ∧ ((r = 1 ∧ ∃ c' l c, c' ≤ t ∧ l ≤ 60 ∧ c ≤ 20 ∧ CS t b σ' c' (lawB l c) ∧ ∀ τ, MT b t τ 0 → τ 256 0 = 0 → ∃ τ', mlaw τ = X12_book_l101 FU 251 0 τ' ∧ MT b t τ' c' ∧ RwB (τ' 256) 0 (lawB l c) ∧ FrB τ τ') ∨ (r = 0 ∧ ∃ n pos, σ' 15 1 = nI pos ∧ σ' 15 2 = nI n ∧ ∀ τ, MT b t τ 0 → τ 256 0 = 0 → ∃ τ', mlaw τ = X12_book_l101 FU 251 0 τ' ∧ MF τ' n pos ∧ FrB τ τ')) := by
  have ht := hT.1
  have mv : ∀ {σ1 : Mem} (j : Nat) (v : Int32), TP σ1 t b → TP (wr σ1 15 j v) t b := fun j v h => h.fr (wr_off _ _ _ (by omega)) (wr_off _ _ _ (by omega))
  have mv2 : ∀ {σ1 : Mem} (j : Nat) (v : Int32), TP σ1 t b → TP (wr σ1 16 j v) t b := fun j v h => h.fr (wr_off _ _ _ (by omega)) (wr_off _ _ _ (by omega))
  -- what the model does, once the letter has been looked at
  have b58 : ∀ (s : Int32) (τ τ1 : Mem), X12_must 251 s τ = some τ1 → X12_book_b58 251 251 s τ = ob2 (X12_number 251 0 60 τ1) (fun r2 σ3 => ob (X12_mustSign 251 44 (wr σ3 256 1 r2)) (fun σ4 => ob2 (X12_number 251 0 20 σ4) (fun r5 σ6 => ob (X12_mustSign 251 59 (wr σ6 256 2 r5)) (fun σ7 => X12_book_l101 FU 251 0 σ7)))) := by
    intro s τ τ1 hm
    unfold X12_book_b58
    rw [hm, ob_some]
    rfl
  have bad0 : ∀ τ, MT b t τ 0 → ¬ sgOk b t 0 104 → ∃ τ', mlaw τ = X12_book_l101 FU 251 0 τ' ∧ MF τ' 1 0 ∧ FrB τ τ' := by
    intro τ hM hno
    obtain ⟨τ1, q1, q2, q3⟩ := bad_s hM.2.2 hM.2.1.1 1 (by omega) (by omega)
    have hm : X12_must 251 0 τ = some τ1 := by
      unfold X12_must X12_must_b0 X12_must_b9
      rw [if_pos rfl, show X12_bad 251 1 τ = _ from q1, ob_some, if_neg (mf_ne q2)]
    refine ⟨wr (wr τ1 256 1 0) 256 2 0, ?_, (q2.w _ _).w _ _, (q3.b.tr (FrB.w _ _ _)).tr (FrB.w _ _ _)⟩
    have hb57 : X12_book_b57 251 251 τ = X12_book_l101 FU 251 0 (wr (wr τ1 256 1 0) 256 2 0) := by
      unfold X12_book_b57
      rw [b58 0 τ τ1 hm, num_f q2, ob2_some, sign_f (q2.w _ _), ob_some, num_f (q2.w _ _), ob2_some, sign_f ((q2.w _ _).w _ _), ob_some]
    unfold mlaw
    by_cases d1 : τ 251 13 = 2
    · rw [if_pos d1]
      have hne : ¬ τ 251 14 = 104 := by
        rcases hM.2.1.2 with ⟨_, _, e⟩ | ⟨e0, _, _, _, _, e⟩ | ⟨_, _, _, e⟩ | ⟨_, _, _, e, _⟩ | ⟨_, _, _, _, _, _, e⟩
        · rw [e] at d1
          exact absurd d1 (by decide)
        · have hb := (hM.1.2.2 0 e0).2
          rw [e]
          exact fun q => hno ⟨e0, (nI_inj (b := 104) (by omega) (by omega)).mp q⟩
        · rcases e with ⟨_, e, _⟩ | ⟨_, e⟩
          · rw [e] at d1
            exact absurd d1 (by decide)
          · rw [e] at d1
            exact absurd d1 (by decide)
        · rw [e] at d1
          exact absurd d1 (by decide)
        · rw [e] at d1
          exact absurd d1 (by decide)
      rw [if_neg hne]
      exact hb57
    · rw [if_neg d1]
      exact hb57
  have good0 : ∀ τ, MT b t τ 0 → sgOk b t 0 104 → ∃ τ1, MT b t τ1 1 ∧ FrN τ τ1 ∧ mlaw τ = ob2 (X12_number 251 0 60 τ1) (fun r2 σ3 => ob (X12_mustSign 251 44 (wr σ3 256 1 r2)) (fun σ4 => ob2 (X12_number 251 0 20 σ4) (fun r5 σ6 => ob (X12_mustSign 251 59 (wr σ6 256 2 r5)) (fun σ7 => X12_book_l101 FU 251 0 σ7)))) := by
    intro τ hM ho
    obtain ⟨o1, o2⟩ := ho
    rcases hM.2.1.2 with ⟨e0, _⟩ | ⟨e0, _, _, e1, e2, e3⟩ | ⟨_, e1, _⟩ | ⟨_, e1, _⟩ | ⟨_, _, e2, _⟩
    · omega
    · obtain ⟨τ1, q1, q2, q3⟩ := next_s hM.1 hM.2.2 (show 0 + 1 ≤ t by omega) e1
      refine ⟨τ1, q2, q3, ?_⟩
      unfold mlaw
      rw [if_pos e2, e3, if_pos (show nI (b 0) = 104 by rw [o2]; rfl), b58 1 τ τ1 q1]
    · unfold isDg at e1
      omega
    · omega
    · omega
  unfold X7_readsLaw X7_readsLaw_b0
  by_cases o0 : sgOk b t 0 104
  · rw [show X7_readsByte 15 13 104 σ = _ from (rb_s hT 0 104 (by omega) (by omega) h1).1 o0, ob2_some, if_neg (show ¬ (1 : Int32) = 0 by decide)]
    have hT1 := mv 1 (nI (0 + 1)) hT
    have p1 : wr σ 15 1 (nI (0 + 1)) 15 1 = nI 1 := wr_at _ _ _ _
    have d1 : wr σ 15 1 (nI (0 + 1)) 16 0 = 0 := by rw [wr_off _ _ _ (by omega)]; exact h0
    have r1 : FrR7 σ (wr σ 15 1 (nI (0 + 1))) := fun q hq => wr_off _ _ _ (by omega)
    generalize wr σ 15 1 (nI (0 + 1)) = σ1 at hT1 p1 d1 r1
    have hlt0 := o0.1
    have f1 := figs_le b t (t - 1) 1 rfl
    by_cases o1 : nmOk b t 1 60
    · rw [show X7_readNumber 15 13 60 σ1 = _ from (rn_s hT1 1 60 (by omega) (by omega) p1).1 o1, ob2_some, letv_eq, wr_at, if_neg (nI_nn (Nat.lt_of_le_of_lt o1.2 (by omega)))]
      have hT2 := mv2 1 (nI (num b t 1)) (mv 1 (nI (1 + figs b t 1)) hT1)
      have p2 : wr (wr σ1 15 1 (nI (1 + figs b t 1))) 16 1 (nI (num b t 1)) 15 1 = nI (1 + figs b t 1) := by rw [wr_off _ _ _ (by omega), wr_at]
      have d2 : wr (wr σ1 15 1 (nI (1 + figs b t 1))) 16 1 (nI (num b t 1)) 16 0 = 0 := by rw [wr_in _ _ (by omega), wr_off _ _ _ (by omega)]; exact d1
      have l2 : wr (wr σ1 15 1 (nI (1 + figs b t 1))) 16 1 (nI (num b t 1)) 16 1 = nI (num b t 1) := wr_at _ _ _ _
      have r2 : FrR7 σ (wr (wr σ1 15 1 (nI (1 + figs b t 1))) 16 1 (nI (num b t 1))) := fun q hq => by rw [wr_off _ _ _ (by omega), wr_off _ _ _ (by omega), r1 q hq]
      generalize hp2 : 1 + figs b t 1 = c2 at hT2 p2 d2 l2 r2
      have hc2 : c2 ≤ t := by
        obtain ⟨x, _⟩ := figs_pos (show 1 ≤ figs b t 1 by have := o1.1; omega)
        omega
      rw [show wr σ1 15 1 (nI c2) = wr σ1 15 1 (nI c2) from rfl]
      generalize hσ2 : wr (wr σ1 15 1 (nI c2)) 16 1 (nI (num b t 1)) = σ2 at hT2 p2 d2 l2 r2
      by_cases o2 : sgOk b t c2 44
      · rw [show X7_readsByte 15 13 44 σ2 = _ from (rb_s hT2 c2 44 hc2 (by omega) p2).1 o2, ob2_some, if_neg (show ¬ (1 : Int32) = 0 by decide)]
        have hT3 := mv 1 (nI (c2 + 1)) hT2
        have p3 : wr σ2 15 1 (nI (c2 + 1)) 15 1 = nI (c2 + 1) := wr_at _ _ _ _
        have d3 : wr σ2 15 1 (nI (c2 + 1)) 16 0 = 0 := by rw [wr_off _ _ _ (by omega)]; exact d2
        have l3 : wr σ2 15 1 (nI (c2 + 1)) 16 1 = nI (num b t 1) := by rw [wr_off _ _ _ (by omega)]; exact l2
        have r3 : FrR7 σ (wr σ2 15 1 (nI (c2 + 1))) := fun q hq => by rw [wr_off _ _ _ (by omega), r2 q hq]
        generalize wr σ2 15 1 (nI (c2 + 1)) = σ3 at hT3 p3 d3 l3 r3
        have hlt2 := o2.1
        have f3 := figs_le b t (t - (c2 + 1)) (c2 + 1) rfl
        by_cases o3 : nmOk b t (c2 + 1) 20
        · rw [show X7_readNumber 15 13 20 σ3 = _ from (rn_s hT3 (c2 + 1) 20 (by omega) (by omega) p3).1 o3, ob2_some, letv_eq, wr_at, if_neg (nI_nn (Nat.lt_of_le_of_lt o3.2 (by omega)))]
          have hT4 := mv2 2 (nI (num b t (c2 + 1))) (mv 1 (nI (c2 + 1 + figs b t (c2 + 1))) hT3)
          have p4 : wr (wr σ3 15 1 (nI (c2 + 1 + figs b t (c2 + 1)))) 16 2 (nI (num b t (c2 + 1))) 15 1 = nI (c2 + 1 + figs b t (c2 + 1)) := by rw [wr_off _ _ _ (by omega), wr_at]
          have d4 : wr (wr σ3 15 1 (nI (c2 + 1 + figs b t (c2 + 1)))) 16 2 (nI (num b t (c2 + 1))) 16 0 = 0 := by rw [wr_in _ _ (by omega), wr_off _ _ _ (by omega)]; exact d3
          have l4 : wr (wr σ3 15 1 (nI (c2 + 1 + figs b t (c2 + 1)))) 16 2 (nI (num b t (c2 + 1))) 16 1 = nI (num b t 1) := by rw [wr_in _ _ (by omega), wr_off _ _ _ (by omega)]; exact l3
          have k4 : wr (wr σ3 15 1 (nI (c2 + 1 + figs b t (c2 + 1)))) 16 2 (nI (num b t (c2 + 1))) 16 2 = nI (num b t (c2 + 1)) := wr_at _ _ _ _
          have r4 : FrR7 σ (wr (wr σ3 15 1 (nI (c2 + 1 + figs b t (c2 + 1)))) 16 2 (nI (num b t (c2 + 1)))) := fun q hq => by rw [wr_off _ _ _ (by omega), wr_off _ _ _ (by omega), r3 q hq]
          generalize hp4 : c2 + 1 + figs b t (c2 + 1) = c4 at hT4 p4 d4 l4 k4 r4
          have hc4 : c4 ≤ t := by
            obtain ⟨x, _⟩ := figs_pos (show 1 ≤ figs b t (c2 + 1) by have := o3.1; omega)
            omega
          generalize hσ4 : wr (wr σ3 15 1 (nI c4)) 16 2 (nI (num b t (c2 + 1))) = σ4 at hT4 p4 d4 l4 k4 r4
          by_cases o4 : sgOk b t c4 59
          · have hlt4 := o4.1
            rw [show X7_readsByte 15 13 59 σ4 = _ from (rb_s hT4 c4 59 hc4 (by omega) p4).1 o4, ob2_some, if_neg (show ¬ (1 : Int32) = 0 by decide)]
            refine ⟨1, wr σ4 15 1 (nI (c4 + 1)), rfl, fun q hq => by rw [wr_off _ _ _ (by omega), r4 q hq], Or.inl ⟨rfl, c4 + 1, num b t 1, num b t (c2 + 1), by omega, o1.2, o3.2, ⟨mv _ _ hT4, wr_at _ _ _ _, by rw [wr_off _ _ _ (by omega)]; exact d4, by rw [wr_off _ _ _ (by omega)]; exact l4, by rw [wr_off _ _ _ (by omega)]; exact k4, fun p hp => absurd hp (Nat.not_lt_zero p)⟩, fun τ hM hz => ?_⟩⟩
            obtain ⟨τ1, m1, m2, m3⟩ := good0 τ hM o0
            obtain ⟨τ2, a1, a2, a3⟩ := numm_ok m1 (hi := 60) (by omega) o1
            rw [hp2] at a2
            obtain ⟨τ3, b1, b2, b3⟩ := sign_ok (a2.w 1 (nI (num b t 1))) (x := 44) (Or.inl rfl) o2
            obtain ⟨τ4, e1, e2, e3⟩ := numm_ok b2 (hi := 20) (by omega) o3
            rw [hp4] at e2
            obtain ⟨τ5, g1, g2, g3⟩ := sign_ok (e2.w 2 (nI (num b t (c2 + 1)))) (x := 59) (Or.inr rfl) o4
            refine ⟨τ5, ?_, g2, fun i hi => ?_, ((((m2.b.tr a3.b).tr (FrB.w _ _ _)).tr b3.b).tr e3.b).tr ((FrB.w _ _ _).tr g3.b)⟩
            · rw [m3, show X12_number 251 0 60 _ = _ from a1, ob2_some, show X12_mustSign 251 44 _ = _ from b1, ob_some, show X12_number 251 0 20 _ = _ from e1, ob2_some, show X12_mustSign 251 59 _ = _ from g1, ob_some]
            · have hi' : i < 3 := hi
              rw [g3.1 256 (by omega), Nat.zero_add]
              rcases (show i = 0 ∨ i = 1 ∨ i = 2 by omega) with rfl | rfl | rfl
              · rw [wr_in _ _ (by omega), e3.1 256 (by omega), b3.1 256 (by omega), wr_in _ _ (by omega), a3.1 256 (by omega), m2.1 256 (by omega), hz]
                rfl
              · rw [wr_in _ _ (by omega), e3.1 256 (by omega), b3.1 256 (by omega), wr_at]
                rfl
              · rw [wr_at]
                rfl
          · rw [show X7_readsByte 15 13 59 σ4 = _ from (rb_s hT4 c4 59 hc4 (by omega) p4).2 o4, ob2_some, if_pos rfl]
            refine ⟨0, wr σ4 15 2 (nI 1), rfl, fun q hq => by rw [wr_off _ _ _ (by omega), r4 q hq], Or.inr ⟨rfl, 1, c4, by rw [wr_in _ _ (by omega)]; exact p4, wr_at _ _ _ _, fun τ hM hz => ?_⟩⟩
            obtain ⟨τ1, m1, m2, m3⟩ := good0 τ hM o0
            obtain ⟨τ2, a1, a2, a3⟩ := numm_ok m1 (hi := 60) (by omega) o1
            rw [hp2] at a2
            obtain ⟨τ3, b1, b2, b3⟩ := sign_ok (a2.w 1 (nI (num b t 1))) (x := 44) (Or.inl rfl) o2
            obtain ⟨τ4, e1, e2, e3⟩ := numm_ok b2 (hi := 20) (by omega) o3
            rw [hp4] at e2
            obtain ⟨τ5, g1, g2, g3⟩ := sign_bad (e2.w 2 (nI (num b t (c2 + 1)))) (x := 59) (Or.inr rfl) o4
            refine ⟨τ5, ?_, g2, ((((m2.b.tr a3.b).tr (FrB.w _ _ _)).tr b3.b).tr e3.b).tr ((FrB.w _ _ _).tr g3.b)⟩
            rw [m3, show X12_number 251 0 60 _ = _ from a1, ob2_some, show X12_mustSign 251 44 _ = _ from b1, ob_some, show X12_number 251 0 20 _ = _ from e1, ob2_some, show X12_mustSign 251 59 _ = _ from g1, ob_some]
        · rw [show X7_readNumber 15 13 20 σ3 = _ from (rn_s hT3 (c2 + 1) 20 (by omega) (by omega) p3).2 o3, ob2_some, letv_eq, wr_at, if_pos (by decide)]
          refine ⟨0, wr (wr σ3 15 2 (nI (nmF b t (c2 + 1)))) 16 2 (-1000000), rfl, fun q hq => by rw [wr_off _ _ _ (by omega), wr_off _ _ _ (by omega), r3 q hq], Or.inr ⟨rfl, nmF b t (c2 + 1), c2 + 1, by rw [wr_off _ _ _ (by omega), wr_in _ _ (by omega)]; exact p3, by rw [wr_off _ _ _ (by omega), wr_at], fun τ hM hz => ?_⟩⟩
          obtain ⟨τ1, m1, m2, m3⟩ := good0 τ hM o0
          obtain ⟨τ2, a1, a2, a3⟩ := numm_ok m1 (hi := 60) (by omega) o1
          rw [hp2] at a2
          obtain ⟨τ3, b1, b2, b3⟩ := sign_ok (a2.w 1 (nI (num b t 1))) (x := 44) (Or.inl rfl) o2
          obtain ⟨τ4, e1, e2, e3⟩ := numm_bad b2 (hi := 20) (by omega) o3
          refine ⟨wr τ4 256 2 0, ?_, e2.w _ _, ((((m2.b.tr a3.b).tr (FrB.w _ _ _)).tr b3.b).tr e3.b).tr (FrB.w _ _ _)⟩
          rw [m3, show X12_number 251 0 60 _ = _ from a1, ob2_some, show X12_mustSign 251 44 _ = _ from b1, ob_some, show X12_number 251 0 20 _ = _ from e1, ob2_some, sign_f (e2.w _ _), ob_some]
      · rw [show X7_readsByte 15 13 44 σ2 = _ from (rb_s hT2 c2 44 hc2 (by omega) p2).2 o2, ob2_some, if_pos rfl]
        refine ⟨0, wr σ2 15 2 (nI 1), rfl, fun q hq => by rw [wr_off _ _ _ (by omega), r2 q hq], Or.inr ⟨rfl, 1, c2, by rw [wr_in _ _ (by omega)]; exact p2, wr_at _ _ _ _, fun τ hM hz => ?_⟩⟩
        obtain ⟨τ1, m1, m2, m3⟩ := good0 τ hM o0
        obtain ⟨τ2, a1, a2, a3⟩ := numm_ok m1 (hi := 60) (by omega) o1
        rw [hp2] at a2
        obtain ⟨τ3, b1, b2, b3⟩ := sign_bad (a2.w 1 (nI (num b t 1))) (x := 44) (Or.inl rfl) o2
        refine ⟨wr τ3 256 2 0, ?_, b2.w _ _, (((m2.b.tr a3.b).tr (FrB.w _ _ _)).tr b3.b).tr (FrB.w _ _ _)⟩
        rw [m3, show X12_number 251 0 60 _ = _ from a1, ob2_some, show X12_mustSign 251 44 _ = _ from b1, ob_some, num_f b2, ob2_some, sign_f (b2.w _ _), ob_some]
    · rw [show X7_readNumber 15 13 60 σ1 = _ from (rn_s hT1 1 60 (by omega) (by omega) p1).2 o1, ob2_some, letv_eq, wr_at, if_pos (by decide)]
      refine ⟨0, wr (wr σ1 15 2 (nI (nmF b t 1))) 16 1 (-1000000), rfl, fun q hq => by rw [wr_off _ _ _ (by omega), wr_off _ _ _ (by omega), r1 q hq], Or.inr ⟨rfl, nmF b t 1, 1, by rw [wr_off _ _ _ (by omega), wr_in _ _ (by omega)]; exact p1, by rw [wr_off _ _ _ (by omega), wr_at], fun τ hM hz => ?_⟩⟩
      obtain ⟨τ1, m1, m2, m3⟩ := good0 τ hM o0
      obtain ⟨τ2, a1, a2, a3⟩ := numm_bad m1 (hi := 60) (by omega) o1
      refine ⟨wr (wr τ2 256 1 0) 256 2 0, ?_, (a2.w _ _).w _ _, ((m2.b.tr a3.b).tr (FrB.w _ _ _)).tr (FrB.w _ _ _)⟩
      rw [m3, show X12_number 251 0 60 _ = _ from a1, ob2_some, sign_f (a2.w _ _), ob_some, num_f (a2.w _ _), ob2_some, sign_f ((a2.w _ _).w _ _), ob_some]
  · rw [show X7_readsByte 15 13 104 σ = _ from (rb_s hT 0 104 (by omega) (by omega) h1).2 o0, ob2_some, if_pos rfl]
    exact ⟨0, wr σ 15 2 (nI 1), rfl, fun q hq => wr_off _ _ _ (by omega), Or.inr ⟨rfl, 1, 0, by rw [wr_in _ _ (by omega)]; exact h1, wr_at _ _ _ _, fun τ hM hz => bad0 τ hM o0⟩⟩
end
