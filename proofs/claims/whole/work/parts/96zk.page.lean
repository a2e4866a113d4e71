/-! PURE: a page read, on both sides. -/
def FrB (τ τ' : Mem) : Prop := (∀ q, q ≠ 251 → q ≠ 256 → τ' q = τ q) ∧ ∀ j, (j < 11 ∨ 16 < j) → τ' 251 j = τ 251 j
theorem FrB.tr {a b c : Mem} (h : FrB a b) (h' : FrB b c) : FrB a c := ⟨fun q x y => by rw [h'.1 q x y, h.1 q x y], fun j hj => by rw [h'.2 j hj, h.2 j hj]⟩
theorem FrN.b {τ τ' : Mem} (h : FrN τ τ') : FrB τ τ' := ⟨fun q x _ => h.1 q x, h.2⟩
theorem FrB.w (τ : Mem) (j : Nat) (v : Int32) : FrB τ (wr τ 256 j v) := ⟨fun q _ y => wr_off _ _ _ y, fun i _ => by rw [wr_off _ _ _ (by omega)]⟩
theorem TPm.w {τ : Mem} {t : Nat} {b : Nat → Nat} (h : TPm τ t b) (j : Nat) (v : Int32) : TPm (wr τ 256 j v) t b := ⟨h.1, by rw [wr_off _ _ _ (by omega)]; exact h.2.1, fun i hi => by rw [wr_off _ _ _ (by omega)]; exact h.2.2 i hi⟩
theorem MT.w {b : Nat → Nat} {t : Nat} {τ : Mem} {c : Nat} (h : MT b t τ c) (j : Nat) (v : Int32) : MT b t (wr τ 256 j v) c := by
  obtain ⟨h1, h2, h3⟩ := h
  refine ⟨h1.w j v, ?_, by rw [wr_off _ _ _ (by omega)]; exact h3⟩
  unfold TK
  rw [wr_off _ _ _ (by omega)]
  exact h2
theorem MF.w {τ : Mem} {n c : Nat} (h : MF τ n c) (j : Nat) (v : Int32) : MF (wr τ 256 j v) n c := by
  unfold MF
  rw [wr_off _ _ _ (by omega)]
  exact h
section
variable {t : Nat} {b : Nat → Nat}
def CS (t : Nat) (b : Nat → Nat) (σ : Mem) (c : Nat) (Bd : Nat → Nat) : Prop := TP σ t b ∧ σ 15 1 = nI c ∧ AtB σ 16 Bd
theorem CS.mv {σ : Mem} {c : Nat} {Bd : Nat → Nat} (h : CS t b σ c Bd) (c' : Nat) : CS t b (wr σ 15 1 (nI c')) c' Bd := ⟨h.1.fr (wr_off _ _ _ (by omega)) (wr_off _ _ _ (by omega)), wr_at _ _ _ _, AtB.cg h.2.2 (fun q x y => wr_off _ _ _ (by omega))⟩
def FrR7 (σ σ' : Mem) : Prop := ∀ q, (q < 15 ∨ 22 ≤ q) → σ' q = σ q
/-- both sides after a step of reading: the class has ended with r -/
def Out (t : Nat) (b : Nat → Nat) (Bd : Nat → Nat) (c : Nat) (f : Mem → Option Mem) (r : Int32) (σ σ' : Mem) (Q : Nat → (Nat → Nat) → Prop) : Prop := FrR7 σ σ' ∧ ((r = 1 ∧ ∃ c' B', c' ≤ t ∧ CS t b σ' c' B' ∧ okB B' ∧ Q c' B' ∧ ∀ τ, MT b t τ c → RwB (τ 256) 0 Bd → ∃ τ', f τ = some τ' ∧ MT b t τ' c' ∧ RwB (τ' 256) 0 B' ∧ FrB τ τ') ∨ (r = 0 ∧ ∃ n pos, σ' 15 1 = nI pos ∧ σ' 15 2 = nI n ∧ pos ≤ t ∧ ∀ τ, MT b t τ c → RwB (τ 256) 0 Bd → ∃ τ', f τ = some τ' ∧ MF τ' n pos ∧ FrB τ τ'))
theorem rw_ins {f : Nat → Int32} {Bd x : Nat → Nat} (hn : Bd 0 ≤ 9) (h : RwB f 0 Bd) : RwB (upd (upd (upd (upd (upd f (3 + 4 * Bd 0) (nI (x 0))) (3 + 4 * Bd 0 + 1) (nI (x 1))) (3 + 4 * Bd 0 + 2) (nI (x 2))) (3 + 4 * Bd 0 + 3) (nI (x 3))) 0 (nI (Bd 0 + 1))) 0 (insB Bd (Bd 0) x) := by
  intro i hi
  have hi' : i < 3 + 4 * (Bd 0 + 1) := hi
  rw [Nat.zero_add]
  unfold insB
  by_cases c0 : i = 0
  · rw [if_pos c0, c0, upd_at]
  · rw [if_neg c0, upd_ne _ _ c0]
    by_cases c1 : i < 3 + 4 * Bd 0
    · rw [if_pos c1, upd_ne _ _ (by omega), upd_ne _ _ (by omega), upd_ne _ _ (by omega), upd_ne _ _ (by omega)]
      have := h i c1
      rw [Nat.zero_add] at this
      exact this
    · rw [if_neg c1, if_pos (by omega)]
      rcases (show i = 3 + 4 * Bd 0 ∨ i = 3 + 4 * Bd 0 + 1 ∨ i = 3 + 4 * Bd 0 + 2 ∨ i = 3 + 4 * Bd 0 + 3 by omega) with e | e | e | e
      · rw [e, upd_ne _ _ (by omega), upd_ne _ _ (by omega), upd_ne _ _ (by omega), upd_at, show 3 + 4 * Bd 0 - (3 + 4 * Bd 0) = 0 by omega]
      · rw [e, upd_ne _ _ (by omega), upd_ne _ _ (by omega), upd_at, show 3 + 4 * Bd 0 + 1 - (3 + 4 * Bd 0) = 1 by omega]
      · rw [e, upd_ne _ _ (by omega), upd_at, show 3 + 4 * Bd 0 + 2 - (3 + 4 * Bd 0) = 2 by omega]
      · rw [e, upd_at, show 3 + 4 * Bd 0 + 3 - (3 + 4 * Bd 0) = 3 by omega]
theorem page_j {σ : Mem} {c : Nat} {Bd : Nat → Nat} (hc : c ≤ t) (h : CS t b σ c Bd) (ho : okB Bd) : ∃ r σ', X7_readsPage 15 13 σ = some (r, σ') ∧ Out t b Bd c (X12_readPage 251) r σ σ' (fun _ B' => B' 0 = Bd 0 + 1 ∧ B' 1 = Bd 1 ∧ B' 2 = Bd 2) := by
  obtain ⟨hT, h1, hA⟩ := id h
  have ht := hT.1
  have hn := ho.1
  unfold X7_readsPage X7_readsPage_b0
  rw [h1, at_s hT c (by omega), ob_some, letv_eq, ckind b t c (fun d => (hT.2.2 c d).2)]
  have hk5 : kc b t c ≤ 5 := by
    unfold kc
    split
    · exact kl_le _
    · omega
  by_cases k0 : kc b t c = 0
  · -- no letter of a kind
    rw [if_pos k0, if_pos rfl]
    refine ⟨0, wr σ 15 2 (nI 1), rfl, fun q hq => wr_off _ _ _ (by omega), Or.inr ⟨rfl, 1, c, by rw [wr_in _ _ (by omega)]; exact h1, wr_at _ _ _ _, hc, fun τ hM hR => ?_⟩⟩
    obtain ⟨τ', q1, q2, q3⟩ := bad_s hM.2.2 hM.2.1.1 1 (by omega) (by omega)
    refine ⟨τ', ?_, q2, q3.b⟩
    rw [msee hM, k0]
    unfold X12_readPage_b19 X12_readPage_b48
    rw [if_pos (show nI 0 = 0 from rfl), show X12_bad 251 1 τ = _ from q1, ob_some, q2.1, if_neg (by decide)]
  · have hkn : ¬ nI (kc b t c) = -1000000 := fun q => nI_nn (show kc b t c < 2 ^ 31 by omega) (by rw [q]; decide)
    have hct : c < t := by
      unfold kc at k0
      by_cases d : c < t
      · exact d
      · rw [if_neg d] at k0
        exact absurd rfl k0
    have hlet : 97 ≤ b c ∧ b c ≤ 122 := by
      unfold kc at k0
      rw [if_pos hct] at k0
      exact kl_let k0
    rw [if_neg k0, if_neg hkn, show σ (15 + 1) 0 = nI (Bd 0) from hA.1]
    by_cases k10 : Bd 0 = 10
    · -- no room
      rw [if_neg (show ¬ nI (Bd 0) < 10 by rw [k10]; decide)]
      refine ⟨0, wr σ 15 2 (nI 3), rfl, fun q hq => wr_off _ _ _ (by omega), Or.inr ⟨rfl, 3, c, by rw [wr_in _ _ (by omega)]; exact h1, wr_at _ _ _ _, hc, fun τ hM hR => ?_⟩⟩
      obtain ⟨τ', q1, q2, q3⟩ := bad_s hM.2.2 hM.2.1.1 3 (by omega) (by omega)
      refine ⟨τ', ?_, q2, q3.b⟩
      rw [msee hM]
      unfold X12_readPage_b19 X12_readPage_b48
      rw [if_neg (nI_ne0 (by omega) (by omega)), show τ (251 + 5) (nc 0) = nI (Bd 0) from hR 0 (by omega), if_pos (show nI (Bd 0) = 10 by rw [k10]; rfl), show X12_bad 251 3 τ = _ from q1, ob_some, q2.1, if_neg (by decide)]
    · rw [if_pos (show nI (Bd 0) < 10 from nI_lt (b := 10) (by omega) (by omega)), nI_1]
      have hCS1 := h.mv (c + 1)
      have hfr1 : FrR7 σ (wr σ 15 1 (nI (c + 1))) := fun q hq => wr_off _ _ _ (by omega)
      -- the model's start
      have mstart : ∀ τ, MT b t τ c → RwB (τ 256) 0 Bd → ∃ τ1, FrN τ τ1 ∧ MT b t (wr τ1 256 (3 + 4 * Bd 0) (nI (kc b t c))) (c + 1) ∧ τ1 256 = τ 256 ∧ X12_readPage 251 τ = ob2 (X12_number 251 0 30 (wr τ1 256 (3 + 4 * Bd 0) (nI (kc b t c)))) (fun r5 σ6 => ob (X12_mustSign 251 44 (wr σ6 256 (3 + 4 * Bd 0 + 1) r5)) (fun σ8 => ob2 (X12_number 251 0 30 σ8) (fun r9 σ10 => ob (X12_mustSign 251 44 (wr σ10 256 (3 + 4 * Bd 0 + 2) r9)) (fun σ12 => ob2 (X12_number 251 0 30 σ12) (fun r13 σ14 => ob (X12_mustSign 251 59 (wr σ14 256 (3 + 4 * Bd 0 + 3) r13)) (fun σ16 => some (wr σ16 256 0 (σ16 256 0 + 1)))))))) := by
        intro τ hM hR
        have h11 : τ 251 11 = nI (c + 1) := by
          rcases hM.2.1.2 with ⟨e0, _⟩ | ⟨_, _, _, e, _⟩ | ⟨_, e1, _⟩ | ⟨_, e1, _⟩ | ⟨_, _, e2, _⟩
          · omega
          · exact e
          · unfold isDg at e1
            omega
          · omega
          · exact absurd hlet e2
        obtain ⟨τ1, q1, q2, q3, q4⟩ := tok_s hM.1 (c + 1) (by omega) h11
        refine ⟨τ1, q4, MT.w ⟨hM.1.fr q4, q2, by rw [q3]; exact hM.2.2⟩ _ _, q4.1 256 (by omega), ?_⟩
        rw [msee hM]
        unfold X12_readPage_b19 X12_readPage_b48
        rw [if_neg (nI_ne0 (by omega) (by omega)), show τ (251 + 5) (nc 0) = nI (Bd 0) from hR 0 (by omega), if_neg (show ¬ nI (Bd 0) = 10 from fun q => k10 ((nI_inj (b := 10) (by omega) (by omega)).mp q)), hM.2.2, if_pos (by decide), letv_eq, q1, ob_some, show (3 : Int32) = nI 3 from rfl, show (4 : Int32) = nI 4 from rfl, nI_mul, nI_add, gdx_n (by omega) (by omega), nc_n (by omega)]
        simp (disch := omega) only [nI_1, show (2 : Int32) = nI 2 from rfl, nI_add, gdx_n, nc_n, nc_0]
      -- the first number
      have f1 := figs_le b t (t - (c + 1)) (c + 1) rfl
      by_cases o1 : nmOk b t (c + 1) 30
      · have e1 := (rn_s hCS1.1 (c + 1) 30 (by omega) (by omega) hCS1.2.1).1 o1
        have hCS2 := hCS1.mv (c + 1 + figs b t (c + 1))
        have hfr2 : FrR7 σ (wr (wr σ 15 1 (nI (c + 1))) 15 1 (nI (c + 1 + figs b t (c + 1)))) := fun q hq => by rw [wr_off _ _ _ (by omega), hfr1 q hq]
        generalize hp2 : c + 1 + figs b t (c + 1) = c2 at e1 hCS2 hfr2
        rw [show X7_readNumber 15 13 30 (wr σ 15 1 (nI (c + 1))) = _ from e1, ob2_some, if_neg (nI_nn (Nat.lt_of_le_of_lt o1.2 (by omega)))]
        generalize wr (wr σ 15 1 (nI (c + 1))) 15 1 (nI c2) = σ2 at hCS2 hfr2
        have hc2 : c2 ≤ t := by
          obtain ⟨p1, _⟩ := figs_pos (show 1 ≤ figs b t (c + 1) by have := o1.1; omega)
          omega
        by_cases o2 : sgOk b t c2 44
        · have e2 := (rb_s hCS2.1 c2 44 hc2 (by omega) hCS2.2.1).1 o2
          have hCS3 := hCS2.mv (c2 + 1)
          have hfr3 : FrR7 σ (wr σ2 15 1 (nI (c2 + 1))) := fun q hq => by rw [wr_off _ _ _ (by omega), hfr2 q hq]
          rw [show X7_readsByte 15 13 44 σ2 = _ from e2, ob2_some, if_neg (show ¬ (1 : Int32) = 0 by decide)]
          generalize wr σ2 15 1 (nI (c2 + 1)) = σ3 at hCS3 hfr3
          have f3 := figs_le b t (t - (c2 + 1)) (c2 + 1) rfl
          have hlt2 := o2.1
          by_cases o3 : nmOk b t (c2 + 1) 30
          · have e3 := (rn_s hCS3.1 (c2 + 1) 30 (by omega) (by omega) hCS3.2.1).1 o3
            have hCS4 := hCS3.mv (c2 + 1 + figs b t (c2 + 1))
            have hfr4 : FrR7 σ (wr σ3 15 1 (nI (c2 + 1 + figs b t (c2 + 1)))) := fun q hq => by rw [wr_off _ _ _ (by omega), hfr3 q hq]
            generalize hp4 : c2 + 1 + figs b t (c2 + 1) = c4 at e3 hCS4 hfr4
            rw [show X7_readNumber 15 13 30 σ3 = _ from e3, ob2_some, if_neg (nI_nn (Nat.lt_of_le_of_lt o3.2 (by omega)))]
            generalize wr σ3 15 1 (nI c4) = σ4 at hCS4 hfr4
            have hc4 : c4 ≤ t := by
              obtain ⟨p1, _⟩ := figs_pos (show 1 ≤ figs b t (c2 + 1) by have := o3.1; omega)
              omega
            by_cases o4 : sgOk b t c4 44
            · have e4 := (rb_s hCS4.1 c4 44 hc4 (by omega) hCS4.2.1).1 o4
              have hCS5 := hCS4.mv (c4 + 1)
              have hfr5 : FrR7 σ (wr σ4 15 1 (nI (c4 + 1))) := fun q hq => by rw [wr_off _ _ _ (by omega), hfr4 q hq]
              rw [show X7_readsByte 15 13 44 σ4 = _ from e4, ob2_some, if_neg (show ¬ (1 : Int32) = 0 by decide)]
              generalize wr σ4 15 1 (nI (c4 + 1)) = σ5 at hCS5 hfr5
              have f5 := figs_le b t (t - (c4 + 1)) (c4 + 1) rfl
              have hlt4 := o4.1
              by_cases o5 : nmOk b t (c4 + 1) 30
              · have e5 := (rn_s hCS5.1 (c4 + 1) 30 (by omega) (by omega) hCS5.2.1).1 o5
                have hCS6 := hCS5.mv (c4 + 1 + figs b t (c4 + 1))
                have hfr6 : FrR7 σ (wr σ5 15 1 (nI (c4 + 1 + figs b t (c4 + 1)))) := fun q hq => by rw [wr_off _ _ _ (by omega), hfr5 q hq]
                generalize hp6 : c4 + 1 + figs b t (c4 + 1) = c6 at e5 hCS6 hfr6
                rw [show X7_readNumber 15 13 30 σ5 = _ from e5, ob2_some, if_neg (nI_nn (Nat.lt_of_le_of_lt o5.2 (by omega)))]
                generalize wr σ5 15 1 (nI c6) = σ6 at hCS6 hfr6
                have hc6 : c6 ≤ t := by
                  obtain ⟨p1, _⟩ := figs_pos (show 1 ≤ figs b t (c4 + 1) by have := o5.1; omega)
                  omega
                by_cases o6 : sgOk b t c6 59
                · -- the page stands
                  have e6 := (rb_s hCS6.1 c6 59 hc6 (by omega) hCS6.2.1).1 o6
                  have hCS7 := hCS6.mv (c6 + 1)
                  have hfr7 : FrR7 σ (wr σ6 15 1 (nI (c6 + 1))) := fun q hq => by rw [wr_off _ _ _ (by omega), hfr6 q hq]
                  rw [show X7_readsByte 15 13 59 σ6 = _ from e6, ob2_some, if_neg (show ¬ (1 : Int32) = 0 by decide)]
                  generalize wr σ6 15 1 (nI (c6 + 1)) = σ7 at hCS7 hfr7
                  have hlt6 := o6.1
                  let x : Nat → Nat := fun i => if i = 0 then kc b t c else if i = 1 then num b t (c + 1) else if i = 2 then num b t (c2 + 1) else num b t (c4 + 1)
                  obtain ⟨σ8, i1, i2, i3⟩ := ins_s 16 (Bd 0) x σ7 Bd hCS7.2.2 (Nat.le_refl _) (by omega)
                  have hok : okB (insB Bd (Bd 0) x) := okB_ins ho (Nat.le_refl _) (by omega) (show 1 ≤ kc b t c by omega) hk5 (fun i y1 y2 => by
                    show (if i = 0 then kc b t c else if i = 1 then num b t (c + 1) else if i = 2 then num b t (c2 + 1) else num b t (c4 + 1)) ≤ 30
                    rw [if_neg (by omega)]
                    split
                    · exact o1.2
                    · split
                      · exact o3.2
                      · exact o5.2)
                  refine ⟨1, σ8, ?_, fun q hq => by rw [i3 q (by omega), hfr7 q hq], Or.inl ⟨rfl, c6 + 1, insB Bd (Bd 0) x, by omega, ⟨hCS7.1.fr (i3 13 (by omega)) (i3 14 (by omega)), by rw [i3 15 (by omega)]; exact hCS7.2.1, i2⟩, hok, ⟨rfl, ?_, ?_⟩, fun τ hM hR => ?_⟩⟩
                  · rw [show σ7 (15 + 1) 0 = nI (Bd 0) from hCS7.2.2.1, show X2_insert (15 + 1) (nI (Bd 0)) (nI (kc b t c)) (nI (num b t (c + 1))) (nI (num b t (c2 + 1))) (nI (num b t (c4 + 1))) σ7 = some σ8 from i1, ob_some]
                  · unfold insB
                    rw [if_neg (by omega), if_pos (by omega)]
                  · unfold insB
                    rw [if_neg (by omega), if_pos (by omega)]
                  · obtain ⟨τ1, m1, m2, m3, m4⟩ := mstart τ hM hR
                    obtain ⟨τ2, a1, a2, a3⟩ := numm_ok m2 (hi := 30) (by omega) o1
                    rw [hp2] at a2
                    obtain ⟨τ3, b1, b2, b3⟩ := sign_ok (a2.w (3 + 4 * Bd 0 + 1) (nI (num b t (c + 1)))) (x := 44) (Or.inl rfl) o2
                    obtain ⟨τ4, d1, d2, d3⟩ := numm_ok b2 (hi := 30) (by omega) o3
                    rw [hp4] at d2
                    obtain ⟨τ5, g1, g2, g3⟩ := sign_ok (d2.w (3 + 4 * Bd 0 + 2) (nI (num b t (c2 + 1)))) (x := 44) (Or.inl rfl) o4
                    obtain ⟨τ6, j1, j2, j3⟩ := numm_ok g2 (hi := 30) (by omega) o5
                    rw [hp6] at j2
                    obtain ⟨τ7, l1, l2, l3⟩ := sign_ok (j2.w (3 + 4 * Bd 0 + 3) (nI (num b t (c4 + 1)))) (x := 59) (Or.inr rfl) o6
                    have hrow : τ7 256 = upd (upd (upd (upd (τ 256) (3 + 4 * Bd 0) (nI (x 0))) (3 + 4 * Bd 0 + 1) (nI (x 1))) (3 + 4 * Bd 0 + 2) (nI (x 2))) (3 + 4 * Bd 0 + 3) (nI (x 3)) := by
                      rw [l3.1 256 (by omega), wr_row, j3.1 256 (by omega), g3.1 256 (by omega), wr_row, d3.1 256 (by omega), b3.1 256 (by omega), wr_row, a3.1 256 (by omega), wr_row, m3]
                      rfl
                    have h0 : τ7 256 0 = nI (Bd 0) := by
                      rw [hrow, upd_ne _ _ (by omega), upd_ne _ _ (by omega), upd_ne _ _ (by omega), upd_ne _ _ (by omega)]
                      exact hR 0 (by omega)
                    refine ⟨wr τ7 256 0 (nI (Bd 0 + 1)), ?_, l2.w _ _, ?_, ?_⟩
                    · rw [m4, show X12_number 251 0 30 _ = _ from a1, ob2_some, show X12_mustSign 251 44 _ = _ from b1, ob_some, show X12_number 251 0 30 _ = _ from d1, ob2_some, show X12_mustSign 251 44 _ = _ from g1, ob_some, show X12_number 251 0 30 _ = _ from j1, ob2_some, show X12_mustSign 251 59 _ = _ from l1, ob_some, h0, nI_1]
                    · rw [wr_row, hrow]
                      exact rw_ins (by omega) hR
                    · exact ((((((((m1.b.tr (FrB.w _ _ _)).tr a3.b).tr (FrB.w _ _ _)).tr b3.b).tr d3.b).tr (FrB.w _ _ _)).tr g3.b).tr j3.b).tr ((FrB.w _ _ _).tr (l3.b.tr (FrB.w _ _ _)))
                · have e6 := (rb_s hCS6.1 c6 59 hc6 (by omega) hCS6.2.1).2 o6
                  rw [show X7_readsByte 15 13 59 σ6 = _ from e6, ob2_some, if_pos rfl]
                  refine ⟨0, _, rfl, fun q hq => by rw [wr_off _ _ _ (by omega), hfr6 q hq], Or.inr ⟨rfl, 1, c6, by rw [wr_in _ _ (by omega)]; exact hCS6.2.1, wr_at _ _ _ _, hc6, fun τ hM hR => ?_⟩⟩
                  obtain ⟨τ1, m1, m2, m3, m4⟩ := mstart τ hM hR
                  obtain ⟨τ2, a1, a2, a3⟩ := numm_ok m2 (hi := 30) (by omega) o1
                  rw [hp2] at a2
                  obtain ⟨τ3, b1, b2, b3⟩ := sign_ok (a2.w (3 + 4 * Bd 0 + 1) (nI (num b t (c + 1)))) (x := 44) (Or.inl rfl) o2
                  obtain ⟨τ4, d1, d2, d3⟩ := numm_ok b2 (hi := 30) (by omega) o3
                  rw [hp4] at d2
                  obtain ⟨τ5, g1, g2, g3⟩ := sign_ok (d2.w (3 + 4 * Bd 0 + 2) (nI (num b t (c2 + 1)))) (x := 44) (Or.inl rfl) o4
                  obtain ⟨τ6, j1, j2, j3⟩ := numm_ok g2 (hi := 30) (by omega) o5
                  rw [hp6] at j2
                  obtain ⟨τ7, l1, l2, l3⟩ := sign_bad (j2.w (3 + 4 * Bd 0 + 3) (nI (num b t (c4 + 1)))) (x := 59) (Or.inr rfl) o6
                  refine ⟨wr τ7 256 0 (τ7 256 0 + 1), ?_, l2.w _ _, ((((((((m1.b.tr (FrB.w _ _ _)).tr a3.b).tr (FrB.w _ _ _)).tr b3.b).tr d3.b).tr (FrB.w _ _ _)).tr g3.b).tr j3.b).tr ((FrB.w _ _ _).tr (l3.b.tr (FrB.w _ _ _)))⟩
                  rw [m4, show X12_number 251 0 30 _ = _ from a1, ob2_some, show X12_mustSign 251 44 _ = _ from b1, ob_some, show X12_number 251 0 30 _ = _ from d1, ob2_some, show X12_mustSign 251 44 _ = _ from g1, ob_some, show X12_number 251 0 30 _ = _ from j1, ob2_some, show X12_mustSign 251 59 _ = _ from l1, ob_some]
              · have e5 := (rn_s hCS5.1 (c4 + 1) 30 (by omega) (by omega) hCS5.2.1).2 o5
                rw [show X7_readNumber 15 13 30 σ5 = _ from e5, ob2_some, if_pos (by decide)]
                refine ⟨0, _, rfl, fun q hq => by rw [wr_off _ _ _ (by omega), hfr5 q hq], Or.inr ⟨rfl, nmF b t (c4 + 1), c4 + 1, by rw [wr_in _ _ (by omega)]; exact hCS5.2.1, wr_at _ _ _ _, by omega, fun τ hM hR => ?_⟩⟩
                obtain ⟨τ1, m1, m2, m3, m4⟩ := mstart τ hM hR
                obtain ⟨τ2, a1, a2, a3⟩ := numm_ok m2 (hi := 30) (by omega) o1
                rw [hp2] at a2
                obtain ⟨τ3, b1, b2, b3⟩ := sign_ok (a2.w (3 + 4 * Bd 0 + 1) (nI (num b t (c + 1)))) (x := 44) (Or.inl rfl) o2
                obtain ⟨τ4, d1, d2, d3⟩ := numm_ok b2 (hi := 30) (by omega) o3
                rw [hp4] at d2
                obtain ⟨τ5, g1, g2, g3⟩ := sign_ok (d2.w (3 + 4 * Bd 0 + 2) (nI (num b t (c2 + 1)))) (x := 44) (Or.inl rfl) o4
                obtain ⟨τ6, j1, j2, j3⟩ := numm_bad g2 (hi := 30) (by omega) o5
                refine ⟨wr (wr τ6 256 (3 + 4 * Bd 0 + 3) 0) 256 0 (wr τ6 256 (3 + 4 * Bd 0 + 3) 0 256 0 + 1), ?_, (j2.w _ _).w _ _, ((((((((m1.b.tr (FrB.w _ _ _)).tr a3.b).tr (FrB.w _ _ _)).tr b3.b).tr d3.b).tr (FrB.w _ _ _)).tr g3.b).tr j3.b).tr ((FrB.w _ _ _).tr (FrB.w _ _ _))⟩
                rw [m4, show X12_number 251 0 30 _ = _ from a1, ob2_some, show X12_mustSign 251 44 _ = _ from b1, ob_some, show X12_number 251 0 30 _ = _ from d1, ob2_some, show X12_mustSign 251 44 _ = _ from g1, ob_some, show X12_number 251 0 30 _ = _ from j1, ob2_some, sign_f (j2.w _ _), ob_some]
            · have e4 := (rb_s hCS4.1 c4 44 hc4 (by omega) hCS4.2.1).2 o4
              rw [show X7_readsByte 15 13 44 σ4 = _ from e4, ob2_some, if_pos rfl]
              refine ⟨0, _, rfl, fun q hq => by rw [wr_off _ _ _ (by omega), hfr4 q hq], Or.inr ⟨rfl, 1, c4, by rw [wr_in _ _ (by omega)]; exact hCS4.2.1, wr_at _ _ _ _, hc4, fun τ hM hR => ?_⟩⟩
              obtain ⟨τ1, m1, m2, m3, m4⟩ := mstart τ hM hR
              obtain ⟨τ2, a1, a2, a3⟩ := numm_ok m2 (hi := 30) (by omega) o1
              rw [hp2] at a2
              obtain ⟨τ3, b1, b2, b3⟩ := sign_ok (a2.w (3 + 4 * Bd 0 + 1) (nI (num b t (c + 1)))) (x := 44) (Or.inl rfl) o2
              obtain ⟨τ4, d1, d2, d3⟩ := numm_ok b2 (hi := 30) (by omega) o3
              rw [hp4] at d2
              obtain ⟨τ5, g1, g2, g3⟩ := sign_bad (d2.w (3 + 4 * Bd 0 + 2) (nI (num b t (c2 + 1)))) (x := 44) (Or.inl rfl) o4
              refine ⟨wr (wr τ5 256 (3 + 4 * Bd 0 + 3) 0) 256 0 (wr τ5 256 (3 + 4 * Bd 0 + 3) 0 256 0 + 1), ?_, (g2.w _ _).w _ _, (((((((m1.b.tr (FrB.w _ _ _)).tr a3.b).tr (FrB.w _ _ _)).tr b3.b).tr d3.b).tr (FrB.w _ _ _)).tr g3.b).tr ((FrB.w _ _ _).tr (FrB.w _ _ _))⟩
              rw [m4, show X12_number 251 0 30 _ = _ from a1, ob2_some, show X12_mustSign 251 44 _ = _ from b1, ob_some, show X12_number 251 0 30 _ = _ from d1, ob2_some, show X12_mustSign 251 44 _ = _ from g1, ob_some, num_f g2, ob2_some, sign_f (g2.w _ _), ob_some]
          · have e3 := (rn_s hCS3.1 (c2 + 1) 30 (by omega) (by omega) hCS3.2.1).2 o3
            rw [show X7_readNumber 15 13 30 σ3 = _ from e3, ob2_some, if_pos (by decide)]
            refine ⟨0, _, rfl, fun q hq => by rw [wr_off _ _ _ (by omega), hfr3 q hq], Or.inr ⟨rfl, nmF b t (c2 + 1), c2 + 1, by rw [wr_in _ _ (by omega)]; exact hCS3.2.1, wr_at _ _ _ _, by omega, fun τ hM hR => ?_⟩⟩
            obtain ⟨τ1, m1, m2, m3, m4⟩ := mstart τ hM hR
            obtain ⟨τ2, a1, a2, a3⟩ := numm_ok m2 (hi := 30) (by omega) o1
            rw [hp2] at a2
            obtain ⟨τ3, b1, b2, b3⟩ := sign_ok (a2.w (3 + 4 * Bd 0 + 1) (nI (num b t (c + 1)))) (x := 44) (Or.inl rfl) o2
            obtain ⟨τ4, d1, d2, d3⟩ := numm_bad b2 (hi := 30) (by omega) o3
            refine ⟨wr (wr (wr τ4 256 (3 + 4 * Bd 0 + 2) 0) 256 (3 + 4 * Bd 0 + 3) 0) 256 0 (wr (wr τ4 256 (3 + 4 * Bd 0 + 2) 0) 256 (3 + 4 * Bd 0 + 3) 0 256 0 + 1), ?_, ((d2.w _ _).w _ _).w _ _, (((((m1.b.tr (FrB.w _ _ _)).tr a3.b).tr (FrB.w _ _ _)).tr b3.b).tr d3.b).tr (((FrB.w _ _ _).tr (FrB.w _ _ _)).tr (FrB.w _ _ _))⟩
            rw [m4, show X12_number 251 0 30 _ = _ from a1, ob2_some, show X12_mustSign 251 44 _ = _ from b1, ob_some, show X12_number 251 0 30 _ = _ from d1, ob2_some, sign_f (d2.w _ _), ob_some, num_f (d2.w _ _), ob2_some, sign_f ((d2.w _ _).w _ _), ob_some]
        · have e2 := (rb_s hCS2.1 c2 44 hc2 (by omega) hCS2.2.1).2 o2
          rw [show X7_readsByte 15 13 44 σ2 = _ from e2, ob2_some, if_pos rfl]
          refine ⟨0, _, rfl, fun q hq => by rw [wr_off _ _ _ (by omega), hfr2 q hq], Or.inr ⟨rfl, 1, c2, by rw [wr_in _ _ (by omega)]; exact hCS2.2.1, wr_at _ _ _ _, hc2, fun τ hM hR => ?_⟩⟩
          obtain ⟨τ1, m1, m2, m3, m4⟩ := mstart τ hM hR
          obtain ⟨τ2, a1, a2, a3⟩ := numm_ok m2 (hi := 30) (by omega) o1
          rw [hp2] at a2
          obtain ⟨τ3, b1, b2, b3⟩ := sign_bad (a2.w (3 + 4 * Bd 0 + 1) (nI (num b t (c + 1)))) (x := 44) (Or.inl rfl) o2
          refine ⟨wr (wr (wr τ3 256 (3 + 4 * Bd 0 + 2) 0) 256 (3 + 4 * Bd 0 + 3) 0) 256 0 (wr (wr τ3 256 (3 + 4 * Bd 0 + 2) 0) 256 (3 + 4 * Bd 0 + 3) 0 256 0 + 1), ?_, ((b2.w _ _).w _ _).w _ _, ((((m1.b.tr (FrB.w _ _ _)).tr a3.b).tr (FrB.w _ _ _)).tr b3.b).tr (((FrB.w _ _ _).tr (FrB.w _ _ _)).tr (FrB.w _ _ _))⟩
          rw [m4, show X12_number 251 0 30 _ = _ from a1, ob2_some, show X12_mustSign 251 44 _ = _ from b1, ob_some, num_f b2, ob2_some, sign_f (b2.w _ _), ob_some, num_f (b2.w _ _), ob2_some, sign_f ((b2.w _ _).w _ _), ob_some]
      · have e1 := (rn_s hCS1.1 (c + 1) 30 (by omega) (by omega) hCS1.2.1).2 o1
        rw [show X7_readNumber 15 13 30 (wr σ 15 1 (nI (c + 1))) = _ from e1, ob2_some, if_pos (by decide)]
        refine ⟨0, _, rfl, fun q hq => by rw [wr_off _ _ _ (by omega), hfr1 q hq], Or.inr ⟨rfl, nmF b t (c + 1), c + 1, by rw [wr_in _ _ (by omega)]; exact hCS1.2.1, wr_at _ _ _ _, by omega, fun τ hM hR => ?_⟩⟩
        obtain ⟨τ1, m1, m2, m3, m4⟩ := mstart τ hM hR
        obtain ⟨τ2, a1, a2, a3⟩ := numm_bad m2 (hi := 30) (by omega) o1
        refine ⟨wr (wr (wr (wr τ2 256 (3 + 4 * Bd 0 + 1) 0) 256 (3 + 4 * Bd 0 + 2) 0) 256 (3 + 4 * Bd 0 + 3) 0) 256 0 (wr (wr (wr τ2 256 (3 + 4 * Bd 0 + 1) 0) 256 (3 + 4 * Bd 0 + 2) 0) 256 (3 + 4 * Bd 0 + 3) 0 256 0 + 1), ?_, (((a2.w _ _).w _ _).w _ _).w _ _, ((m1.b.tr (FrB.w _ _ _)).tr a3.b).tr ((((FrB.w _ _ _).tr (FrB.w _ _ _)).tr (FrB.w _ _ _)).tr (FrB.w _ _ _))⟩
        rw [m4, show X12_number 251 0 30 _ = _ from a1, ob2_some, sign_f (a2.w _ _), ob_some, num_f (a2.w _ _), ob2_some, sign_f ((a2.w _ _).w _ _), ob_some, num_f ((a2.w _ _).w _ _), ob2_some, sign_f (((a2.w _ _).w _ _).w _ _), ob_some]
end
