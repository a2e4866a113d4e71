/-! PURE: hands, as the class finds them. -/
theorem msk_cg {P P' : Nat → Bool} {b : Nat} (h : ∀ i, i < b → P i = P' i) : msk P b = msk P' b := by
  apply Nat.eq_of_testBit_eq
  intro i
  rw [msk_bit, msk_bit]
  by_cases c : i < b
  · rw [h i c]
  · rw [show decide (i < b) = false from decide_eq_false c]
    rfl
def ext (g : Nat → Nat) (page v : Nat) : Nat → Nat := fun q => if q = page then v else g q
theorem ext_at (g : Nat → Nat) (page v : Nat) : ext g page v page = v := if_pos rfl
theorem ext_ne (g : Nat → Nat) {page q : Nat} (v : Nat) (h : q ≠ page) : ext g page v q = g q := if_neg h
section
variable {n k most : Nat} {M : Nat → Nat}
def HSt (σ : Mem) (k page : Nat) (g : Nat → Nat) : Prop := (∀ q, q < page → σ (k + 14) q = nI (g q)) ∧ ∀ j, j < 10 → σ (k + 15) j = nI (msk (fun q => decide (g q = j)) page)
def Prs (nr : Nat → Nat → Prop) (page used : Nat) (g : Nat → Nat) : Prop := (∀ q, q < page → g q < used) ∧ (∀ j, j < used → ∃ q, q < page ∧ g q = j) ∧ (∀ p q, p < page → q < page → g p = g q → nr p q) ∧ ∀ p, p < page → ∀ j, j < g p → ∃ q, q < p ∧ g q = j
def SetR (M : Nat → Nat) (n k most page : Nat) (g : Nat → Nat) (σ : Mem) (x : Option (Int32 × Mem)) : Prop := ∃ r σ', x = some (r, σ') ∧ (∀ q, q ≠ k → q ≠ k + 14 → q ≠ k + 15 → σ' q = σ q) ∧ (∀ j, j ≠ 3 → σ' k j = σ k j) ∧ ((r = 0 ∧ HSt σ' k page g ∧ ∀ h, Val (nrT M) n most h → (∀ q, q < page → h q = g q) → False) ∨ (r = 1 ∧ ∃ h, Val (nrT M) n most h ∧ (∀ q, q < page → h q = g q) ∧ HSt σ' k n h ∧ (∃ u, σ' k 3 = nI u ∧ u ≤ most ∧ Val (nrT M) n u h) ∧ ∀ h', Val (nrT M) n most h' → (∀ q, q < page → h' q = g q) → ¬ lexlt n h' h))
theorem fits_s {σ : Mem} {page v : Nat} {g : Nat → Nat} (hp : page < 10) (hv : v < 10) (hM : M page < 2 ^ 10) (h1 : σ (k + 13) page = nI (M page)) (h2 : HSt σ k page g) : ∃ r, X6_fits k (nI page) (nI v) σ = some r ∧ ((r = 1 ∧ ∀ q, q < page → g q = v → nrT M page q) ∨ (r = 0 ∧ ∃ q, q < page ∧ g q = v ∧ ¬ nrT M page q)) := by
  unfold X6_fits X6_fits_b0
  rw [gdx_n (by omega) (by omega), gdx_n (by omega) (by omega), nc_n (by omega), nc_n (by omega), h2.2 v hv, show σ (k + 1 + 12) page = _ from h1, nI_andn]
  have hlt : msk (fun q => decide (g q = v)) page < 2 ^ 10 := Nat.lt_of_lt_of_le (msk_lt _ page) (Nat.pow_le_pow_right (by omega) (by omega))
  have hlt2 := andn_lt (b := M page) hlt
  by_cases c : andn (msk (fun q => decide (g q = v)) page) (M page) = 0
  · refine ⟨1, by rw [c, if_pos (show nI 0 = 0 from rfl)], Or.inl ⟨rfl, fun q hq e => andn_0.mp c q ?_⟩⟩
    rw [msk_bit]
    simp [hq, e]
  · refine ⟨0, by rw [if_neg (nI_ne0 (by omega) (by omega))], Or.inr ⟨rfl, ?_⟩⟩
    obtain ⟨q, hq⟩ := Nat.exists_testBit_of_ne_zero c
    rw [andn_bit, msk_bit] at hq
    simp only [Bool.and_eq_true, decide_eq_true_eq, Bool.not_eq_true'] at hq
    refine ⟨q, hq.1.1, hq.1.2, fun x => ?_⟩
    unfold nrT at x
    rw [hq.2] at x
    exact absurd x (by decide)
theorem settles_s (hn : n ≤ 10) (hmost : most ≤ 10) (hM : ∀ p, p < n → M p < 2 ^ 10) (hsym : ∀ p q, p < n → q < n → nrT M p q → nrT M q p) (hrf : ∀ p, p < n → nrT M p p) : ∀ (e page used fuel : Nat) (g : Nat → Nat) (σ : Mem), page + e = n → e < fuel → σ (k + 1) 0 = nI n → (∀ p, p < n → σ (k + 13) p = nI (M p)) → HSt σ k page g → Prs (nrT M) page used g → used ≤ most → SetR M n k most page g σ (X6_settles fuel k (nI page) (nI used) (nI most) σ) := by
  intro e
  induction e with
  | zero =>
    intro page used fuel g σ he hf h0 h1 hst hpr hu
    obtain ⟨fuel, rfl⟩ : ∃ m', fuel = m' + 1 := ⟨fuel - 1, by omega⟩
    obtain rfl : page = n := by omega
    obtain ⟨a1, a2, a3, a4⟩ := hpr
    refine ⟨1, wr σ k 3 (nI used), ?_, fun q b1 b2 b3 => wr_off _ _ _ b1, fun j hj => wr_in _ _ hj, Or.inr ⟨rfl, g, ⟨fun p hp => Nat.lt_of_lt_of_le (a1 p hp) hu, a3, a4⟩, fun q _ => rfl, ⟨fun q hq => by rw [wr_off _ _ _ (by omega)]; exact hst.1 q hq, fun j hj => by rw [wr_off _ _ _ (by omega)]; exact hst.2 j hj⟩, ⟨used, wr_at _ _ _ _, hu, a1, a3, a4⟩, fun h' _ hx hl => ?_⟩⟩
    · show X6_settles_b0 _ k (nI page) (nI used) (nI most) σ = _
      unfold X6_settles_b0 X6_settles_b17
      rw [h0, if_pos (nI_le (by omega) (by omega))]
    · obtain ⟨p, p1, p2, _⟩ := hl
      have := hx p p1
      omega
  | succ e ih =>
    intro page used fuel g σ he hf h0 h1 hst hpr hu
    obtain ⟨fuel, rfl⟩ : ∃ m', fuel = m' + 1 := ⟨fuel - 1, by omega⟩
    obtain ⟨a1, a2, a3, a4⟩ := hpr
    have start : X6_settles (fuel + 1) k (nI page) (nI used) (nI most) σ = X6_settles_l27 (X6_settles fuel) FU k (nI page) (nI used) (nI most) (nI 0) σ := by
      show X6_settles_b0 _ k (nI page) (nI used) (nI most) σ = _
      unfold X6_settles_b0
      rw [h0, if_neg (show ¬ nI n ≤ nI page by rw [nI_le_iff (by omega) (by omega)]; omega), if_pos (show nI page < 10 from nI_lt (b := 10) (by omega) (by omega))]
      rfl
    rw [start]
    have inner : ∀ (t v m : Nat) (σ : Mem), v + t = 11 → t < m → σ (k + 1) 0 = nI n → (∀ p, p < n → σ (k + 13) p = nI (M p)) → HSt σ k page g → (∀ h, Val (nrT M) n most h → (∀ q, q < page → h q = g q) → v ≤ h page) → SetR M n k most page g σ (X6_settles_l27 (X6_settles fuel) m k (nI page) (nI used) (nI most) (nI v) σ) := by
      intro t
      induction t with
      | zero =>
        intro v m σ hv hm h0 h1 hst hlow
        obtain ⟨m, rfl⟩ : ∃ m', m = m' + 1 := ⟨m - 1, by omega⟩
        refine ⟨0, σ, ?_, fun _ _ _ _ => rfl, fun _ _ => rfl, Or.inl ⟨rfl, hst, fun h hh hx => ?_⟩⟩
        · show X6_settles_b27 _ _ k (nI page) (nI used) (nI most) (nI v) σ = _
          unfold X6_settles_b27
          rw [if_pos (nI_lt (by omega) (by omega))]
        · have := hlow h hh hx
          have := hh.1 page (by omega)
          omega
      | succ t iht =>
        intro v m σ hv hm h0 h1 hst hlow
        obtain ⟨m, rfl⟩ : ∃ m', m = m' + 1 := ⟨m - 1, by omega⟩
        by_cases c1 : used < v
        · refine ⟨0, σ, ?_, fun _ _ _ _ => rfl, fun _ _ => rfl, Or.inl ⟨rfl, hst, fun h hh hx => ?_⟩⟩
          · show X6_settles_b27 _ _ k (nI page) (nI used) (nI most) (nI v) σ = _
            unfold X6_settles_b27
            rw [if_pos (nI_lt (by omega) (by omega))]
          · have hv' := hlow h hh hx
            obtain ⟨q, q1, q2⟩ := hh.2.2 page (by omega) used (by omega)
            have := a1 q q1
            rw [← hx q q1] at this
            omega
        · by_cases c2 : most ≤ v
          · refine ⟨0, σ, ?_, fun _ _ _ _ => rfl, fun _ _ => rfl, Or.inl ⟨rfl, hst, fun h hh hx => ?_⟩⟩
            · show X6_settles_b27 _ _ k (nI page) (nI used) (nI most) (nI v) σ = _
              unfold X6_settles_b27
              rw [if_neg (show ¬ nI used < nI v by rw [nI_lt_iff (by omega) (by omega)]; omega), if_pos (nI_le c2 (by omega))]
            · have := hlow h hh hx
              have := hh.1 page (by omega)
              omega
          · obtain ⟨r, f1, f2⟩ := fits_s (M := M) (v := v) (show page < 10 by omega) (by omega) (hM page (by omega)) (h1 page (by omega)) hst
            have unf : X6_settles_l27 (X6_settles fuel) (m + 1) k (nI page) (nI used) (nI most) (nI v) σ = if r = 0 then X6_settles_l27 (X6_settles fuel) m k (nI page) (nI used) (nI most) (nI (v + 1)) σ else ob2 (X6_settles fuel k (nI (page + 1)) (nI (max used (v + 1))) (nI most) (wr (wr σ (k + 14) page (nI v)) (k + 15) v (nI (msk (fun q => decide (g q = v)) page ||| 2 ^ page)))) (fun r10 σ11 => if r10 = 0 then X6_settles_l27 (X6_settles fuel) m k (nI page) (nI used) (nI most) (nI (v + 1)) (wr σ11 (k + 15) v ((σ11 (k + 15) v) &&& (nI (2 ^ page) ^^^ (-1)))) else some (1, σ11)) := by
              show X6_settles_b27 _ _ k (nI page) (nI used) (nI most) (nI v) σ = _
              unfold X6_settles_b27 X6_settles_b113
              rw [if_neg (show ¬ nI used < nI v by rw [nI_lt_iff (by omega) (by omega)]; omega), if_neg (show ¬ nI most ≤ nI v by rw [nI_le_iff (by omega) (by omega)]; omega), if_neg (show ¬ (10 : Int32) ≤ nI v from nI_ge (b := 10) (by omega) (by omega)), f1, ob_some]
              simp (disch := omega) only [gdx_n, nc_n, letv_eq, nI_1, wr_off]
              rw [hst.2 v (by omega), shl_1 page (by omega), nI_or, mx_n (by omega) (by omega)]
            rw [unf]
            rcases f2 with ⟨f2, f3⟩ | ⟨f2, q, f3, f4, f5⟩
            · rw [if_neg (by rw [f2]; decide)]
              have hg' : ∀ q, q < page → (ext g page v) q = g q := fun q hq => ext_ne _ _ (by omega)
              have hgp : (ext g page v) page = v := ext_at _ _ _
              have hst' : HSt (wr (wr σ (k + 14) page (nI v)) (k + 15) v (nI (msk (fun q => decide (g q = v)) page ||| 2 ^ page))) k (page + 1) (ext g page v) := by
                refine ⟨fun q hq => ?_, fun j hj => ?_⟩
                · rw [wr_off _ _ _ (by omega)]
                  by_cases e : q = page
                  · subst e
                    rw [wr_at, ext_at]
                  · rw [wr_in _ _ e, ext_ne _ _ e]
                    exact hst.1 q (by omega)
                · show _ = nI (msk (fun q => decide (ext g page v q = j)) page ||| (if decide ((ext g page v) page = j) then 2 ^ page else 0))
                  rw [hgp, msk_cg (P := fun q => decide (ext g page v q = j)) (P' := fun q => decide (g q = j)) (fun i hi => by show decide (ext g page v i = j) = decide (g i = j); rw [hg' i hi])]
                  by_cases e : j = v
                  · subst e
                    rw [wr_at, show decide (j = j) = true from decide_eq_true rfl]
                    rfl
                  · rw [wr_in _ _ e, wr_off _ _ _ (by omega), hst.2 j hj, show decide (v = j) = false from decide_eq_false (fun q => e q.symm)]
                    show nI (msk (fun q => decide (g q = j)) page) = nI (msk (fun q => decide (g q = j)) page ||| 0)
                    rw [Nat.or_zero]
              have hpr' : Prs (nrT M) (page + 1) (max used (v + 1)) (ext g page v) := by
                refine ⟨fun q hq => ?_, fun j hj => ?_, fun p q hp hq e => ?_, fun p hp j hj => ?_⟩
                · by_cases e : q = page
                  · rw [e, hgp]
                    omega
                  · rw [hg' q (by omega)]
                    have := a1 q (by omega)
                    omega
                · by_cases e : j = v
                  · exact ⟨page, by omega, by rw [hgp, e]⟩
                  · obtain ⟨q, q1, q2⟩ := a2 j (by omega)
                    exact ⟨q, by omega, by rw [hg' q q1]; exact q2⟩
                · by_cases ep : p = page
                  · by_cases eq : q = page
                    · rw [ep, eq]
                      exact hrf page (by omega)
                    · rw [ep, hgp, hg' q (by omega)] at e
                      rw [ep]
                      exact f3 q (by omega) e.symm
                  · by_cases eq : q = page
                    · rw [eq, hgp, hg' p (by omega)] at e
                      rw [eq]
                      exact hsym page p (by omega) (by omega) (f3 p (by omega) e)
                    · rw [hg' p (by omega), hg' q (by omega)] at e
                      exact a3 p q (by omega) (by omega) e
                · by_cases ep : p = page
                  · rw [ep, hgp] at hj
                    obtain ⟨q, q1, q2⟩ := a2 j (by omega)
                    exact ⟨q, by omega, by rw [hg' q q1]; exact q2⟩
                  · rw [hg' p (by omega)] at hj
                    obtain ⟨q, q1, q2⟩ := a4 p (by omega) j hj
                    exact ⟨q, q1, by rw [hg' q (by omega)]; exact q2⟩
              obtain ⟨r', σ', s1, s2, s3, s4⟩ := ih (page + 1) (max used (v + 1)) fuel (ext g page v) _ (by omega) (by omega) (by rw [wr_off _ _ _ (by omega), wr_off _ _ _ (by omega)]; exact h0) (fun p hp => by rw [wr_off _ _ _ (by omega), wr_off _ _ _ (by omega)]; exact h1 p hp) hst' hpr' (by omega)
              rw [s1, ob2_some]
              rcases s4 with ⟨r0, t1, t2⟩ | ⟨r1, h, t1, t2, t3, t4, t5⟩
              · rw [if_pos r0]
                have hst2 : HSt (wr σ' (k + 15) v (σ' (k + 15) v &&& (nI (2 ^ page) ^^^ -1))) k page g := by
                  refine ⟨fun q hq => ?_, fun j hj => ?_⟩
                  · rw [wr_off _ _ _ (by omega), t1.1 q (by omega), hg' q hq]
                  · by_cases e : j = v
                    · subst e
                      rw [wr_at, t1.2 j hj, nI_andn]
                      congr 1
                      apply Nat.eq_of_testBit_eq
                      intro i
                      rw [andn_bit, msk_bit, msk_bit, Nat.testBit_two_pow]
                      by_cases ei : i = page
                      · subst ei
                        simp
                      · rw [show decide (page = i) = false from decide_eq_false (fun q => ei q.symm), ext_ne _ _ ei, show decide (i < page + 1) = decide (i < page) from decide_eq_decide.mpr (by omega)]
                        simp
                    · rw [wr_in _ _ e, t1.2 j hj]
                      congr 1
                      apply Nat.eq_of_testBit_eq
                      intro i
                      rw [msk_bit, msk_bit]
                      by_cases ei : i = page
                      · subst ei
                        rw [ext_at, show decide (v = j) = false from decide_eq_false (fun q => e q.symm)]
                        simp
                      · rw [ext_ne _ _ ei, show decide (i < page + 1) = decide (i < page) from decide_eq_decide.mpr (by omega)]
                obtain ⟨r2, σ2, y1, y2, y3, y4⟩ := iht (v + 1) m _ (by omega) (by omega) (by rw [wr_off _ _ _ (by omega), s2 (k + 1) (by omega) (by omega) (by omega), wr_off _ _ _ (by omega), wr_off _ _ _ (by omega)]; exact h0) (fun p hp => by rw [wr_off _ _ _ (by omega), s2 (k + 13) (by omega) (by omega) (by omega), wr_off _ _ _ (by omega), wr_off _ _ _ (by omega)]; exact h1 p hp) hst2 (fun h hh hx => by
                  have hv' := hlow h hh hx
                  rcases Nat.lt_or_ge v (h page) with e | e
                  · omega
                  · exfalso
                    refine t2 h hh (fun q hq => ?_)
                    by_cases ei : q = page
                    · rw [ei, hgp]
                      omega
                    · rw [hg' q (by omega)]
                      exact hx q (by omega))
                refine ⟨r2, σ2, y1, fun q b1 b2 b3 => ?_, fun j hj => ?_, y4⟩
                · rw [y2 q b1 b2 b3, wr_off _ _ _ b3, s2 q b1 b2 b3, wr_off _ _ _ b3, wr_off _ _ _ b2]
                · rw [y3 j hj, wr_off _ _ _ (by omega), s3 j hj, wr_off _ _ _ (by omega), wr_off _ _ _ (by omega)]
              · rw [if_neg (by rw [r1]; decide)]
                refine ⟨1, σ', rfl, fun q b1 b2 b3 => ?_, fun j hj => ?_, Or.inr ⟨rfl, h, t1, fun q hq => by rw [t2 q (by omega)]; exact hg' q hq, t3, t4, fun h' hh hx hl => ?_⟩⟩
                · rw [s2 q b1 b2 b3, wr_off _ _ _ b3, wr_off _ _ _ b2]
                · rw [s3 j hj, wr_off _ _ _ (by omega), wr_off _ _ _ (by omega)]
                · have hv' := hlow h' hh hx
                  have hp' : h page = v := by rw [t2 page (by omega)]; exact hgp
                  by_cases e : h' page = v
                  · refine t5 h' hh (fun q hq => ?_) hl
                    by_cases ei : q = page
                    · rw [ei, hgp]
                      exact e
                    · rw [hg' q (by omega)]
                      exact hx q (by omega)
                  · obtain ⟨p, p1, p2, p3⟩ := hl
                    rcases Nat.lt_trichotomy p page with d | d | d
                    · have e1 := hx p d
                      have e2 := t2 p (by omega)
                      rw [hg' p d] at e2
                      omega
                    · rw [d, hp'] at p2
                      omega
                    · have := p3 page d
                      omega
            · rw [if_pos f2]
              exact iht (v + 1) m σ (by omega) (by omega) h0 h1 hst (fun h hh hx => by
                have hv' := hlow h hh hx
                rcases Nat.lt_or_ge v (h page) with e | e
                · omega
                · exfalso
                  apply f5
                  refine hh.2.1 page q (by omega) (by omega) ?_
                  rw [hx q f3, f4]
                  omega)
    exact inner 11 0 FU σ (by omega) (by unfold FU; omega) h0 h1 hst (fun h _ _ => Nat.zero_le _)
end
