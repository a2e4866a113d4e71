/-! PURE: look. -/
theorem lookAt_s {B : Nat → Nat} (ho : okB B) (σ : Mem) (hB : AtB σ 22 B) : ∃ σ', X4_lookAt 175 22 σ = some σ' ∧ FOK σ' B ∧ ∀ q, (q < 175 ∨ 211 ≤ q) → σ' q = σ q := by
  have hn := ho.1
  have hl := ho.2.1
  have hg90 : ∀ x y, x < B 0 → y < B 0 → far B x y ≤ 90 := fun x y hx hy => far_le ho hx hy
  have hg20 : ∀ x y, x < B 0 → y < B 0 → far B x y < 2 ^ 20 := fun x y hx hy => by have := hg90 x y hx hy; omega
  -- gaps
  obtain ⟨σ1, a1, a2, a3, a4⟩ := survey_s 177 22 (by omega) B ho σ hB
  -- hands
  obtain ⟨σ2, b1, b2, b3, b4⟩ := find_s (k := 176) hn hg20 (far_comm B) (far_self B) (B 1) (by omega) σ1 a2
  have hG2 : Gp σ2 177 (B 0) (far B) := ⟨by rw [b3 177 (by omega) (by omega) (by omega) (by omega)]; exact a2.1, fun x y hx hy => by rw [b3 (177 + 2 + x) (by omega) (by omega) (by omega) (by omega)]; exact a2.2 x y hx hy⟩
  -- runs
  obtain ⟨σ3, c1, c2, c3, c4⟩ := runs9_s (k := 192) (k1 := 177) (c := B 2) hn hg90 (far_comm B) ho.2.2.1 (by omega) σ2 hG2
  have hG3 : Gp σ3 177 (B 0) (far B) := ⟨by rw [c3 177 (by omega)]; exact hG2.1, fun x y hx hy => by rw [c3 (177 + 2 + x) (by omega)]; exact hG2.2 x y hx hy⟩
  -- groups
  obtain ⟨σ4, f, m, d1, d2, d3, d4, d5, d6, d7⟩ := join_s hn hg90 (far_comm B) (far_self B) (show B 1 ≤ 1000 by omega) σ3 hG3
  have fr1 : ∀ q, (q < 175 ∨ 211 ≤ q) → σ1 q = σ q := fun q hq => a3 q (by omega)
  have fr2 : ∀ q, (q < 175 ∨ 211 ≤ q) → σ2 q = σ q := fun q hq => by rw [b3 q (by omega) (by omega) (by omega) (by omega), fr1 q hq]
  have fr3 : ∀ q, (q < 175 ∨ 211 ≤ q) → σ3 q = σ q := fun q hq => by rw [c3 q (by omega), fr2 q hq]
  have fr4 : ∀ q, (q < 175 ∨ 211 ≤ q) → σ4 q = σ q := fun q hq => by rw [d7 q (by omega) (by omega) (by omega), fr3 q hq]
  have k34 : ∀ q, (176 ≤ q ∧ q < 198) → σ4 q = σ3 q := fun q hq => d7 q (by omega) (by omega) (by omega)
  have k24 : ∀ q, (176 ≤ q ∧ q < 192) → σ4 q = σ2 q := fun q hq => by rw [k34 q (by omega), c3 q (by omega)]
  have e0 : ∀ σx : Mem, (∀ q, (q < 175 ∨ 211 ≤ q) → σx q = σ q) → σx 22 0 = nI (B 0) ∧ σx 22 1 = nI (B 1) ∧ σx 22 2 = nI (B 2) := fun σx hx => by
    rw [hx 22 (by omega)]
    exact ⟨hB.1, hB.2.1, hB.2.2.1⟩
  have hG4 : Gp σ4 177 (B 0) (far B) := ⟨by rw [k24 177 (by omega)]; exact hG2.1, fun x y hx hy => by rw [k24 (177 + 2 + x) (by omega)]; exact hG2.2 x y hx hy⟩
  have hn4 : ∀ p, p < B 0 → σ4 189 p = nI (nrM (far B) (B 0) (B 1) p) := fun p hp => by rw [k24 189 (by omega)]; exact b2.1 p hp
  -- the walk
  have walk : ∀ σ5 σ6 : Mem, X4_doubt 175 (nI (B 0)) σ4 = some σ5 → (∀ q, (q < 175 ∨ 211 ≤ q) → σ5 q = σ q) → X4_write 175 (nI (B 0)) σ5 = some σ6 → X4_lookAt 175 22 σ = some σ6 := by
    intro σ5 σ6 h5 h5f h6
    unfold X4_lookAt X4_lookAt_b0
    rw [show X5_survey (175 + 1 + 1) 22 σ = some σ1 from a1, ob_some, (e0 σ1 fr1).2.1, show X6_findFor (175 + 1) (nI (B 1)) σ1 = some σ2 from b1, ob_some, (e0 σ2 fr2).2.2, show X9_find (175 + 17) (175 + 1 + 1) (nI (B 2)) σ2 = some σ3 from c1, ob_some, (e0 σ3 fr3).1, (e0 σ3 fr3).2.1, d1, ob_some, (e0 σ4 fr4).1, h5, ob_some, (e0 σ5 h5f).1, h6, ob_some]
  rcases b2.2 with ⟨h0, b5⟩ | ⟨h0, kk, h, b5, b6, b7⟩
  · -- no pages
    have c5 : σ3 192 5 = 0 := by
      rcases c2 with ⟨_, c2⟩ | ⟨c2, _⟩
      · exact c2
      · omega
    have hdb : X4_doubt 175 (nI (B 0)) σ4 = some (wr σ4 175 5 0) := by
      unfold X4_doubt X4_doubt_b0
      rw [h0]
      obtain ⟨m, hm⟩ : ∃ m, FU = m + 1 := ⟨999999999, rfl⟩
      rw [hm]
      rfl
    obtain ⟨σ6, g1, g2, g3⟩ := write4_s (n := B 0) (kk := 0) (D := 0) (many := 0) (S := fun _ => 0) (F := fun _ => 0) hn (by omega) (by omega) (by omega) (fun j hj => by omega) (show (([] : List Nat) ++ [47] ++ []).length ≤ 63 by decide) (wr σ4 175 5 0) (wr_at _ _ _ _) (by rw [wr_off _ _ _ (by omega), k24 176 (by omega)]; exact b5) (fun i hi => by omega) (by rw [wr_off _ _ _ (by omega), k34 192 (by omega)]; exact c5) (fun t h1 h2 => by omega)
    have k46 : ∀ q, (176 ≤ q ∧ q < 198) → σ6 q = σ4 q := fun q hq => by rw [g3.1 q (by omega) (by omega), wr_off _ _ _ (by omega)]
    have fr5 : ∀ q, (q < 175 ∨ 211 ≤ q) → wr σ4 175 5 0 q = σ q := fun q hq => by rw [wr_off _ _ _ (by omega), fr4 q hq]
    refine ⟨σ6, walk _ _ hdb fr5 g1, ⟨hn, ⟨by rw [k46 177 (by omega)]; exact hG4.1, fun x y hx hy => by omega⟩, fun p hp => by omega, Or.inl ⟨h0, by rw [k46 176 (by omega), k24 176 (by omega)]; exact b5, by rw [k46 192 (by omega), k34 192 (by omega)]; exact c5⟩⟩, fun q hq => by rw [g3.1 q (by omega) (by omega), fr5 q hq]⟩
  · have hrf : ∀ p, p < B 0 → nrT (nrM (far B) (B 0) (B 1)) p p := nrM_rf (far_self B)
    have hkk := hands_le hrf b5
    have hhp : ∀ p, p < B 0 → h p < 10 := fun p hp => by have := b5.1.1.1 p hp; omega
    obtain ⟨M, c5, c6, c7⟩ : ∃ M, OptM (wdf (far B) (B 0)) (B 2) (B 0) (B 0 - 1) M ∧ Rns σ3 192 (B 0) M ∧ σ3 193 0 = nI (wt (wdf (far B) (B 0)) (B 2) (B 0) (B 0 - 1) M) := by
      rcases c2 with ⟨c2, _⟩ | ⟨_, c2⟩
      · omega
      · exact c2
    have hDP : DP (nrM (far B) (B 0) (B 1)) (B 0) kk h σ4 := ⟨by rw [k24 176 (by omega)]; exact b7, ⟨fun q hq => by rw [k24 (176 + 14) (by omega)]; exact b6.1 q hq, fun j hj => by rw [k24 (176 + 15) (by omega)]; exact b6.2 j hj⟩, hn4⟩
    obtain ⟨D, g1, g2⟩ := doubt_s hn (by omega) hhp (fun p _ => nrM_lt (far B) hn) σ4 hDP
    have hcn := cn_le (B 0) M (B 0)
    have hcn2 : cn (B 0) M (B 0) + 1 ≤ 10 := by
      have h7 : cn (B 0) M (B 0) = cn (B 0) M (B 0 - 1) := by
        have h8 : cn (B 0) M (B 0 - 1 + 1) = cn (B 0) M (B 0 - 1) + (if cutb (B 0) M (B 0 - 1 + 1) then 1 else 0) := rfl
        have h9 : cutb (B 0) M (B 0) = false := by
          unfold cutb
          rw [show decide (B 0 < B 0) = false from decide_eq_false (Nat.lt_irrefl _)]
          simp
        rw [show B 0 - 1 + 1 = B 0 by omega, h9] at h8
        simpa using h8
      have := cn_le (B 0) M (B 0 - 1)
      omega
    have hlen := wall_len hn hrf b5 D (cn (B 0) M (B 0) + 1) (fps (B 0) M (B 0)) hcn2
    have hk5 : ∀ q, q ≠ 175 → wr σ4 175 5 (nI D) q = σ4 q := fun q hq => wr_off _ _ _ hq
    have hD10 := g2.1
    obtain ⟨σ6, w1, w2, w3⟩ := write4_s (n := B 0) (kk := kk) (D := D) (many := cn (B 0) M (B 0) + 1) (S := fun j => msk (fun q => decide (h q = j)) (B 0)) (F := fps (B 0) M (B 0)) hn (by omega) (by omega) hcn2 (fun j hj => Nat.lt_of_lt_of_le (msk_lt _ (B 0)) (Nat.pow_le_pow_right (by omega) (by omega))) (by omega) (wr σ4 175 5 (nI D)) (wr_at _ _ _ _) (by rw [hk5 176 (by omega)]; exact hDP.1) (fun i hi => by rw [hk5 191 (by omega)]; exact hDP.2.1.2 i (by omega)) (by rw [hk5 192 (by omega), k34 192 (by omega)]; exact c6.1) (fun t h1 h2 => by rw [hk5 196 (by omega), k34 196 (by omega)]; exact Beg_F c6.2.2.1 t h1 (by omega))
    have k46 : ∀ q, q ≠ 175 → q ≠ 210 → σ6 q = σ4 q := fun q x1 x2 => by rw [w3.1 q x2 x1, hk5 q x1]
    have fr5 : ∀ q, (q < 175 ∨ 211 ≤ q) → wr σ4 175 5 (nI D) q = σ q := fun q hq => by rw [hk5 q (by omega), fr4 q hq]
    refine ⟨σ6, walk _ _ g1 fr5 w1, ⟨hn, ⟨by rw [k46 177 (by omega) (by omega)]; exact hG4.1, fun x y hx hy => by rw [k46 (177 + 2 + x) (by omega) (by omega)]; exact hG4.2 x y hx hy⟩, fun p hp => by rw [k46 189 (by omega) (by omega)]; exact hn4 p hp, Or.inr ⟨h0, kk, h, M, f, m, D, b5, ⟨fun q hq => by rw [k46 (176 + 14) (by omega) (by omega)]; exact hDP.2.1.1 q hq, fun j hj => by rw [k46 (176 + 15) (by omega) (by omega)]; exact hDP.2.1.2 j hj⟩, by rw [k46 176 (by omega) (by omega)]; exact hDP.1, c5, ?_, by rw [k46 193 (by omega) (by omega), k34 193 (by omega)]; exact c7, d2, d3, fun p hp => by rw [k46 198 (by omega) (by omega)]; exact d4 p hp, by rw [w3.2 4 (by omega), wr_in _ _ (by omega)]; exact d5, g2, by rw [w3.2 5 (by omega), wr_at], w2⟩⟩, fun q hq => by rw [w3.1 q (by omega) (by omega), fr5 q hq]⟩
    obtain ⟨x1, x2, x3, x4⟩ := c6
    refine ⟨by rw [k46 192 (by omega) (by omega), k34 192 (by omega)]; exact x1, by rw [k46 (192 + 4) (by omega) (by omega), k34 (192 + 4) (by omega)]; exact x2, fun u hu hx => by rw [k46 (192 + 4) (by omega) (by omega), k34 (192 + 4) (by omega)]; exact x3 u hu hx, fun q hq => by rw [k46 (192 + 5) (by omega) (by omega), k34 (192 + 5) (by omega)]; exact x4 q hq⟩
/-- after a look, all is found -/
theorem look_s {σ : Mem} {B : Nat → Nat} {m : Nat} {L I : Nat → Nat → Nat} (h : Ref FOK σ B m L I) : ∃ σ', X11_look 0 σ = some σ' ∧ FOK σ' B ∧ Ref FOK σ' B m L I ∧ (∀ q, q ≠ 0 → (q < 175 ∨ 211 ≤ q) → σ' q = σ q) ∧ ∀ j, j ≠ 9 → σ' 0 j = σ 0 j := by
  have h' := h
  obtain ⟨r1, r2, r3, r4, r5, r6, r7, r8, r9, r10, r11, r12, r13⟩ := h
  unfold X11_look X11_look_b0
  rcases r13 with r13 | ⟨r13, r14⟩
  · obtain ⟨σ1, e1, e2, e3⟩ := lookAt_s r6 σ r7
    have hF : FOK (wr σ1 0 9 1) B := FOK_loc σ1 _ B (fun q a b => wr_off _ _ _ (by omega)) e2
    have fr : ∀ q, q ≠ 0 → (q < 175 ∨ 211 ≤ q) → wr σ1 0 9 1 q = σ q := fun q a b => by rw [wr_off _ _ _ a, e3 q b]
    have fr0 : ∀ j, j ≠ 9 → wr σ1 0 9 1 0 j = σ 0 j := fun j hj => by rw [wr_in _ _ hj, e3 0 (by omega)]
    refine ⟨wr σ1 0 9 1, ?_, hF, Ref.sc h' (fun q a b c d => fr q a c) (fr0 10 (by omega)) (fr0 11 (by omega)) (by rw [fr 251 (by omega) (by omega)]) (by rw [fr 251 (by omega) (by omega)]) (by rw [fr 251 (by omega) (by omega)]) (by rw [fr 251 (by omega) (by omega)]) (by rw [fr 251 (by omega) (by omega)]) (Or.inr ⟨wr_at _ _ _ _, hF⟩), fr, fr0⟩
    rw [if_pos r13, show X4_lookAt (0 + 175) (0 + 22) σ = some σ1 from e1, ob_some]
  · refine ⟨σ, ?_, r14, h', fun _ _ _ => rfl, fun _ _ => rfl⟩
    rw [if_neg (by rw [r13]; decide)]
