/-! PURE: drawn. -/
theorem far_upd {B : Nat → Nat} {p c v x y : Nat} (hc : c < 4) (hx : x ≠ p) (hy : y ≠ p) : far (updB B (3 + 4 * p + c) v) x y = far B x y := by
  unfold far
  rw [updB_ne _ _ (show 3 + 4 * x ≠ 3 + 4 * p + c by omega), updB_ne _ _ (show 4 + 4 * x ≠ 3 + 4 * p + c by omega), updB_ne _ _ (show 4 + 4 * x + 1 ≠ 3 + 4 * p + c by omega), updB_ne _ _ (show 4 + 4 * x + 2 ≠ 3 + 4 * p + c by omega), updB_ne _ _ (show 3 + 4 * y ≠ 3 + 4 * p + c by omega), updB_ne _ _ (show 4 + 4 * y ≠ 3 + 4 * p + c by omega), updB_ne _ _ (show 4 + 4 * y + 1 ≠ 3 + 4 * p + c by omega), updB_ne _ _ (show 4 + 4 * y + 2 ≠ 3 + 4 * p + c by omega)]
/-- a trial: one number of one page is another, and the gaps are looked at again -/
theorem tri_s {B : Nat → Nat} {p c v : Nat} (hp : p < B 0) (hc : c < 4) (ho : okB (updB B (3 + 4 * p + c) v)) (σ : Mem) (hA : AtB σ 212 B) (hG : Gp σ 219 (B 0) (far B)) : ∃ σ', X5_surveyFrom 219 212 (nI p) (wr σ (cl 212 c) p (nI v)) = some σ' ∧ AtB σ' 212 (updB B (3 + 4 * p + c) v) ∧ Gp σ' 219 (B 0) (far (updB B (3 + 4 * p + c) v)) ∧ ∀ q, (q < 212 ∨ (218 ≤ q ∧ q < 221) ∨ 231 ≤ q) → σ' q = σ q := by
  have g1 := cl_ge 212 c
  have g2 := cl_lt 212 c hc
  have e0 : updB B (3 + 4 * p + c) v 0 = B 0 := updB_ne _ _ (by omega)
  have hn := ho.1
  rw [e0] at hn
  have hA2 := AtB_upd p c v hA hp hc
  obtain ⟨σ', e1, e2, e3⟩ := sfrom_s 219 212 (by omega) (updB B (3 + 4 * p + c) v) ho p (by rw [e0]; exact hp) (wr σ (cl 212 c) p (nI v)) (by rw [wr_off _ _ _ (by omega), e0]; exact hG.1) hA2
  rw [e0] at e2
  refine ⟨σ', e1, AtB.cg hA2 (fun q a b => e3 q (by omega)), ⟨by rw [e3 219 (by omega), wr_off _ _ _ (by omega)]; exact hG.1, fun x y hx hy => ?_⟩, fun q hq => by rw [e3 q (by omega), wr_off _ _ _ (by omega)]⟩
  rw [e2 x y hx hy]
  by_cases d : x = p ∨ y = p
  · rw [if_pos d]
  · rw [if_neg d, wr_off _ _ _ (by omega), hG.2 x y hx hy, far_upd hc (by omega) (by omega)]
theorem draw_l {N : Nat} (hN : N ≤ 20) : ∀ (d i x m1 m2 : Nat) (B : Nat → Nat) (acc : Int32) (σ : Mem), i + d = N → d < m1 → d < m2 → x < 2 ^ 31 → okB B → 0 < B 0 → AtB σ 212 B → Gp σ 219 (B 0) (far B) → ∃ acc' σ' B'', X3_draw_l45 m1 211 (nI N) (lN x) acc (nI i) σ = some (acc', σ') ∧ okB B'' ∧ B'' 0 = B 0 ∧ Gp σ' 219 (B 0) (far B'') ∧ AtB σ' 212 B'' ∧ (∀ q, (q < 211 ∨ 237 ≤ q) → σ' q = σ q) ∧ ∀ (v3 : Int32) (τ : Mem), RwB (τ 257) 0 B → ∃ τ', X12_drawn_l61 m2 251 (nI N) v3 (lN x) acc (nI i) τ = (if v3 = 0 then some (acc', τ') else some (nI (wid (far B'') (B 0) (2 ^ B 0 - 1)), τ')) ∧ ∀ q, q ≠ 257 → (q < 261 ∨ 266 ≤ q) → τ' q = τ q := by
  intro d
  induction d with
  | zero =>
    intro i x m1 m2 B acc σ hi h1 h2 hx ho hn0 hA hG
    obtain ⟨m1, rfl⟩ : ∃ m', m1 = m' + 1 := ⟨m1 - 1, by omega⟩
    obtain ⟨m2, rfl⟩ : ∃ m', m2 = m' + 1 := ⟨m2 - 1, by omega⟩
    have hn := ho.1
    refine ⟨acc, σ, B, ?_, ho, rfl, hG, hA, fun q _ => rfl, fun v3 τ hR => ⟨τ, ?_, fun q _ _ => rfl⟩⟩
    · show X3_draw_b45 _ 211 (nI N) (lN x) acc (nI i) σ = _
      unfold X3_draw_b45
      rw [if_pos (nI_le (by omega) (by omega))]
    · have h2n : 2 ^ B 0 ≤ 2 ^ 10 := Nat.pow_le_pow_right (by omega) hn
      show X12_drawn_b61 _ 251 (nI N) v3 (lN x) acc (nI i) τ = _
      unfold X12_drawn_b61
      rw [if_pos (nI_le (by omega) (by omega)), show X12_allOf (251 + 6) τ = _ from allOf_s hn (hR 0 (by omega)), ob_some, show X12_spreadOf (251 + 6) (nI (2 ^ B 0 - 1)) τ = _ from spread_s hR ho _ (by omega), ob_some]
  | succ d ih =>
    intro i x m1 m2 B acc σ hi h1 h2 hx ho hn0 hA hG
    obtain ⟨m1, rfl⟩ : ∃ m', m1 = m' + 1 := ⟨m1 - 1, by omega⟩
    obtain ⟨m2, rfl⟩ : ∃ m', m2 = m' + 1 := ⟨m2 - 1, by omega⟩
    have hn := ho.1
    have hl := ho.2.1
    -- the next number, and what it tells
    have hx' : x * 16807 % 2147483647 < 2147483647 := Nat.mod_lt _ (by omega)
    generalize hX : x * 16807 % 2147483647 = X at hx'
    have hp : X % B 0 < B 0 := Nat.mod_lt _ hn0
    have hw : X / 16 % 3 < 3 := Nat.mod_lt _ (by omega)
    have hv : X / 64 % 31 < 31 := Nat.mod_lt _ (by omega)
    generalize hP : X % B 0 = p at hp
    generalize hW : X / 16 % 3 = w at hw
    generalize hV : X / 64 % 31 = v at hv
    have ho' : okB (updB B (3 + 4 * p + (w + 1)) v) := okB_upd p (w + 1) v ho (by omega)
    have e0 : updB B (3 + 4 * p + (w + 1)) v 0 = B 0 := updB_ne _ _ (by omega)
    have e1 : updB B (3 + 4 * p + (w + 1)) v 1 = B 1 := updB_ne _ _ (by omega)
    obtain ⟨σ1, a1, a2, a3, a4⟩ := tri_s hp (show w + 1 < 4 by omega) ho' σ hA hG
    obtain ⟨σ2, b1, b2, b3, b4⟩ := find_s (k := 218) hn (fun a b ha hb => far20 ho' a b (by rw [e0]; exact ha) (by rw [e0]; exact hb)) (far_comm _) (far_self _) (B 1) (by omega) σ1 a3
    rcases b2.2 with ⟨c0, _⟩ | ⟨_, kk, hh, c1, c2, c3⟩
    · omega
    have hA2 : AtB σ2 212 (updB B (3 + 4 * p + (w + 1)) v) := AtB.cg a2 (fun q x y => b3 q (by omega) (by omega) (by omega) (by omega))
    have hG2 : Gp σ2 219 (B 0) (far (updB B (3 + 4 * p + (w + 1)) v)) := ⟨by rw [b3 219 (by omega) (by omega) (by omega) (by omega)]; exact a3.1, fun x y hx hy => by rw [b3 (219 + 2 + x) (by omega) (by omega) (by omega) (by omega)]; exact a3.2 x y hx hy⟩
    obtain ⟨acc', σ', B'', q1, q2, q3, q4, q5, q6, q7⟩ := ih (i + 1) X m1 m2 (updB B (3 + 4 * p + (w + 1)) v) (acc + nI kk) σ2 (by omega) (by omega) (by omega) (by omega) ho' (by rw [e0]; exact hn0) hA2 (by rw [e0]; exact hG2)
    rw [e0] at q3 q4 q7
    have hnum : lrm (lN x * 16807) 2147483647 = lN X := by
      rw [show (16807 : Int64) = lN 16807 from rfl, lM, show (2147483647 : Int64) = lN 2147483647 from rfl, lR (by omega) (by omega), hX]
    have h16 : Int64.toInt32 (lrm (lN X / 16) 3) = nI w := by
      rw [show (16 : Int64) = lN 16 from rfl, lD (by omega) (by omega), show (3 : Int64) = lN 3 from rfl, lR (by omega) (by omega), lI, hW]
    have h64 : Int64.toInt32 (lrm (lN X / 64) 31) = nI v := by
      rw [show (64 : Int64) = lN 64 from rfl, lD (by omega) (by omega), show (31 : Int64) = lN 31 from rfl, lR (by omega) (by omega), lI, hV]
    have hpg : Int64.toInt32 (lrm (lN X) (lN (B 0))) = nI p := by
      rw [lR (by omega) (by omega), lI, hP]
    have hcl : cl 212 (w + 1) = 211 + 1 + 2 + 1 + w := by rw [cl_s]
    refine ⟨acc', σ', B'', ?_, q2, q3, q4, q5, fun q hq => by rw [q6 q hq, b3 q (by omega) (by omega) (by omega) (by omega), a4 q (by omega)], fun v3 τ hR => ?_⟩
    · show X3_draw_b45 _ 211 (nI N) (lN x) acc (nI i) σ = _
      unfold X3_draw_b45
      rw [if_neg (show ¬ nI N ≤ nI i by rw [nI_le_iff (by omega) (by omega)]; omega), letv_eq, hnum, show σ (211 + 1) 0 = nI (B 0) from hA.1, lL (B 0) (by omega), gdl_n hn0 (by omega), letv_eq, hpg, letv_eq, h16, h64, gdx_n (by omega) (by omega), gdx_n (by omega) (by omega), nc_n (by omega), nc_n (by omega), ← hcl, show X5_surveyFrom (211 + 7 + 1) (211 + 1) (nI p) (wr σ (cl 212 (w + 1)) p (nI v)) = some σ1 from a1, ob_some, show σ1 (211 + 1) 1 = nI (B 1) from a2.2.1.trans (by rw [e1]), show X6_findFor (211 + 7) (nI (B 1)) σ1 = some σ2 from b1, ob_some, letv_eq, show σ2 (211 + 7) 3 = nI kk from c3, nI_1]
      exact q1
    · have hR' : RwB (wr τ 257 (3 + 4 * p + (w + 1)) (nI v) 257) 0 (updB B (3 + 4 * p + (w + 1)) v) := by
        rw [wr_row]
        exact RwB_upd _ v hR (by omega)
      obtain ⟨τ1, kk', h', g1, g2, g3, g4, g5⟩ := hands_s (k1 := 257) (by omega) ho' (by rw [e0]; exact hn0) (B 1) (by omega) (wr τ 257 (3 + 4 * p + (w + 1)) (nI v)) hR' (by
        have := hR' 1 (by omega)
        rw [Nat.zero_add, e1] at this
        exact this)
      rw [e0] at g2
      obtain ⟨u1, _⟩ := HOK_uniq g2 c1
      subst u1
      obtain ⟨τ', t1, t2⟩ := q7 v3 τ1 (by rw [g5 257 (by omega)]; exact hR')
      refine ⟨τ', ?_, fun q y1 y2 => by rw [t2 q y1 y2, g5 q (by omega), wr_off _ _ _ y1]⟩
      rw [← t1]
      show X12_drawn_b61 _ 251 (nI N) v3 (lN x) acc (nI i) τ = _
      unfold X12_drawn_b61
      rw [if_neg (show ¬ nI N ≤ nI i by rw [nI_le_iff (by omega) (by omega)]; omega), letv_eq, hnum, show τ (251 + 6) (nc 0) = nI (B 0) from hR 0 (by omega), lL (B 0) (by omega), gdl_n hn0 (by omega), letv_eq, hpg, letv_eq, h16, h64, show (3 : Int32) = nI 3 from rfl, show (4 : Int32) = nI 4 from rfl, nI_mul, nI_add, nI_1, nI_add, gdx_n (by omega) (by omega), nc_n (by omega), show 3 + 4 * p + 1 + w = 3 + 4 * p + (w + 1) by omega, show X12_layHands 251 (251 + 6) (wr τ (251 + 6) (3 + 4 * p + (w + 1)) (nI v)) = _ from g1, ob2_some, letv_eq, nI_1]
theorem op_drawn (σ : Mem) (h : InvF FOK σ) (v1 v2 v3 : Int32) : ∃ (r : Int32) (σ1 σ2 : Mem), X11_drawn 0 v1 v2 v3 σ = some (r, σ1) ∧ X12_drawn 251 v1 v2 v3 σ1 = some (r, σ2) ∧ InvF FOK σ2 := by
  have hI := h
  obtain ⟨B, m, L, I, h⟩ := h
  obtain ⟨r6, r7, r8⟩ := ref_rb h
  have n1 : σ 22 0 = nI (B 0) := r7.1
  have n2 : σ 255 0 = nI (B 0) := r8 0 (by omega)
  have hn := r6.1
  unfold X11_drawn X11_drawn_b0 X12_drawn X12_drawn_b0
  rcases there (B 0) hn with ⟨c0, t1, t2⟩ | ⟨c0, t1, t2⟩
  · exact ⟨-1000002, σ, σ, by rw [t1 σ n1]; rfl, by rw [t2 σ n2]; rfl, hI⟩
  rw [t1 σ n1, if_pos rfl]
  rcases in_r v1 0 20 (by omega) (by omega) with ⟨N, a1, a2, rfl, a3⟩ | ⟨a3, a4⟩
  · have a3' : X12_in (nI N).toInt64 0 20 = 1 := a3
    rw [if_neg (nI_nn (by omega)), if_neg (show ¬ (20 : Int32) < nI N from nI_nlt (a := 20) (by omega) (by omega))]
    rcases in_r v2 1 999999 (by omega) (by omega) with ⟨x, b1, b2, rfl, b3⟩ | ⟨b3, b4⟩
    · have b3' : X12_in (nI x).toInt64 1 999999 = 1 := b3
      rw [if_neg (show ¬ nI x < 1 by rw [show (1 : Int32) = nI 1 from rfl, nI_lt_iff (by omega) (by omega)]; omega), if_neg (show ¬ (999999 : Int32) < nI x from nI_nlt (a := 999999) (by omega) (by omega))]
      rcases in_r v3 0 1 (by omega) (by omega) with ⟨w, d1, d2, rfl, d3⟩ | ⟨d3, d4⟩
      · have d3' : X12_in (nI w).toInt64 0 1 = 1 := d3
        rw [if_neg (nI_nn (by omega)), if_pos (show nI w ≤ 1 from nI_le (b := 1) (by omega) (by omega))]
        obtain ⟨σa, e1, e2, e3⟩ := like_s 212 22 (by omega) σ B r7 hn
        obtain ⟨σb, f1, f2, f3, f4⟩ := survey_s 219 212 (by omega) B r6 σa e2
        have hA : AtB σb 212 B := AtB.cg e2 (fun q y z => f3 q (by omega))
        obtain ⟨acc, σc, B'', q1, q2, q3, q4, q5, q6, q7⟩ := draw_l (N := N) a2 N 0 x FU FU B 0 σb (by omega) (by unfold FU; omega) (by unfold FU; omega) (by omega) r6 c0 hA f2
        have fr : ∀ q, (q < 211 ∨ 237 ≤ q) → σc q = σ q := fun q hq => by rw [q6 q hq, f3 q (by omega), e3 q (by omega)]
        have hR : RwB (σc 255) 0 B := by rw [fr 255 (by omega)]; exact r8
        have n3 : σc 255 0 = nI (B 0) := hR 0 (by omega)
        obtain ⟨τ, g1, g2, g3⟩ := then_s hn hR
        obtain ⟨τ', k1, k2⟩ := q7 (nI w) τ g2
        have hI2 : InvF FOK τ' := ⟨B, m, L, I, Ref.fore h (fun q hq => by rw [k2 q (by omega) (by omega), g3 q (by omega), fr q (by omega)])⟩
        have hdraw : X3_draw (0 + 211) (0 + 22) (nI N) (nI x) σ = some (acc, σc) := by
          unfold X3_draw X3_draw_b0
          rw [show X2_becomeLike (0 + 211 + 1) (0 + 22) σ = some σa from e1, ob_some, show X5_survey (0 + 211 + 7 + 1) (0 + 211 + 1) σa = some σb from f1, ob_some, show σb (0 + 211 + 1) 0 = nI (B 0) from hA.1, if_pos (show (1 : Int32) ≤ nI (B 0) from nI_le (a := 1) (by omega) (by omega)), letv_eq, lL x (by omega)]
          exact q1
        have hmod : X12_drawn_b0 251 (nI N) (nI x) (nI w) σc = if nI w = 0 then some (acc, τ') else some (nI (wid (far B'') (B 0) (2 ^ B 0 - 1)), τ') := by
          unfold X12_drawn_b0
          rw [t2 _ n3, ob_some, if_neg (by decide), a3', if_neg (by decide), b3', if_neg (by decide), d3', if_neg (by decide), g1, ob_some, letv_eq, lL x (by omega)]
          exact k1
        unfold X12_drawn_b0 at hmod
        rw [hdraw, ob2_some]
        rcases (show w = 0 ∨ w = 1 by omega) with rfl | rfl
        · exact ⟨acc, σc, τ', by rw [if_pos (show nI 0 = 0 from rfl)], by rw [hmod, if_pos (show nI 0 = 0 from rfl)], hI2⟩
        · refine ⟨nI (wid (far B'') (B 0) (2 ^ B 0 - 1)), σc, τ', ?_, by rw [hmod, if_neg (show ¬ nI 1 = 0 by decide)], hI2⟩
          have h2n : 2 ^ B 0 ≤ 2 ^ 10 := Nat.pow_le_pow_right (by omega) hn
          rw [if_neg (show ¬ nI 1 = 0 by decide)]
          unfold X3_spreadOfAll X3_spreadOfAll_b0
          rw [show σc (0 + 211 + 1) 0 = nI (B 0) from q5.1.trans (by rw [q3]), shl_1 (B 0) (by omega), nI_p1 Nat.one_le_two_pow, show X5_widest (0 + 211 + 7 + 1) (nI (2 ^ B 0 - 1)) σc = _ from widest_s q4 hn (fun a b ha hb => far20 q2 a b (by rw [q3]; exact ha) (by rw [q3]; exact hb)) _ (by omega), ob_some, ob_some]
      · have d3' : X12_in v3.toInt64 0 1 = 0 := d3
        refine ⟨-1000001, σ, σ, ?_, by rw [t2 σ n2, ob_some, if_neg (by decide), a3', if_neg (by decide), b3', if_neg (by decide), d3', if_pos rfl], hI⟩
        rcases d4 with d4 | d4
        · rw [if_pos (show v3 < 0 from d4)]
        · rw [if_neg (show ¬ v3 ≤ 1 from fun q => Int32.not_lt.mpr q d4)]
          split <;> rfl
    · have b3' : X12_in v2.toInt64 1 999999 = 0 := b3
      refine ⟨-1000001, σ, σ, ?_, by rw [t2 σ n2, ob_some, if_neg (by decide), a3', if_neg (by decide), b3', if_pos rfl], hI⟩
      rcases b4 with b4 | b4
      · rw [if_pos (show v2 < 1 from b4)]
      · rw [if_pos (show (999999 : Int32) < v2 from b4)]
        split <;> rfl
  · have a3' : X12_in v1.toInt64 0 20 = 0 := a3
    refine ⟨-1000001, σ, σ, ?_, by rw [t2 σ n2, ob_some, if_neg (by decide), a3', if_pos rfl], hI⟩
    rcases a4 with a4 | a4
    · rw [if_pos (show v1 < 0 from a4)]
    · rw [if_pos (show (20 : Int32) < v1 from a4)]
      split <;> rfl
