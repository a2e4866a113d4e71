/-! PURE: page, apart, spread, pairs, sign, hand, run. -/
theorem Ref.mdl {σ σ' : Mem} {B : Nat → Nat} {m : Nat} {L I : Nat → Nat → Nat} (h : Ref FOK σ B m L I) (fr : ∀ q, q ≠ 251 → (q < 256 ∨ 268 ≤ q ∨ q = 258 ∨ q = 259) → σ' q = σ q) (fj : ∀ j, j ≠ 25 → j ≠ 27 → σ' 251 j = σ 251 j) : Ref FOK σ' B m L I := by
  have h' := h
  obtain ⟨_, _, _, _, _, _, _, _, _, _, _, _, r13⟩ := h
  exact Ref.sc h' (fun q a b c d => fr q b (by unfold Scr at d; omega)) (by rw [fr 0 (by omega) (by omega)]) (by rw [fr 0 (by omega) (by omega)]) (fj 0 (by omega) (by omega)) (fj 8 (by omega) (by omega)) (fj 10 (by omega) (by omega)) (fj 17 (by omega) (by omega)) (fj 31 (by omega) (by omega)) (Fsh.cg FOK_loc r13 (by rw [fr 0 (by omega) (by omega)]) (fun q a b => fr q (by omega) (by omega)))
theorem bit_val {m p : Nat} (hm : m < 2 ^ 31) (hp : p < 31) : (shr (nI m) (nI p) &&& 1) = if m.testBit p then 1 else 0 := by
  rw [shr_n hm hp, show (1 : Int32) = nI 1 from rfl, nI_and, Nat.and_one_is_mod, Nat.testBit_eq_decide_div_mod_eq]
  have h2 : m / 2 ^ p % 2 < 2 := Nat.mod_lt _ (by omega)
  by_cases c : m / 2 ^ p % 2 = 1
  · rw [c]
    rfl
  · rw [show m / 2 ^ p % 2 = 0 by omega]
    rfl
/-- the facts of a book, after a look -/
theorem ref_rb {σ : Mem} {B : Nat → Nat} {m : Nat} {L I : Nat → Nat → Nat} (h : Ref FOK σ B m L I) : okB B ∧ AtB σ 22 B ∧ RwB (σ 255) 0 B := ⟨h.2.2.2.2.2.1, h.2.2.2.2.2.2.1, h.2.2.2.2.2.2.2.1⟩
theorem op_page (σ : Mem) (h : InvF FOK σ) (v1 v2 : Int32) : ∃ (r : Int32) (σ1 σ2 : Mem), X11_page 0 v1 v2 σ = some (r, σ1) ∧ X12_page 251 v1 v2 σ1 = some (r, σ2) ∧ InvF FOK σ2 := by
  have hI := h
  obtain ⟨B, m, L, I, h⟩ := h
  obtain ⟨r6, r7, r8⟩ := ref_rb h
  have n1 : σ 22 0 = nI (B 0) := r7.1
  have n2 : σ 255 0 = nI (B 0) := r8 0 (by omega)
  have hn := r6.1
  unfold X11_page X11_page_b0 X12_page X12_page_b0
  rcases pgs v1 (B 0) hn with ⟨p, hp, rfl, t1, t2⟩ | ⟨t1, t2⟩
  · rw [t1 σ n1, if_neg (by decide)]
    rcases in_r v2 0 6 (by omega) (by omega) with ⟨w, a1, a2, rfl, a3⟩ | ⟨a3, a4⟩
    · rw [if_neg (nI_nn (by omega)), if_pos (show nI w ≤ 6 from nI_le (b := 6) (by omega) (by omega))]
      by_cases c : w ≤ 2
      · -- a measure
        rw [if_neg (show ¬ (2 : Int32) < nI w from nI_nlt (a := 2) (by omega) (by omega)), gdx_n (by omega) (by omega), gdx_n (by omega) (by omega), nc_n (by omega), nc_n (by omega)]
        have e1 : σ (0 + 22 + 2 + 1 + w) p = nI (B (4 + 4 * p + w)) := (r7.2.2.2 p hp).2 w (by omega)
        have e2 := r8 (4 + 4 * p + w) (by omega)
        rw [show 0 + (4 + 4 * p + w) = 4 + 4 * p + w by omega] at e2
        have e3 : X12_page_b56 251 (nI p) (nI w) σ = some (nI (B (4 + 4 * p + w)), σ) := by
          unfold X12_page_b56
          rw [show (3 : Int32) = nI 3 from rfl, show (4 : Int32) = nI 4 from rfl, nI_mul, nI_add, nI_1, nI_add, gdx_n (by omega) (by omega), nc_n (by omega), show 3 + 4 * p + 1 + w = 4 + 4 * p + w by omega, show σ (251 + 4) (4 + 4 * p + w) = _ from e2]
        refine ⟨_, σ, σ, by rw [e1], ?_, hI⟩
        rw [t2 σ n2, ob_some, if_neg (by decide), e3]
        rcases (show w = 0 ∨ w = 1 ∨ w = 2 by omega) with rfl | rfl | rfl <;> rfl
      · rw [if_pos (show (2 : Int32) < nI w from nI_lt (a := 2) (by omega) (by omega))]
        obtain ⟨σ1, l1, l2, l3, l4, l5⟩ := look_s h
        obtain ⟨q6, q7, q8⟩ := ref_rb l3
        have n3 : σ1 255 0 = nI (B 0) := q8 0 (by omega)
        rw [l1, ob_some]
        obtain ⟨_, f1, f2, f3⟩ := l2
        rcases f3 with ⟨f3, _⟩ | ⟨hn0, kk, h, M, f, mm, D, k1, k2, k3, k4, k5, k6, k7, k8, k9, k10, k11, k12, k13⟩
        · omega
        have hkk := hands_le (nrM_rf (far_self B)) k1
        have hl := q6.2.1
        have hhp : ∀ q, q < B 0 → h q < 2 ^ 31 := fun q hq => by have := k1.1.1.1 q hq; omega
        rcases (show w = 3 ∨ w = 4 ∨ w = 5 ∨ w = 6 by omega) with rfl | rfl | rfl | rfl
        · obtain ⟨σ2, f', m', g1, g2, g3, g4, g5⟩ := mgrp_s q6 hn0 q8
          obtain ⟨u1, u2⟩ := ChE_uniq k7 g2
          have hRP := (Chn_ok hn g2.1 m' (Nat.le_refl _)).1
          refine ⟨nI (f mm p), σ1, σ2, ?_, ?_, ⟨B, m, L, I, Ref.mdl l3 (fun q x y => g5 q (by omega)) (fun j _ _ => by rw [g5 251 (by omega)])⟩⟩
          · rw [if_pos (show nI 3 = 3 from rfl), gdx_n (by omega) (by omega), nc_n (by omega), show σ1 (0 + 175 + 23) p = _ from k9 p hp]
          · rw [t2 _ n3, ob_some, if_neg (by decide), if_neg (show ¬ nI 3 = 0 by decide), if_neg (show ¬ nI 3 = 1 by decide), if_neg (show ¬ nI 3 = 2 by decide), if_pos (show nI 3 = 3 from rfl), g1, ob2_some]
            have e := gof_l hn hp hRP (show σ2 255 0 = nI (B 0) by rw [g5 255 (by omega)]; exact n3) g4 (B 0) 0 FU 0 (by omega) (by unfold FU; omega) (fun q => by omega)
            rw [show X12_groupOf 251 (nI p) σ2 = some (nI (f' m' p)) from e, ob_some, u2]
        · obtain ⟨σ2, kk', h', g1, g2, g3, g4, g5⟩ := hands_s (k1 := 255) (by omega) q6 hn0 (B 1) (by omega) σ1 q8 (q8 1 (by omega))
          obtain ⟨u1, u2⟩ := HOK_uniq g2 k1
          refine ⟨nI (h p), σ1, σ2, ?_, ?_, ⟨B, m, L, I, Ref.mdl l3 (fun q x y => g5 q (by omega)) (fun j _ _ => by rw [g5 251 (by omega)])⟩⟩
          · rw [if_neg (show ¬ nI 4 = 3 by decide), if_pos (show nI 4 = 4 from rfl), gdx_n (by omega) (by omega), nc_n (by omega), show σ1 (0 + 175 + 1 + 14) p = _ from k2.1 p hp]
          · rw [t2 _ n3, ob_some, if_neg (by decide), if_neg (show ¬ nI 4 = 0 by decide), if_neg (show ¬ nI 4 = 1 by decide), if_neg (show ¬ nI 4 = 2 by decide), if_neg (show ¬ nI 4 = 3 by decide), if_pos (show nI 4 = 4 from rfl), show X12_layHands 251 (251 + 4) σ1 = _ from g1, ob2_some, gdx_n (by omega) (by omega), nc_n (by omega), show σ2 (251 + 13) p = _ from g3 p hp, u2 p hp]
        · obtain ⟨σ2, kk', h', g1, g2, g3, g4, g5⟩ := hands_s (k1 := 255) (by omega) q6 hn0 (B 1) (by omega) σ1 q8 (q8 1 (by omega))
          obtain ⟨u1, u2⟩ := HOK_uniq g2 k1
          subst u1
          have hD10 := k11.1
          refine ⟨if D.testBit p then 1 else 0, σ1, σ2, ?_, ?_, ⟨B, m, L, I, Ref.mdl l3 (fun q x y => g5 q (by omega)) (fun j _ _ => by rw [g5 251 (by omega)])⟩⟩
          · rw [if_neg (show ¬ nI 5 = 3 by decide), if_neg (show ¬ nI 5 = 4 by decide), if_pos (show nI 5 = 5 from rfl), show σ1 (0 + 175) 5 = _ from k12, bit_val (by omega) (by omega)]
          · rw [t2 _ n3, ob_some, if_neg (by decide), if_neg (show ¬ nI 5 = 0 by decide), if_neg (show ¬ nI 5 = 1 by decide), if_neg (show ¬ nI 5 = 2 by decide), if_neg (show ¬ nI 5 = 3 by decide), if_neg (show ¬ nI 5 = 4 by decide), if_pos (show nI 5 = 5 from rfl), show X12_layHands 251 (251 + 4) σ1 = _ from g1, ob2_some, idb_s (h := h) (N := nrN (far B) (B 0) (B 1)) hn (by omega) (show σ2 255 0 = nI (B 0) by rw [g5 255 (by omega)]; exact n3) (fun q hq => ⟨by rw [g3 q hq, u2 q hq], hhp q hq⟩) (fun q hq => nrN_lt (far B) hn hq) g4 (Dbt_nr (nrNM (far B) (B 0) (B 1)) k11) p hp, ob_some]
            cases D.testBit p <;> rfl
        · obtain ⟨σ2, M', g1, g2, g3, g4, g5, g6, g7⟩ := mruns_s q8 q6 hn0
          have eM := OptM_uniq g2 k4
          subst eM
          refine ⟨nI (cn (B 0) M' p), σ1, σ2, ?_, ?_, ⟨B, m, L, I, Ref.mdl l3 (fun q x y => g6 q x (by omega)) (fun j x _ => g7 j x)⟩⟩
          · rw [if_neg (show ¬ nI 6 = 3 by decide), if_neg (show ¬ nI 6 = 4 by decide), if_neg (show ¬ nI 6 = 5 by decide), gdx_n (by omega) (by omega), nc_n (by omega), show σ1 (0 + 175 + 17 + 5) p = _ from k5.2.2.2 p hp]
          · have hcp := cn_le (B 0) M' p
            rw [t2 _ n3, ob_some, if_neg (by decide), if_neg (show ¬ nI 6 = 0 by decide), if_neg (show ¬ nI 6 = 1 by decide), if_neg (show ¬ nI 6 = 2 by decide), if_neg (show ¬ nI 6 = 3 by decide), if_neg (show ¬ nI 6 = 4 by decide), if_neg (show ¬ nI 6 = 5 by decide), if_pos (show nI 6 = 6 from rfl), g1, ob2_some, show X12_runOf 251 (nI p) (nI (cn (B 0) M' (B 0) + 1)) σ2 = _ from runOf_l hn hp g4 (cn (B 0) M' p) 0 FU (by omega) (by unfold FU; omega), ob_some]
    · refine ⟨-1000001, σ, σ, ?_, ?_, hI⟩
      · rcases a4 with a4 | a4
        · rw [if_pos (show v2 < 0 from a4)]
        · rw [if_neg (show ¬ v2 ≤ 6 from fun q => Int32.not_lt.mpr q a4)]
          split <;> rfl
      · have hne : ∀ w : Nat, w ≤ 6 → ¬ v2 = nI w := fun w hw q => by
          rcases a4 with a4 | a4
          · rw [q] at a4
            exact nI_nn (show w < 2 ^ 31 by omega) a4
          · rw [q, nI_lt_iff (by omega) (by omega)] at a4
            omega
        rw [t2 σ n2, ob_some, if_neg (by decide), if_neg (show ¬ v2 = 0 from hne 0 (by omega)), if_neg (show ¬ v2 = 1 from hne 1 (by omega)), if_neg (show ¬ v2 = 2 from hne 2 (by omega)), if_neg (show ¬ v2 = 3 from hne 3 (by omega)), if_neg (show ¬ v2 = 4 from hne 4 (by omega)), if_neg (show ¬ v2 = 5 from hne 5 (by omega)), if_neg (show ¬ v2 = 6 from hne 6 (by omega))]
  · exact ⟨-1000001, σ, σ, by rw [t1 σ n1, if_pos rfl], by rw [t2 σ n2, ob_some, if_pos rfl], hI⟩
theorem op_apart (σ : Mem) (h : InvF FOK σ) (v1 v2 : Int32) : ∃ (r : Int32) (σ1 : Mem), X11_apart 0 v1 v2 σ = some (r, σ1) ∧ X12_apart 251 v1 v2 σ1 = some r ∧ InvF FOK σ1 := by
  have hI := h
  obtain ⟨B, m, L, I, h⟩ := h
  obtain ⟨r6, r7, r8⟩ := ref_rb h
  have n1 : σ 22 0 = nI (B 0) := r7.1
  have n2 : σ 255 0 = nI (B 0) := r8 0 (by omega)
  have hn := r6.1
  unfold X11_apart X11_apart_b0 X12_apart X12_apart_b0
  rcases pgs v1 (B 0) hn with ⟨p, hp, rfl, t1, t2⟩ | ⟨t1, t2⟩
  · rw [t1 σ n1, if_neg (by decide)]
    rcases pgs v2 (B 0) hn with ⟨p2, hp2, rfl, w1, w2⟩ | ⟨w1, w2⟩
    · rw [w1 σ n1, if_neg (by decide)]
      by_cases c : p = p2
      · exact ⟨-1000001, σ, by rw [c, if_pos rfl], by rw [t2 σ n2, ob_some, if_neg (by decide), w2 σ n2, ob_some, if_neg (by decide), c, if_pos rfl], hI⟩
      · have cc : ¬ nI p = nI p2 := fun q => c ((nI_inj (by omega) (by omega)).mp q)
        obtain ⟨σ1, l1, l2, l3, l4, l5⟩ := look_s h
        obtain ⟨q6, q7, q8⟩ := ref_rb l3
        have n3 : σ1 255 0 = nI (B 0) := q8 0 (by omega)
        refine ⟨nI (far B p p2), σ1, ?_, ?_, ⟨B, m, L, I, l3⟩⟩
        · rw [if_neg cc, l1, ob_some, gdx_n (by omega) (by omega), gdx_n (by omega) (by omega), nc_n (by omega), nc_n (by omega), show σ1 (0 + 175 + 1 + 1 + 1 + 1 + p) p2 = _ from l2.2.1.2 p p2 hp hp2]
        · rw [t2 _ n3, ob_some, if_neg (by decide), w2 _ n3, ob_some, if_neg (by decide), if_neg cc, show X12_farOf (251 + 4) (nI p) (nI p2) σ1 = _ from farOf_s q8 q6 hp hp2 c, ob_some]
    · exact ⟨-1000001, σ, by rw [w1 σ n1, if_pos rfl], by rw [t2 σ n2, ob_some, if_neg (by decide), w2 σ n2, ob_some, if_pos rfl], hI⟩
  · exact ⟨-1000001, σ, by rw [t1 σ n1, if_pos rfl], by rw [t2 σ n2, ob_some, if_pos rfl], hI⟩
theorem far20 {B : Nat → Nat} (ho : okB B) : ∀ x y, x < B 0 → y < B 0 → far B x y < 2 ^ 20 := fun x y hx hy => by have := far_le ho hx hy; omega
theorem op_spread (σ : Mem) (h : InvF FOK σ) (v1 : Int32) : ∃ (r : Int32) (σ1 : Mem), X11_spread 0 v1 σ = some (r, σ1) ∧ X12_spread 251 v1 σ1 = some r ∧ InvF FOK σ1 := by
  have hI := h
  obtain ⟨B, m, L, I, h⟩ := h
  obtain ⟨r6, r7, r8⟩ := ref_rb h
  have n1 : σ 22 0 = nI (B 0) := r7.1
  have n2 : σ 255 0 = nI (B 0) := r8 0 (by omega)
  have hn := r6.1
  have h2n : 2 ^ B 0 ≤ 2 ^ 10 := Nat.pow_le_pow_right (by omega) hn
  have h2p : 1 ≤ 2 ^ B 0 := Nat.one_le_two_pow
  unfold X11_spread X11_spread_b0 X12_spread X12_spread_b0
  rcases there (B 0) hn with ⟨c0, t1, t2⟩ | ⟨c0, t1, t2⟩
  · exact ⟨-1000002, σ, by rw [t1 σ n1]; rfl, by rw [t2 σ n2]; rfl, hI⟩
  have h22 : 2 ^ 1 ≤ 2 ^ B 0 := Nat.pow_le_pow_right (by omega) c0
  rw [t1 σ n1, if_pos rfl, show σ (0 + 22) 0 = _ from n1, shl_1 (B 0) (by omega)]
  rcases in_r v1 1 (2 ^ B 0 - 1) (by omega) (by omega) with ⟨S, a1, a2, rfl, a3⟩ | ⟨a3, a4⟩
  · obtain ⟨σ1, l1, l2, l3, l4, l5⟩ := look_s h
    obtain ⟨q6, q7, q8⟩ := ref_rb l3
    have n3 : σ1 255 0 = nI (B 0) := q8 0 (by omega)
    refine ⟨nI (wid (far B) (B 0) S), σ1, ?_, ?_, ⟨B, m, L, I, l3⟩⟩
    · rw [if_neg (show ¬ nI S < 1 by rw [show (1 : Int32) = nI 1 from rfl, nI_lt_iff (by omega) (by omega)]; omega), if_pos (nI_lt (by omega) (by omega)), l1, ob_some, show X5_widest (0 + 175 + 1 + 1) (nI S) σ1 = _ from widest_s l2.2.1 hn (far20 q6) S (by omega), ob_some]
    · rw [t2 _ n3, ob_some, if_neg (by decide), show X12_allOf (251 + 4) σ1 = _ from allOf_s hn n3, ob_some, show Int32.toInt64 (nI (2 ^ B 0 - 1)) = lN (2 ^ B 0 - 1) from nI_l (by omega), show X12_in (nI S).toInt64 1 (lN (2 ^ B 0 - 1)) = 1 from a3, if_neg (by decide), show X12_spreadOf (251 + 4) (nI S) σ1 = _ from spread_s q8 q6 S (by omega), ob_some]
  · refine ⟨-1000001, σ, ?_, ?_, hI⟩
    · rcases a4 with a4 | a4
      · rw [if_pos (show v1 < 1 from a4)]
      · rw [if_neg (show ¬ v1 < nI (2 ^ B 0) from fun q => by
          rw [Int32.lt_iff_toInt_lt, nI_toInt (by omega)] at q a4
          omega)]
        split <;> rfl
    · rw [t2 σ n2, ob_some, if_neg (by decide), show X12_allOf (251 + 4) σ = _ from allOf_s hn n2, ob_some, nI_l (by omega), show X12_in v1.toInt64 1 (lN (2 ^ B 0 - 1)) = 0 from a3, if_pos rfl]
theorem op_pairs (σ : Mem) (h : InvF FOK σ) (v1 : Int32) : ∃ (r : Int32) (σ1 σ2 : Mem), X11_pairs 0 v1 σ = some (r, σ1) ∧ X12_pairs 251 v1 σ1 = some (r, σ2) ∧ InvF FOK σ2 := by
  have hI := h
  obtain ⟨B, m, L, I, h⟩ := h
  obtain ⟨r6, r7, r8⟩ := ref_rb h
  have n1 : σ 22 0 = nI (B 0) := r7.1
  have n2 : σ 255 0 = nI (B 0) := r8 0 (by omega)
  have hn := r6.1
  have hl := r6.2.1
  unfold X11_pairs X11_pairs_b0 X12_pairs X12_pairs_b0
  rcases pgs v1 (B 0) hn with ⟨p, hp, rfl, t1, t2⟩ | ⟨t1, t2⟩
  · obtain ⟨σ1, l1, l2, l3, l4, l5⟩ := look_s h
    obtain ⟨q6, q7, q8⟩ := ref_rb l3
    have n3 : σ1 255 0 = nI (B 0) := q8 0 (by omega)
    obtain ⟨σ2, g1, g2, g3⟩ := layNear_s (k1 := 255) (by omega) q6 (B 1) (by omega) σ1 q8
    refine ⟨nI (andn (nrM (far B) (B 0) (B 1) p) (2 ^ p)), σ1, σ2, ?_, ?_, ⟨B, m, L, I, Ref.mdl l3 (fun q x y => g3 q (by omega)) (fun j _ _ => by rw [g3 251 (by omega)])⟩⟩
    · rw [t1 σ n1, if_neg (by decide), l1, ob_some, gdx_n (by omega) (by omega), nc_n (by omega), show σ1 (0 + 175 + 1 + 1 + 12) p = _ from l2.2.2.1 p hp, shl_1 p (by omega), nI_andn]
    · have e := g2 p (by omega)
      unfold nrN at e
      rw [if_pos hp] at e
      rw [t2 _ n3, ob_some, if_neg (by decide), show σ1 (251 + 4) (nc 1) = nI (B 1) from q8 1 (by omega), show X12_layNear 251 (251 + 4) (nI (B 1)) σ1 = some σ2 from g1, ob_some, gdx_n (by omega) (by omega), nc_n (by omega), show σ2 (251 + 10) p = _ from e, shl_1 p (by omega), nI_andn]
  · exact ⟨-1000001, σ, σ, by rw [t1 σ n1, if_pos rfl], by rw [t2 σ n2, ob_some, if_pos rfl], hI⟩
theorem op_sign (σ : Mem) (h : InvF FOK σ) (v1 : Int32) : ∃ (r : Int32) (σ1 σ2 : Mem), X11_sign 0 v1 σ = some (r, σ1) ∧ X12_sign 251 v1 σ1 = some (r, σ2) ∧ InvF FOK σ2 := by
  have hI := h
  obtain ⟨B, m, L, I, h⟩ := h
  obtain ⟨r6, r7, r8⟩ := ref_rb h
  have n1 : σ 22 0 = nI (B 0) := r7.1
  have n2 : σ 255 0 = nI (B 0) := r8 0 (by omega)
  have hn := r6.1
  unfold X11_sign X11_sign_b0 X12_sign X12_sign_b0
  rcases there (B 0) hn with ⟨c0, t1, t2⟩ | ⟨c0, t1, t2⟩
  · exact ⟨-1000002, σ, σ, by rw [t1 σ n1]; rfl, by rw [t2 σ n2]; rfl, hI⟩
  rw [t1 σ n1, if_pos rfl]
  by_cases c : 0 ≤ v1
  · obtain ⟨i, hi, rfl⟩ := i32_nat' c
    obtain ⟨σ1, l1, l2, l3, l4, l5⟩ := look_s h
    obtain ⟨q6, q7, q8⟩ := ref_rb l3
    have n3 : σ1 255 0 = nI (B 0) := q8 0 (by omega)
    obtain ⟨_, f1, f2, f3⟩ := l2
    rcases f3 with ⟨f3, _⟩ | ⟨hn0, kk, h, M, f, mm, D, k1, k2, k3, k4, k5, k6, k7, k8, k9, k10, k11, k12, k13⟩
    · omega
    have hcn2 : cn (B 0) M (B 0) + 1 ≤ 10 := by have := cn_ten (M := M) hn hn0; omega
    have hlen := wall_len hn (nrM_rf (far_self B)) k1 D (cn (B 0) M (B 0) + 1) (fps (B 0) M (B 0)) hcn2
    obtain ⟨σ2, g1, g2, g3, g4⟩ := mwr_s q6 hn0 q8 k1 k11 k4
    have hF : InvF FOK σ2 := ⟨B, m, L, I, Ref.mdl l3 (fun q x y => g3 q x (by omega)) g4⟩
    rw [if_pos c]
    by_cases c2 : (wall (B 0) kk D (fun j => msk (fun q => decide (h q = j)) (B 0)) (cn (B 0) M (B 0) + 1) (fps (B 0) M (B 0))).length ≤ i
    · refine ⟨-1000000, σ1, σ2, ?_, ?_, hF⟩
      · rw [l1, ob_some, show σ1 (0 + 175) 7 = _ from k13.1, if_pos (nI_le c2 hi)]
      · rw [t2 _ n3, ob_some, if_neg (by decide), if_pos c, g1, ob_some, g2.1, if_pos (nI_le c2 hi)]
    · refine ⟨nI ((wall (B 0) kk D (fun j => msk (fun q => decide (h q = j)) (B 0)) (cn (B 0) M (B 0) + 1) (fps (B 0) M (B 0))).getD i 0), σ1, σ2, ?_, ?_, hF⟩
      · rw [l1, ob_some, show σ1 (0 + 175) 7 = _ from k13.1, if_neg (show ¬ nI (wall (B 0) kk D (fun j => msk (fun q => decide (h q = j)) (B 0)) (cn (B 0) M (B 0) + 1) (fps (B 0) M (B 0))).length ≤ nI i by rw [nI_le_iff (by omega) hi]; exact c2), gdx_n (by omega) (by omega), nc_n (by omega), show σ1 (0 + 175 + 35) i = _ from k13.2 i (by omega)]
      · rw [t2 _ n3, ob_some, if_neg (by decide), if_pos c, g1, ob_some, g2.1, if_neg (show ¬ nI (wall (B 0) kk D (fun j => msk (fun q => decide (h q = j)) (B 0)) (cn (B 0) M (B 0) + 1) (fps (B 0) M (B 0))).length ≤ nI i by rw [nI_le_iff (by omega) hi]; exact c2), gdx_n (by omega) (by omega), nc_n (by omega), show σ2 (251 + 16) i = _ from g2.2 i (by omega)]
  · exact ⟨-1000001, σ, σ, by rw [if_neg c], by rw [t2 σ n2, ob_some, if_neg (by decide), if_neg c], hI⟩
