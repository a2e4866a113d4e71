/-! PURE: law, undo, images, and what only asks. -/
section
variable {F : Mem → (Nat → Nat) → Prop}
theorem op_law (σ : Mem) (h : InvF F σ) (v1 v2 : Int32) : ∃ (r : Int32) (σ1 σ2 : Mem), X11_law 0 v1 v2 σ = some (r, σ1) ∧ X12_law 251 v1 v2 σ1 = some (r, σ2) ∧ InvF F σ2 := by
  have hI := h
  obtain ⟨B, m, L, I, h⟩ := h
  have h' := h
  obtain ⟨r1, r2, r3, r4, r5, r6, r7, r8, r9, r10, r11, r12, r13⟩ := h
  have n1 : σ 22 0 = nI (B 0) := r7.1
  have n2 : σ 255 0 = nI (B 0) := r8 0 (by omega)
  have hn := r6.1
  unfold X11_law X11_law_b0 X12_law X12_law_b0
  rcases there (B 0) hn with ⟨c0, t1, t2⟩ | ⟨c0, t1, t2⟩
  · exact ⟨-1000002, σ, σ, by rw [t1 σ n1]; rfl, by rw [t2 σ n2]; rfl, hI⟩
  rw [t1 σ n1, if_pos rfl]
  -- one law: slot s, at most M
  have key : ∀ (s x M : Nat), (s = 1 ∧ M = 60 ∨ s = 2 ∧ M = 20) → x ≤ M → ∃ σ1 σ2, X11_beginAct 0 σ = some σ1 ∧ σ1 22 s = nI (B s) ∧ X12_keeps 251 (wr σ1 22 s (nI x)) = some σ2 ∧ (wr σ1 22 s (nI x)) 255 0 = nI (B 0) ∧ (wr σ1 22 s (nI x)) 255 s = nI (B s) ∧ InvF F (wr σ2 255 s (nI x)) := by
    intro s x M hs hx
    obtain ⟨σ1, s1, s2, s3⟩ := act_s h'
    obtain ⟨u1, σ2, u2, u3, u4⟩ := s3 (wr σ1 22 s (nI x)) (updB B s x) (fun q hq => wr_off _ _ _ (by omega)) (AtB_upl s x s2 (by omega) (by omega)) (okB_upl s x r6 (by omega))
    refine ⟨σ1, σ2, s1, ?_, u2, u1 0 (by omega), ?_, u4 _ (fun q hq => wr_off _ _ _ hq) ?_⟩
    · rcases hs with ⟨rfl, _⟩ | ⟨rfl, _⟩
      · exact s2.2.1
      · exact s2.2.2.1
    · have := u1 s (by omega)
      rw [show 0 + s = s by omega] at this
      exact this
    · rw [wr_row]
      exact RwB_upd s x u3 (by omega)
  rcases in_r v1 0 1 (by omega) (by omega) with ⟨w, a1, a2, rfl, a3⟩ | ⟨a3, a4⟩
  · have a3' : X12_in (nI w).toInt64 0 1 = 1 := a3
    rw [if_neg (nI_nn (by omega)), if_neg (show ¬ (1 : Int32) < nI w from nI_nlt (a := 1) (by omega) (by omega))]
    rcases (show w = 0 ∨ w = 1 by omega) with rfl | rfl
    · rw [if_pos (show nI 0 = 0 from rfl)]
      unfold X11_law_b35
      rcases in_r v2 0 60 (by omega) (by omega) with ⟨x, b1, b2, rfl, b3⟩ | ⟨b3, b4⟩
      · have b3' : X12_in (nI x).toInt64 0 60 = 1 := b3
        obtain ⟨σ1, σ2, k1, k2, k3, k4, k5, k6⟩ := key 1 x 60 (by omega) b2
        rw [if_neg (nI_nn (by omega)), if_pos (show nI x ≤ 60 from nI_le (b := 60) (by omega) (by omega)), k1, ob_some, if_pos (show nI 0 = 0 from rfl)]
        unfold X11_law_b66
        rw [if_pos (show nI 0 = 0 from rfl)]
        refine ⟨nI (B 1), wr σ1 22 1 (nI x), _, by rw [show σ1 (0 + 22) 1 = nI (B 1) from k2], ?_, k6⟩
        rw [t2 _ k4, ob_some, if_neg (by decide), a3', if_neg (by decide), if_pos (show nI 0 = 0 from rfl)]
        unfold X12_law_b36
        rw [b3', if_neg (by decide), show (1 : Int32) + nI 0 = nI 1 from rfl, gdx_n (by omega) (by omega), letv_eq, nc_n (by omega), k3, ob_some, gdx_n (by omega) (by omega), show wr σ1 22 1 (nI x) (251 + 4) 1 = nI (B 1) from k5]
      · have b3' : X12_in v2.toInt64 0 60 = 0 := b3
        refine ⟨-1000001, σ, σ, ?_, ?_, hI⟩
        · rcases b4 with b4 | b4
          · rw [if_pos (show v2 < 0 from b4)]
          · rw [if_neg (show ¬ v2 ≤ 60 from fun q => Int32.not_lt.mpr q b4)]
            split <;> rfl
        · rw [t2 σ n2, ob_some, if_neg (by decide), a3', if_neg (by decide), if_pos (show nI 0 = 0 from rfl)]
          unfold X12_law_b36
          rw [b3', if_pos rfl]
    · rw [if_neg (show ¬ nI 1 = 0 by decide)]
      unfold X11_law_b35
      rcases in_r v2 0 20 (by omega) (by omega) with ⟨x, b1, b2, rfl, b3⟩ | ⟨b3, b4⟩
      · have b3' : X12_in (nI x).toInt64 0 20 = 1 := b3
        obtain ⟨σ1, σ2, k1, k2, k3, k4, k5, k6⟩ := key 2 x 20 (by omega) b2
        rw [if_neg (nI_nn (by omega)), if_pos (show nI x ≤ 20 from nI_le (b := 20) (by omega) (by omega)), k1, ob_some, if_neg (show ¬ nI 1 = 0 by decide)]
        unfold X11_law_b66
        rw [if_neg (show ¬ nI 1 = 0 by decide)]
        refine ⟨nI (B 2), wr σ1 22 2 (nI x), _, by rw [show σ1 (0 + 22) 2 = nI (B 2) from k2], ?_, k6⟩
        rw [t2 _ k4, ob_some, if_neg (by decide), a3', if_neg (by decide), if_neg (show ¬ nI 1 = 0 by decide)]
        unfold X12_law_b36
        rw [b3', if_neg (by decide), show (1 : Int32) + nI 1 = nI 2 from rfl, gdx_n (by omega) (by omega), letv_eq, nc_n (by omega), k3, ob_some, gdx_n (by omega) (by omega), show wr σ1 22 2 (nI x) (251 + 4) 2 = nI (B 2) from k5]
      · have b3' : X12_in v2.toInt64 0 20 = 0 := b3
        refine ⟨-1000001, σ, σ, ?_, ?_, hI⟩
        · rcases b4 with b4 | b4
          · rw [if_pos (show v2 < 0 from b4)]
          · rw [if_neg (show ¬ v2 ≤ 20 from fun q => Int32.not_lt.mpr q b4)]
            split <;> rfl
        · rw [t2 σ n2, ob_some, if_neg (by decide), a3', if_neg (by decide), if_neg (show ¬ nI 1 = 0 by decide)]
          unfold X12_law_b36
          rw [b3', if_pos rfl]
  · have a3' : X12_in v1.toInt64 0 1 = 0 := a3
    refine ⟨-1000001, σ, σ, ?_, by rw [t2 σ n2, ob_some, if_neg (by decide), a3', if_pos rfl], hI⟩
    rcases a4 with a4 | a4
    · rw [if_pos (show v1 < 0 from a4)]
    · rw [if_pos (show (1 : Int32) < v1 from a4)]
      split <;> rfl
theorem op_undo (σ : Mem) (h : InvF F σ) : ∃ (r : Int32) (σ1 σ2 : Mem), X11_undo 0 σ = some (r, σ1) ∧ X12_undo 251 σ1 = some (r, σ2) ∧ InvF F σ2 := by
  have hI := h
  obtain ⟨B, m, L, I, h⟩ := h
  have h' := h
  obtain ⟨r1, r2, r3, r4, r5, r6, r7, r8, r9, r10, r11, r12, r13⟩ := h
  obtain ⟨o, o1, o2, o3, o4⟩ := r10
  unfold X11_undo X11_undo_b0 X12_undo X12_undo_b0
  rw [show σ (0 + 28) 2 = nI m from o3]
  cases m with
  | zero => exact ⟨-1000002, σ, σ, by rw [if_pos (show nI 0 = 0 from rfl)], by rw [r11.1, if_pos (show nI 0 = 0 from rfl)], hI⟩
  | succ m =>
    have hm : m < 24 := r9.1
    obtain ⟨σ1, g1, g2, g3, g4⟩ := goBack_s σ m L hm ⟨o, o1, o2, o3, o4⟩ (r9.2 m (by omega)).1
    rw [if_neg (nI_ne0 (by omega) (by omega)), show X0_goBack (0 + 28) (0 + 22) σ = some σ1 from g1, ob_some, letv_eq]
    have e8 : wr σ1 0 9 0 251 8 = nI (m + 1) := by
      rw [wr_off _ _ _ (by omega), g4 251 (by omega)]
      exact r11.1
    obtain ⟨f, u1, u2⟩ := undo_c m hm 43 0 FU (wr (wr σ1 0 9 0) 251 8 (nI m)) (by omega) (by unfold FU; omega) (wr_at _ _ _ _)
    refine ⟨nI m, wr σ1 0 9 0, wrF (wr (wr σ1 0 9 0) 251 8 (nI m)) 255 f, ?_, ?_, ?_⟩
    · obtain ⟨o', _, _, q3, _⟩ := g2
      rw [show wr σ1 0 9 0 (0 + 28) 2 = nI m from (congrFun (wr_off σ1 9 0 (show 28 ≠ 0 by omega)) 2).trans q3]
    · rw [e8, if_neg (nI_ne0 (by omega) (by omega)), nI_s1]
      exact u1
    · have g : ∀ q, q ≠ 0 → q ≠ 251 → q ≠ 255 → (q < 22 ∨ 28 < q) → wrF (wr (wr σ1 0 9 0) 251 8 (nI m)) 255 f q = σ q := fun q a b c d => by rw [wrF_ne _ _ c, wr_off _ _ _ b, wr_off _ _ _ a, g4 q d]
      have g0 : ∀ j, j ≠ 9 → wrF (wr (wr σ1 0 9 0) 251 8 (nI m)) 255 f 0 j = σ 0 j := fun j hj => by rw [wrF_ne _ _ (by omega), wr_off _ _ _ (by omega), wr_in _ _ hj, g4 0 (by omega)]
      have g5 : ∀ j, j ≠ 8 → wrF (wr (wr σ1 0 9 0) 251 8 (nI m)) 255 f 251 j = σ 251 j := fun j hj => by rw [wrF_ne _ _ (by omega), wr_in _ _ hj, wr_off _ _ _ (by omega), g4 251 (by omega)]
      have g6 : ∀ q, 22 ≤ q → q < 174 → wrF (wr (wr σ1 0 9 0) 251 8 (nI m)) 255 f q = σ1 q := fun q a b => by rw [wrF_ne _ _ (by omega), wr_off _ _ _ (by omega), wr_off _ _ _ (by omega)]
      refine ⟨L m, m, L, I, Ref.re h' (fun q b1 b2 b3 b4 b5 b6 b7 b8 b9 b10 => g q b1 b2 b8 (by omega)) (g0 10 (by omega)) (g0 11 (by omega)) (g5 0 (by omega)) (g5 10 (by omega)) (g5 17 (by omega)) (Trc.cg r5 (by rw [g 237 (by omega) (by omega) (by omega) (by omega)]) (g 238 (by omega) (by omega) (by omega) (by omega)) (g 270 (by omega) (by omega) (by omega) (by omega)) (g5 31 (by omega))) (r9.2 m (by omega)) (AtB.cg g3 (fun q a b => g6 q a (by omega))) (fun t ht => ?_) ⟨by omega, fun i hi => r9.2 i (by omega)⟩ (CA.cg g2 (fun q a b => g6 q (by omega) b)) ⟨?_, fun i hi => ?_⟩ (Or.inl ?_)⟩
      · have hb := (r9.2 m (by omega)).1
        rw [wrF_same, u2, if_pos (by omega), show 0 + t = t by omega, wr_off _ _ _ (by omega), wr_off _ _ _ (by omega), g4 258 (by omega)]
        exact r11.2 m (by omega) t ht
      · rw [wrF_ne _ _ (by omega), wr_at]
      · rw [g 258 (by omega) (by omega) (by omega) (by omega)]
        exact r11.2 i (by omega)
      · rw [wrF_ne _ _ (by omega), wr_off _ _ _ (by omega), wr_at]
theorem op_image (hl : Loc F) (σ : Mem) (h : InvF F σ) (v1 : Int32) : ∃ (r : Int32) (σ1 σ2 : Mem), X11_image 0 v1 σ = some (r, σ1) ∧ X12_image 251 v1 σ1 = some (r, σ2) ∧ InvF F σ2 := by
  have hI := h
  obtain ⟨B, m, L, I, h⟩ := h
  have h' := h
  obtain ⟨r1, r2, r3, r4, r5, r6, r7, r8, r9, r10, r11, r12, r13⟩ := h
  have n1 : σ 22 0 = nI (B 0) := r7.1
  have n2 : σ 255 0 = nI (B 0) := r8 0 (by omega)
  have hn := r6.1
  unfold X11_image X11_image_b0 X12_image X12_image_b0
  rcases in_r v1 0 1 (by omega) (by omega) with ⟨k, a1, a2, rfl, a3⟩ | ⟨a3, a4⟩
  · have a3' : X12_in (nI k).toInt64 0 1 = 1 := a3
    rw [if_neg (nI_nn (by omega)), if_pos (show nI k < 2 from nI_lt (b := 2) (by omega) (by omega)), a3', gdx_n (by omega) (by omega), nc_n (by omega)]
    rcases there (B 0) hn with ⟨c0, t1, t2⟩ | ⟨c0, t1, t2⟩
    · exact ⟨-1000002, σ, σ, by rw [t1 σ n1]; rfl, by rw [t2 σ n2]; rfl, hI⟩
    rw [t1 σ n1, if_pos rfl]
    obtain ⟨σ1, e1, e2, e3⟩ := like_s (239 + 6 * k) 22 (by omega) σ B r7 hn
    obtain ⟨f, u1, u2⟩ := image_c k (by omega) 43 0 FU σ1 (by omega) (by unfold FU; omega)
    have n3 : σ1 255 0 = nI (B 0) := by rw [e3 255 (by omega)]; exact n2
    refine ⟨1, σ1, wr (wrF σ1 269 f) 268 k 1, ?_, ?_, ?_⟩
    · rw [show X2_becomeLike (0 + 174 + 65 + 6 * k) (0 + 22) σ = some σ1 from e1, ob_some]
    · rw [if_neg (by decide), t2 σ1 n3, ob_some, if_neg (by decide)]
      exact u1
    · have g : ∀ q, q ≠ 268 → q ≠ 269 → (q < 239 ∨ 251 ≤ q) → wr (wrF σ1 269 f) 268 k 1 q = σ q := fun q a b c => by rw [wr_off _ _ _ a, wrF_ne _ _ b, e3 q (by omega)]
      refine ⟨B, m, L, fun j => if j = k then B else I j, IRow.cg r1 (fun q hq => g q (by omega) (by omega) (by omega)), ITape.cg r2 (g 13 (by omega) (by omega) (by omega)) (g 14 (by omega) (by omega) (by omega)) (g 259 (by omega) (by omega) (by omega)) (by rw [g 251 (by omega) (by omega) (by omega)]), by rw [g 0 (by omega) (by omega) (by omega), g 251 (by omega) (by omega) (by omega)]; exact r3, by rw [g 0 (by omega) (by omega) (by omega), g 251 (by omega) (by omega) (by omega)]; exact r4, Trc.cg r5 (by rw [g 237 (by omega) (by omega) (by omega)]) (g 238 (by omega) (by omega) (by omega)) (g 270 (by omega) (by omega) (by omega)) (by rw [g 251 (by omega) (by omega) (by omega)]), r6, AtB.cg r7 (fun q a b => g q (by omega) (by omega) (by omega)), by rw [g 255 (by omega) (by omega) (by omega)]; exact r8, r9, CA.cg r10 (fun q a b => g q (by omega) (by omega) (by omega)), MA.cg r11 (by rw [g 251 (by omega) (by omega) (by omega)]) (g 258 (by omega) (by omega) (by omega)), fun j hj => ?_, Fsh.cg hl r13 (by rw [g 0 (by omega) (by omega) (by omega)]) (fun q a b => g q (by omega) (by omega) (by omega))⟩
      by_cases c : j = k
      · subst c
        show okB (if j = j then B else I j) ∧ AtB _ _ (if j = j then B else I j) ∧ ((((if j = j then B else I j) : Nat → Nat) 0 = 0 ∧ _) ∨ (0 < ((if j = j then B else I j) : Nat → Nat) 0 ∧ _ ∧ RwB _ _ (if j = j then B else I j)))
        rw [if_pos rfl]
        refine ⟨r6, AtB.cg e2 (fun q a b => by rw [wr_off _ _ _ (by omega), wrF_ne _ _ (by omega)]), Or.inr ⟨c0, wr_at _ _ _ _, fun t ht => ?_⟩⟩
        rw [wr_off _ _ _ (by omega), wrF_same, u2, if_pos (by omega), show 43 * j + t - 43 * j = 0 + t by omega, e3 255 (by omega)]
        exact r8 t ht
      · show okB (if j = k then B else I j) ∧ AtB _ _ (if j = k then B else I j) ∧ ((((if j = k then B else I j) : Nat → Nat) 0 = 0 ∧ _) ∨ (0 < ((if j = k then B else I j) : Nat → Nat) 0 ∧ _ ∧ RwB _ _ (if j = k then B else I j)))
        rw [if_neg c]
        obtain ⟨q1, q2, q3⟩ := r12 j hj
        refine ⟨q1, AtB.cg q2 (fun q a b => by rw [wr_off _ _ _ (by omega), wrF_ne _ _ (by omega), e3 q (by omega)]), ?_⟩
        rw [wr_in _ _ c, wrF_ne _ _ (by omega), e3 268 (by omega)]
        rcases q3 with q3 | ⟨q3, q4, q5⟩
        · exact Or.inl q3
        · refine Or.inr ⟨q3, q4, fun t ht => ?_⟩
          have := q1.1
          rw [wr_off _ _ _ (by omega), wrF_same, u2, if_neg (by omega), e3 269 (by omega)]
          exact q5 t ht
  · have a3' : X12_in v1.toInt64 0 1 = 0 := a3
    refine ⟨-1000001, σ, σ, ?_, by rw [a3', if_pos rfl], hI⟩
    rcases a4 with a4 | a4
    · rw [if_pos (show v1 < 0 from a4)]
    · rw [if_neg (show ¬ v1 < 2 from fun q => by
        have q1 : (1 : Int32) < v1 := a4
        rw [Int32.lt_iff_toInt_lt] at q q1
        have e1 : (1 : Int32).toInt = 1 := by decide
        have e2 : (2 : Int32).toInt = 2 := by decide
        omega)]
      split <;> rfl
/-- a book begins anew on both sides -/
theorem begin_s {σ : Mem} {B : Nat → Nat} {m : Nat} {L I : Nat → Nat → Nat} (h : Ref F σ B m L I) (k : Nat) (hk : (15 ≤ k ∧ k + 6 ≤ 22) ∨ (239 ≤ k ∧ k + 6 ≤ 251)) (B' : Nat → Nat) (hb : AtB σ k B') (ho : okB B') : ∃ σ1, X11_begin 0 k σ = some σ1 ∧ AtB σ1 22 B' ∧ (∀ q, q ≠ 0 → q ≠ 28 → (q < 22 ∨ 28 ≤ q) → σ1 q = σ q) ∧ (∀ j, j ≠ 9 → σ1 0 j = σ 0 j) ∧ ∀ σ2, (∀ q, q ≠ 255 → q ≠ 251 → ¬ Scr q → σ2 q = σ1 q) → (∀ j, j = 0 ∨ j = 10 ∨ j = 17 ∨ j = 31 → σ2 251 j = σ 251 j) → σ2 251 8 = 0 → RwB (σ2 255) 0 B' → Ref F σ2 B' 0 L I := by
  have h' := h
  obtain ⟨r1, r2, r3, r4, r5, r6, r7, r8, r9, r10, r11, r12, r13⟩ := h
  obtain ⟨σ1, e1, e2, e3⟩ := like_s 22 k (by omega) σ B' hb ho.1
  refine ⟨wr (wr σ1 28 2 0) 0 9 0, ?_, AtB.cg e2 (fun q a b => by rw [wr_off _ _ _ (by omega), wr_off _ _ _ (by omega)]), fun q a b c => by rw [wr_off _ _ _ a, wr_off _ _ _ b, e3 q (by omega)], fun j hj => by rw [wr_in _ _ hj, wr_off _ _ _ (by omega), e3 0 (by omega)], fun σ2 f1 f2 f3 f4 => ?_⟩
  · unfold X11_begin X11_begin_b0 X0_forgetAll X0_forgetAll_b0
    rw [show X2_becomeLike (0 + 22) k σ = some σ1 from e1, ob_some, ob_some]
  · have g : ∀ q, q ≠ 255 → q ≠ 251 → ¬ Scr q → q ≠ 0 → q ≠ 28 → (q < 22 ∨ 28 ≤ q) → σ2 q = σ q := fun q a1 a2 a3 a4 a5 a6 => by rw [f1 q a1 a2 a3, wr_off _ _ _ a4, wr_off _ _ _ a5, e3 q (by omega)]
    have g0 : ∀ j, j ≠ 9 → σ2 0 j = σ 0 j := fun j hj => by rw [f1 0 (by omega) (by omega) (by unfold Scr; omega), wr_in _ _ hj, wr_off _ _ _ (by omega), e3 0 (by omega)]
    obtain ⟨o, o1, o2, o3, o4⟩ := r10
    refine Ref.re h' (fun q b1 b2 b3 b4 b5 b6 b7 b8 b9 b10 => g q b8 b2 b10 b1 (by omega) (by omega)) (g0 10 (by omega)) (g0 11 (by omega)) (f2 0 (by omega)) (f2 10 (by omega)) (f2 17 (by omega)) (Trc.cg r5 (by rw [g 237 (by omega) (by omega) (by unfold Scr; omega) (by omega) (by omega) (by omega)]) (g 238 (by omega) (by omega) (by unfold Scr; omega) (by omega) (by omega) (by omega)) (g 270 (by omega) (by omega) (by unfold Scr; omega) (by omega) (by omega) (by omega)) (f2 31 (by omega))) ho (AtB.cg e2 (fun q a b => by rw [f1 q (by omega) (by omega) (by unfold Scr; omega), wr_off _ _ _ (by omega), wr_off _ _ _ (by omega)])) f4 ⟨by omega, fun i hi => by omega⟩ ⟨o, o1, ?_, ?_, fun i hi => by omega⟩ ⟨f3, fun i hi => by omega⟩ (Or.inl ?_)
    · rw [f1 28 (by omega) (by omega) (by unfold Scr; omega), wr_off _ _ _ (by omega), wr_in _ _ (by omega), e3 28 (by omega)]
      exact o2
    · rw [f1 28 (by omega) (by omega) (by unfold Scr; omega), wr_off _ _ _ (by omega), wr_at]
      rfl
    · rw [f1 0 (by omega) (by omega) (by unfold Scr; omega), wr_at]
theorem op_restore (σ : Mem) (h : InvF F σ) (v1 : Int32) : ∃ (r : Int32) (σ1 σ2 : Mem), X11_restore 0 v1 σ = some (r, σ1) ∧ X12_restore 251 v1 σ1 = some (r, σ2) ∧ InvF F σ2 := by
  have hI := h
  obtain ⟨B, m, L, I, h⟩ := h
  have h' := h
  obtain ⟨r1, r2, r3, r4, r5, r6, r7, r8, r9, r10, r11, r12, r13⟩ := h
  unfold X11_restore X11_restore_b0 X12_restore X12_restore_b0
  rcases in_r v1 0 1 (by omega) (by omega) with ⟨k, a1, a2, rfl, a3⟩ | ⟨a3, a4⟩
  · have a3' : X12_in (nI k).toInt64 0 1 = 1 := a3
    obtain ⟨q1, q2, q3⟩ := r12 k (by omega)
    rw [if_neg (nI_nn (by omega)), if_pos (show nI k < 2 from nI_lt (b := 2) (by omega) (by omega)), a3', gdx_n (by omega) (by omega), nc_n (by omega), show σ (0 + 174 + 65 + 6 * k) 0 = nI (I k 0) from q2.1]
    rcases q3 with ⟨q3, q4⟩ | ⟨q3, q4, q5⟩
    · exact ⟨-1000002, σ, σ, by rw [q3, if_pos (show nI 0 = 0 from rfl)], by rw [if_neg (show ¬ (1 : Int32) = 0 by decide), gdx_n (by omega) (by omega), show σ (251 + 17) k = 0 from q4, if_pos rfl], hI⟩
    · obtain ⟨σ1, b1, b2, b3, b4, b5⟩ := begin_s h' (239 + 6 * k) (by omega) (I k) q2 q1
      have hk := q1.1
      rw [if_neg (nI_ne0 (by omega) (by omega)), gdx_n (by omega) (by omega), show X11_begin 0 (0 + 174 + 65 + 6 * k) σ = some σ1 from b1, ob_some]
      obtain ⟨f, u1, u2⟩ := restore_c k (by omega) 43 0 FU σ1 (by omega) (by unfold FU; omega)
      refine ⟨1, σ1, wr (wrF σ1 255 f) 251 8 0, rfl, ?_, ⟨I k, 0, L, I, b5 _ (fun q c1 c2 c3 => by rw [wr_off _ _ _ c2, wrF_ne _ _ c1]) (fun j hj => by rw [wr_in _ _ (by omega), wrF_ne _ _ (by omega), b3 251 (by omega) (by omega) (by omega)]) (wr_at _ _ _ _) (fun t ht => ?_)⟩⟩
      · rw [if_neg (show ¬ (1 : Int32) = 0 by decide), gdx_n (by omega) (by omega), show σ1 (251 + 17) k = 1 from (congrFun (b3 268 (by omega) (by omega) (by omega)) k).trans q4, if_neg (by decide)]
        exact u1
      · rw [wr_off _ _ _ (by omega), wrF_same, u2, if_pos (by omega), b3 269 (by omega) (by omega) (by omega), show 0 + t = t by omega]
        exact q5 t ht
  · have a3' : X12_in v1.toInt64 0 1 = 0 := a3
    refine ⟨-1000001, σ, σ, ?_, by rw [a3', if_pos rfl], hI⟩
    rcases a4 with a4 | a4
    · rw [if_pos (show v1 < 0 from a4)]
    · rw [if_neg (show ¬ v1 < 2 from fun q => by
        have q1 : (1 : Int32) < v1 := a4
        rw [Int32.lt_iff_toInt_lt] at q q1
        have e1 : (1 : Int32).toInt = 1 := by decide
        have e2 : (2 : Int32).toInt = 2 := by decide
        omega)]
      split <;> rfl
end
