/-! PURE: runs, as the class finds them. -/
def wdf (g : Nat → Nat → Nat) (n a v : Nat) : Nat := wid g n (rm a v)
theorem wid_le {g : Nat → Nat → Nat} {n K : Nat} (hg : ∀ x y, x < n → y < n → g x y ≤ K) (S : Nat) : wid g n S ≤ K := mxo_le n (fun i hi => mxo_le n (fun j hj => hg i j hi hj))
theorem wdf_succ {g : Nat → Nat → Nat} {n a l : Nat} (hc : ∀ x y, g x y = g y x) (hal : a ≤ l) (hl : l < n) : wdf g n a (l + 1) = max (wdf g n a l) (mxo (g l) (fun q => (rm a (l + 1)).testBit q) n) := by
  have h1 := wid_is g n (rm a l)
  have hin : ∀ q, (rm a l).testBit q = true → (rm a (l + 1)).testBit q = true := by
    intro q hq
    rw [rm_bit] at hq ⊢
    simp only [Bool.and_eq_true, decide_eq_true_eq] at hq ⊢
    omega
  have hll : (rm a (l + 1)).testBit l = true := by
    rw [rm_bit]
    simp only [Bool.and_eq_true, decide_eq_true_eq]
    omega
  refine IsW_uniq (wid_is g n (rm a (l + 1))) ⟨fun p q hp hq b1 b2 => ?_, ?_⟩
  · have c1 := b1
    have c2 := b2
    rw [rm_bit] at c1 c2
    simp only [Bool.and_eq_true, decide_eq_true_eq] at c1 c2
    by_cases e : p = l
    · rw [e]
      exact Nat.le_trans (mxo_ge (f := g l) (P := fun q => (rm a (l + 1)).testBit q) n q hq b2) (Nat.le_max_right _ _)
    · by_cases e2 : q = l
      · rw [e2, hc]
        exact Nat.le_trans (mxo_ge (f := g l) (P := fun q => (rm a (l + 1)).testBit q) n p hp b1) (Nat.le_max_right _ _)
      · refine Nat.le_trans (h1.1 p q hp hq ?_ ?_) (Nat.le_max_left _ _)
        · rw [rm_bit]
          simp only [Bool.and_eq_true, decide_eq_true_eq]
          omega
        · rw [rm_bit]
          simp only [Bool.and_eq_true, decide_eq_true_eq]
          omega
  · by_cases e : mxo (g l) (fun q => (rm a (l + 1)).testBit q) n ≤ wdf g n a l
    · rw [Nat.max_eq_left e]
      rcases h1.2 with d | ⟨p, q, d1, d2, d3, d4, d5⟩
      · exact Or.inl d
      · exact Or.inr ⟨p, q, d1, d2, hin p d3, hin q d4, d5⟩
    · rw [Nat.max_eq_right (by omega)]
      rcases mxo_at (f := g l) (P := fun q => (rm a (l + 1)).testBit q) n with d | ⟨q, d1, d2, d3⟩
      · exact Or.inl d
      · exact Or.inr ⟨l, q, hl, d1, hll, d2, d3⟩
theorem wdf_self (g : Nat → Nat → Nat) (n a : Nat) : wdf g n a a = 0 := by
  unfold wdf
  rw [rm_self]
  rcases (wid_is g n 0).2 with e | ⟨p, q, _, _, e, _⟩
  · exact e
  · rw [Nat.zero_testBit] at e
    exact absurd e (by decide)
section
variable {g : Nat → Nat → Nat} {n c k k1 : Nat}
/-- the table's line for t, at page v -/
def Ent (σ : Mem) (k v : Nat) (w f x : Nat) : Prop := σ (k + 1) v = nI w ∧ σ (k + 2) v = nI f ∧ σ (k + 3) v = nI x
def Tab (g : Nat → Nat → Nat) (n c : Nat) (σ : Mem) (k D : Nat) (X tt : Nat → Nat) : Prop := σ (k + 1) n = 0 ∧ σ (k + 2) n = 0 ∧ ∀ h, h < D → Ent σ k (n - 1 - h) (wt (wdf g n) c n h (X h)) (pc 10 (X h) + 1) (n - tt h)
/-- t is no worse than s -/
def Kc (wd : Nat → Nat → Nat) (c n D : Nat) (X : Nat → Nat) (t s : Nat) : Prop := wt wd c n D (cmk X t) < wt wd c n D (cmk X s) ∨ (wt wd c n D (cmk X t) = wt wd c n D (cmk X s) ∧ (pc 10 (cmk X t) < pc 10 (cmk X s) ∨ (pc 10 (cmk X t) = pc 10 (cmk X s) ∧ s ≤ t)))
theorem weigh_l (hn : n ≤ 10) (hg : ∀ x y, x < n → y < n → g x y ≤ 90) (hc : ∀ x y, g x y = g y x) (hc20 : c ≤ 20) (hk : k1 + 12 ≤ k ∨ k + 6 ≤ k1) (D : Nat) (hD : D < n) (X tt : Nat → Nat) (hX : ∀ h, h < D → X h < 2 ^ h) : ∀ (r m : Nat) (σ : Mem), r ≤ D + 1 → r < m → Gp σ k1 n g → Tab g n c σ k D X tt → (r = D + 1 ∨ ∃ t, r ≤ t ∧ t ≤ D ∧ Ent σ k (n - 1 - D) (wt (wdf g n) c n D (cmk X t)) (pc 10 (cmk X t) + 1) (n - t) ∧ ∀ s, r ≤ s → s ≤ D → Kc (wdf g n) c n D X t s) → ∃ σ' t, X9_weigh_l6 m k k1 (nI c) (nI (n - 1 - D)) (nI (wdf g n (n - 1 - D) (n - r))) (nI (n - r)) σ = some σ' ∧ t ≤ D ∧ Ent σ' k (n - 1 - D) (wt (wdf g n) c n D (cmk X t)) (pc 10 (cmk X t) + 1) (n - t) ∧ (∀ s, s ≤ D → Kc (wdf g n) c n D X t s) ∧ (∀ q, (q < k + 1 ∨ k + 4 ≤ q) → σ' q = σ q) ∧ ∀ q v, v ≠ n - 1 - D → σ' q v = σ q v := by
  have hw : ∀ a b, wdf g n a b ≤ 90 := fun a b => wid_le hg _
  have hwt : ∀ h M, h < 10 → wt (wdf g n) c n h M ≤ 2000 := fun h M hh => by
    have h1 := ws_le (c := c) (n := n) hw (M := M) h (n - 1 - h)
    have h2 : h * (90 + c) ≤ 10 * (90 + c) := Nat.mul_le_mul_right _ (by omega)
    unfold wt
    omega
  have hpc : ∀ M, pc 10 M ≤ 10 := fun M => pc_le M 10
  intro r
  induction r with
  | zero =>
    intro m σ hr hm hG hT hb
    obtain ⟨m, rfl⟩ : ∃ m', m = m' + 1 := ⟨m - 1, by omega⟩
    rcases hb with hb | ⟨t, t1, t2, t3, t4⟩
    · omega
    · refine ⟨σ, t, ?_, t2, t3, fun s hs => t4 s (Nat.zero_le s) hs, fun q _ => rfl, fun q v _ => rfl⟩
      show X9_weigh_b6 _ k k1 (nI c) (nI (n - 1 - D)) _ (nI (n - 0)) σ = _
      unfold X9_weigh_b6
      rw [hG.1, if_pos (nI_le (by omega) (by omega))]
  | succ s ih =>
    intro m σ hr hm hG hT hb
    obtain ⟨m, rfl⟩ : ∃ m', m = m' + 1 := ⟨m - 1, by omega⟩
    -- the page is n - 1 - s, the next n - s
    have hg20 : ∀ x y, x < n → y < n → g x y < 2 ^ 20 := fun x y hx hy => by have := hg x y hx hy; omega
    have hwid : max (wdf g n (n - 1 - D) (n - (s + 1))) (mxo (g (n - (s + 1))) (fun q => (rm (n - 1 - D) (n - s)).testBit q) n) = wdf g n (n - 1 - D) (n - s) := by
      have e := wdf_succ (g := g) (n := n) (a := n - 1 - D) (l := n - (s + 1)) hc (by omega) (by omega)
      rw [show n - (s + 1) + 1 = n - s by omega] at e
      exact e.symm
    -- what the candidate weighs
    have hcand : ∃ w0 f0, σ (k + 1) (n - s) = nI w0 ∧ σ (k + 2) (n - s) = nI f0 ∧ w0 ≤ 2000 ∧ f0 ≤ 11 ∧ wdf g n (n - 1 - D) (n - s) + w0 + (if n ≤ n - s then 0 else c) = wt (wdf g n) c n D (cmk X s) ∧ f0 + 1 = pc 10 (cmk X s) + 1 := by
      cases s with
      | zero =>
        refine ⟨0, 0, by rw [Nat.sub_zero]; exact hT.1, by rw [Nat.sub_zero]; exact hT.2.1, by omega, by omega, ?_, ?_⟩
        · rw [if_pos (by omega)]
          show _ = wt (wdf g n) c n D 0
          rw [wt_zero, Nat.sub_zero]
          rfl
        · show _ = pc 10 0 + 1
          rfl
      | succ h =>
        obtain ⟨e1, e2, e3⟩ := hT.2.2 h (by omega)
        have hXh := hX h (by omega)
        refine ⟨wt (wdf g n) c n h (X h), pc 10 (X h) + 1, by rw [show n - (h + 1) = n - 1 - h by omega]; exact e1, by rw [show n - (h + 1) = n - 1 - h by omega]; exact e2, hwt h _ (by omega), by have := hpc (X h); omega, ?_, ?_⟩
        · rw [if_neg (by omega)]
          show _ = wt (wdf g n) c n D (2 ^ h + X h)
          rw [wt_add (by omega) hXh, show n - (h + 1) = n - 1 - h by omega]
          omega
        · show _ = pc 10 (2 ^ h + X h) + 1
          rw [pc_add hXh (by omega)]
    obtain ⟨w0, f0, c1, c2, c3, c4, c5, c6⟩ := hcand
    have hwn := hw (n - 1 - D) (n - s)
    have hwD := hwt D (cmk X s) (by omega)
    have hpD := hpc (cmk X s)
    -- one step: either the line is written anew, or it stands
    have stepW : ∀ σx : Mem, σx = wr (wr (wr σ (k + 1) (n - 1 - D) (nI (wt (wdf g n) c n D (cmk X s)))) (k + 2) (n - 1 - D) (nI (pc 10 (cmk X s) + 1))) (k + 3) (n - 1 - D) (nI (n - s)) → (∀ s', s ≤ s' → s' ≤ D → Kc (wdf g n) c n D X s s') → X9_weigh_l6 (m + 1) k k1 (nI c) (nI (n - 1 - D)) (nI (wdf g n (n - 1 - D) (n - (s + 1)))) (nI (n - (s + 1))) σ = X9_weigh_l6 m k k1 (nI c) (nI (n - 1 - D)) (nI (wdf g n (n - 1 - D) (n - s))) (nI (n - s)) σx → ∃ σ' t, X9_weigh_l6 (m + 1) k k1 (nI c) (nI (n - 1 - D)) (nI (wdf g n (n - 1 - D) (n - (s + 1)))) (nI (n - (s + 1))) σ = some σ' ∧ t ≤ D ∧ Ent σ' k (n - 1 - D) (wt (wdf g n) c n D (cmk X t)) (pc 10 (cmk X t) + 1) (n - t) ∧ (∀ s, s ≤ D → Kc (wdf g n) c n D X t s) ∧ (∀ q, (q < k + 1 ∨ k + 4 ≤ q) → σ' q = σ q) ∧ ∀ q v, v ≠ n - 1 - D → σ' q v = σ q v := by
      intro σx hx hk' he
      clear hb
      have fx : ∀ q, (q < k + 1 ∨ k + 4 ≤ q) → σx q = σ q := fun q hq => by rw [hx, wr_off _ _ _ (by omega), wr_off _ _ _ (by omega), wr_off _ _ _ (by omega)]
      have fv : ∀ q v, v ≠ n - 1 - D → σx q v = σ q v := fun q v hv => by
        rw [hx]
        by_cases a3 : q = k + 3
        · subst a3
          rw [wr_in _ _ hv, wr_off _ _ _ (by omega), wr_off _ _ _ (by omega)]
        · rw [wr_off _ _ _ a3]
          by_cases a2 : q = k + 2
          · subst a2
            rw [wr_in _ _ hv, wr_off _ _ _ (by omega)]
          · rw [wr_off _ _ _ a2]
            by_cases a1 : q = k + 1
            · subst a1
              rw [wr_in _ _ hv]
            · rw [wr_off _ _ _ a1]
      have ex : Ent σx k (n - 1 - D) (wt (wdf g n) c n D (cmk X s)) (pc 10 (cmk X s) + 1) (n - s) := ⟨by rw [hx, wr_off _ _ _ (by omega), wr_off _ _ _ (by omega), wr_at], by rw [hx, wr_off _ _ _ (by omega), wr_at], by rw [hx, wr_at]⟩
      obtain ⟨σ', t, q1, q2, q3, q4, q5, q6⟩ := ih m σx (by omega) (by omega) ⟨by rw [fx k1 (by omega)]; exact hG.1, fun x y hx hy => by rw [fx (k1 + 2 + x) (by omega)]; exact hG.2 x y hx hy⟩ ⟨by rw [fv _ _ (by omega)]; exact hT.1, by rw [fv _ _ (by omega)]; exact hT.2.1, fun h hh => ⟨by rw [fv _ _ (by omega)]; exact (hT.2.2 h hh).1, by rw [fv _ _ (by omega)]; exact (hT.2.2 h hh).2.1, by rw [fv _ _ (by omega)]; exact (hT.2.2 h hh).2.2⟩⟩ (Or.inr ⟨s, Nat.le_refl s, by omega, ex, hk'⟩)
      exact ⟨σ', t, by rw [he]; exact q1, q2, q3, q4, fun q hq => by rw [q5 q hq, fx q hq], fun q v hv => by rw [q6 q v hv, fv q v hv]⟩
    -- the walk of one step
    have unf : X9_weigh_l6 (m + 1) k k1 (nI c) (nI (n - 1 - D)) (nI (wdf g n (n - 1 - D) (n - (s + 1)))) (nI (n - (s + 1))) σ = X9_weigh_b66 (X9_weigh_l6 m) k k1 (nI c) (nI (n - 1 - D)) (nI (wdf g n (n - 1 - D) (n - s))) (nI (n - (s + 1))) (nI (n - s)) (nI (wdf g n (n - 1 - D) (n - s) + w0)) (nI (if n ≤ n - s then 0 else c)) σ := by
      show X9_weigh_b6 _ k k1 (nI c) (nI (n - 1 - D)) _ (nI (n - (s + 1))) σ = _
      unfold X9_weigh_b6
      rw [hG.1, if_neg (show ¬ nI n ≤ nI (n - (s + 1)) by rw [nI_le_iff (by omega) (by omega)]; omega), letv_eq, nI_1, show n - (s + 1) + 1 = n - s by omega, shl_1 (n - s) (by omega), shl_1 (n - 1 - D) (by omega), nI_sub (Nat.pow_le_pow_right (by omega) (by omega)), rm_sub (n - 1 - D) (n - s) (by omega)]
      have hrm : rm (n - 1 - D) (n - s) < 2 ^ 31 := Nat.lt_of_lt_of_le (rm_lt _ _) (Nat.pow_le_pow_right (by omega) (by omega))
      rw [furthest_s hG hn hg20 (n - (s + 1)) _ (by omega) hrm, ob_some, letv_eq]
      have hm1 : mxo (g (n - (s + 1))) (fun q => (rm (n - 1 - D) (n - s)).testBit q) n ≤ 90 := mxo_le n (fun i hi => hg _ i (by omega) hi)
      have hm2 := hw (n - 1 - D) (n - (s + 1))
      rw [mx_n (by omega) (by omega), hwid, gdx_n (by omega) (by omega), nc_n (by omega), c1, nI_add]
      by_cases e : n ≤ n - s
      · rw [if_pos (nI_le e (by omega)), if_pos e]
        rfl
      · rw [if_neg (show ¬ nI n ≤ nI (n - s) by rw [nI_le_iff (by omega) (by omega)]; exact e), if_neg e]
    have unf2 : ∀ W F : Nat, σ (k + 1) (n - 1 - D) = nI W → σ (k + 2) (n - 1 - D) = nI F → W < 2 ^ 31 → F < 2 ^ 31 → X9_weigh_l6 (m + 1) k k1 (nI c) (nI (n - 1 - D)) (nI (wdf g n (n - 1 - D) (n - (s + 1)))) (nI (n - (s + 1))) σ = if (wt (wdf g n) c n D (cmk X s) < W ∨ (wt (wdf g n) c n D (cmk X s) = W ∧ pc 10 (cmk X s) + 1 < F)) then X9_weigh_b113 (X9_weigh_l6 m) k k1 (nI c) (nI (n - 1 - D)) (nI (wdf g n (n - 1 - D) (n - s))) (nI (n - (s + 1))) (nI (n - s)) (nI (wt (wdf g n) c n D (cmk X s))) (nI (pc 10 (cmk X s) + 1)) σ else X9_weigh_b117 (X9_weigh_l6 m) k k1 (nI c) (nI (n - 1 - D)) (nI (wdf g n (n - 1 - D) (n - s))) (nI (n - (s + 1))) (nI (n - s)) (nI (wt (wdf g n) c n D (cmk X s))) (nI (pc 10 (cmk X s) + 1)) σ := by
      intro W F hW hF hW31 hF31
      rw [unf]
      unfold X9_weigh_b66
      clear hb
      rw [nI_add, c5]
      simp (disch := omega) only [gdx_n, nc_n, letv_eq]
      rw [c2, nI_1, c6, hW, hF]
      by_cases d1 : wt (wdf g n) c n D (cmk X s) < W
      · rw [if_pos (nI_lt d1 hW31), if_pos (Or.inl d1)]
      · rw [if_neg (show ¬ nI (wt (wdf g n) c n D (cmk X s)) < nI W by rw [nI_lt_iff (by omega) hW31]; exact d1)]
        by_cases d2 : wt (wdf g n) c n D (cmk X s) = W
        · rw [if_pos (show nI (wt (wdf g n) c n D (cmk X s)) = nI W by rw [d2])]
          by_cases d3 : pc 10 (cmk X s) + 1 < F
          · rw [if_neg (show ¬ nI F ≤ nI (pc 10 (cmk X s) + 1) by rw [nI_le_iff hF31 (by omega)]; omega), if_pos (Or.inr ⟨d2, d3⟩)]
          · rw [if_pos (show nI F ≤ nI (pc 10 (cmk X s) + 1) from nI_le (by omega) (by omega)), if_neg (by omega)]
        · rw [if_neg (show ¬ nI (wt (wdf g n) c n D (cmk X s)) = nI W from fun q => d2 ((nI_inj (by omega) hW31).mp q)), if_neg (by omega)]
    have b131 : X9_weigh_b131 (X9_weigh_l6 m) k k1 (nI c) (nI (n - 1 - D)) (nI (wdf g n (n - 1 - D) (n - s))) (nI (n - (s + 1))) (nI (n - s)) (nI (wt (wdf g n) c n D (cmk X s))) (nI (pc 10 (cmk X s) + 1)) σ = X9_weigh_l6 m k k1 (nI c) (nI (n - 1 - D)) (nI (wdf g n (n - 1 - D) (n - s))) (nI (n - s)) (wr (wr (wr σ (k + 1) (n - 1 - D) (nI (wt (wdf g n) c n D (cmk X s)))) (k + 2) (n - 1 - D) (nI (pc 10 (cmk X s) + 1))) (k + 3) (n - 1 - D) (nI (n - s))) := by
      unfold X9_weigh_b131 X9_weigh_b155
      rw [gdx_n (by omega) (by omega), letv_eq, gdx_n (by omega) (by omega), letv_eq, gdx_n (by omega) (by omega), nc_n (by omega), nI_1, show n - (s + 1) + 1 = n - s by omega]
    have rfK : Kc (wdf g n) c n D X s s := Or.inr ⟨rfl, Or.inr ⟨rfl, Nat.le_refl s⟩⟩
    rcases hb with hb | ⟨t, t1, t2, t3, t4⟩
    · -- the first: it is written in any case
      have hs : s = D := by omega
      refine stepW _ rfl (fun s' h1 h2 => ?_) ?_
      · have : s' = s := by omega
        rw [this]
        exact rfK
      · rw [unf]
        unfold X9_weigh_b66
        rw [nI_add, c5]
        simp (disch := omega) only [gdx_n, nc_n, letv_eq]
        rw [c2, nI_1, c6]
        have hpos : nI (n - (s + 1)) = nI (n - 1 - D) := by rw [show n - (s + 1) = n - 1 - D by omega]
        have e118 : ∀ x : Int32, X9_weigh_b118 (X9_weigh_l6 m) k k1 (nI c) (nI (n - 1 - D)) (nI (wdf g n (n - 1 - D) (n - s))) (nI (n - (s + 1))) (nI (n - s)) (nI (wt (wdf g n) c n D (cmk X s))) (nI (pc 10 (cmk X s) + 1)) x σ = X9_weigh_l6 m k k1 (nI c) (nI (n - 1 - D)) (nI (wdf g n (n - 1 - D) (n - s))) (nI (n - s)) (wr (wr (wr σ (k + 1) (n - 1 - D) (nI (wt (wdf g n) c n D (cmk X s)))) (k + 2) (n - 1 - D) (nI (pc 10 (cmk X s) + 1))) (k + 3) (n - 1 - D) (nI (n - s))) := by
          intro x
          unfold X9_weigh_b118
          rw [if_pos hpos]
          exact b131
        unfold X9_weigh_b113 X9_weigh_b117
        rw [e118, e118]
        split
        · rfl
        · split
          · split <;> rfl
          · rfl
    · have hts : s < t := by omega
      have u2 := unf2 _ _ t3.1 t3.2.1 (by have := hwt D (cmk X t) (by omega); omega) (by have := hpc (cmk X t); omega)
      have hne : ¬ nI (n - (s + 1)) = nI (n - 1 - D) := fun q => by
        rw [nI_inj (by omega) (by omega)] at q
        omega
      by_cases d : wt (wdf g n) c n D (cmk X s) < wt (wdf g n) c n D (cmk X t) ∨ (wt (wdf g n) c n D (cmk X s) = wt (wdf g n) c n D (cmk X t) ∧ pc 10 (cmk X s) + 1 < pc 10 (cmk X t) + 1)
      · refine stepW _ rfl (fun s' h1 h2 => ?_) ?_
        · by_cases e : s' = s
          · rw [e]
            exact rfK
          · have := t4 s' (by omega) h2
            unfold Kc at this ⊢
            omega
        · rw [u2, if_pos d]
          unfold X9_weigh_b113 X9_weigh_b118
          rw [if_neg hne, if_neg (show ¬ (1 : Int32) = 0 by decide)]
          exact b131
      · rw [u2, if_neg d]
        unfold X9_weigh_b117 X9_weigh_b118 X9_weigh_b155
        rw [if_neg hne, if_pos rfl, nI_1, show n - (s + 1) + 1 = n - s by omega]
        exact ih m σ (by omega) (by omega) hG hT (Or.inr ⟨t, by omega, t2, t3, fun s' h1 h2 => by
          by_cases e : s' = s
          · rw [e]
            unfold Kc
            omega
          · exact t4 s' (by omega) h2⟩)
end
