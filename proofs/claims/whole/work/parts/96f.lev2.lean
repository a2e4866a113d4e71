/-! PURE: one level of the walk. -/
section
variable {N : Nat → Nat} {k : Nat} {a : Int32}
/-- where a level ends -/
def LevR (N : Nat → Nat) (k : Nat) (a : Int32) (d S f : Nat) (bl : Nat → Nat) (W : Nat) (v4 : Int32) (v6 : Nat) (σ : Mem) (X : (Nat → Nat) → Prop) : Prop := ∃ (n : Nat) (v4' : Int32) (d' : Nat) (σ' : Mem), n ≤ G 10 (oth S f) W ∧ (∀ m, X12_parts_l15 (n + m) 251 (nI k) a v4 (nI d) (nI v6) σ = X12_parts_l15 m 251 (nI k) a v4' (nI d') (nI (v6 + n)) σ') ∧ (∀ q, (q < 262 ∨ 266 ≤ q) → σ' q = σ q) ∧ ((d' = d ∧ σ' 263 d = -1 ∧ (∀ j, j ≤ d → σ' 262 j = σ 262 j) ∧ (∀ j, j < d → σ' 263 j = σ 263 j) ∧ (a = 0 → v4' = 0) ∧ Told σ' v4' (fun h => X h ∨ Yt (nrT N) k (scan bl d) d S f W h)) ∨ (a = 0 ∧ v4' = 1 ∧ d' ≤ 10 ∧ ∃ h, Yt (nrT N) k (scan bl d) d S f W h))
def LevP (N : Nat → Nat) (k : Nat) (a : Int32) (d S f : Nat) (bl : Nat → Nat) (W : Nat) (v4 : Int32) (v6 : Nat) (σ : Mem) (X : (Nat → Nat) → Prop) : Prop := (∀ p, p < 10 → σ 261 p = nI (N p)) ∧ S < 2 ^ 10 ∧ isLow S f ∧ sub W (oth S f) ∧ d < k ∧ σ 262 d = nI S ∧ σ 263 d = nI W ∧ Stk σ d bl ∧ (d + 1 = k → W = oth S f) ∧ (a = 0 → v4 = 0) ∧ Told σ v4 X ∧ v6 + G 10 (oth S f) W < 600000000
theorem Stk.cg {σ σ' : Mem} {d : Nat} {bl : Nat → Nat} (h : Stk σ d bl) (e1 : ∀ j, j < d → σ' 262 j = σ 262 j) (e2 : ∀ j, j < d → σ' 263 j = σ 263 j) : Stk σ' d bl := by
  intro j hj
  obtain ⟨S, f, W, s1, s2, s3, s4, s5, s6⟩ := h j hj
  exact ⟨S, f, W, s1, s2, s3, by rw [e1 j hj]; exact s4, by rw [e2 j hj]; exact s5, s6⟩
theorem sub_lt {V O n : Nat} (h : sub V O) (hO : O < 2 ^ n) : V < 2 ^ n := Nat.lt_of_le_of_lt (sub_le h) hO
/-- one step at a set that is still to be tried -/
theorem step_s (hk : k ≤ 10) (ha : a = 0 ∨ a = 1) {d S f : Nat} {bl : Nat → Nat} {W : Nat} {v4 : Int32} {v6 : Nat} {σ : Mem} {X : (Nat → Nat) → Prop} (P : LevP N k a d S f bl W v4 v6 σ X) (r : Int32) (hr : X12_isNear 251 (nI (2 ^ f ||| W)) σ = some r) (m : Nat) : X12_parts_l15 (m + 1) 251 (nI k) a v4 (nI d) (nI v6) σ = if r = 0 then X12_parts_b130 (X12_parts_l15 m) 251 (nI k) a v4 (nI d) (nI v6) σ else if nI (andn S (2 ^ f ||| W)) ≤ 0 then X12_parts_b140 (X12_parts_l15 m) 251 (nI k) a v4 (nI d) (nI v6) (nI (andn S (2 ^ f ||| W))) σ else if nI d + 1 = nI k then X12_parts_b130 (X12_parts_l15 m) 251 (nI k) a v4 (nI d) (nI v6) σ else X12_parts_b140 (X12_parts_l15 m) 251 (nI k) a v4 (nI d) (nI v6) (nI (andn S (2 ^ f ||| W))) σ := by
  obtain ⟨p1, p2, p3, p4, p5, p6, p7, p8, p9, p10, p11, p12⟩ := P
  have hf := low_lt p2 p3
  have hW : W < 2 ^ 10 := sub_lt p4 (oth_lt p2)
  have hb36 : X12_parts_l15 (m + 1) 251 (nI k) a v4 (nI d) (nI v6) σ = X12_parts_b36 (X12_parts_l15 m) 251 (nI k) a v4 (nI d) (nI v6) σ := by
    show X12_parts_b15 _ 251 (nI k) a v4 (nI d) (nI v6) σ = _
    unfold X12_parts_b15
    rw [if_neg (show ¬ (600000000 : Int32) ≤ nI v6 from nI_ge (b := 600000000) (by omega) (by omega)), if_neg (nI_nn (by omega))]
    by_cases c : a = 0
    · rw [if_pos c, if_pos (p10 c)]
    · rw [if_neg c]
  rw [hb36]
  unfold X12_parts_b36
  rw [gdx_n (by omega) (by omega), nc_n (by omega), show σ (251 + 12) d = nI W from p7, if_pos (nI_ge0 (by omega)), one_s (by omega) p6 p2 p3, ob_some, gdx_n (by omega) (by omega), nI_or]
  unfold X12_parts_b64
  rw [gdx_n (by omega) (by omega), letv_eq, gdx_n (by omega) (by omega), nc_n (by omega), show σ (251 + 12) d = nI W from p7, if_pos (nI_ge0 (by omega)), hr, ob_some, show σ (251 + 11) d = nI S from p6, nI_andn]
/-- going back from a level that has ended -/
theorem pop_s (hk : k ≤ 10) (ha : a = 0 ∨ a = 1) {d : Nat} {v4 : Int32} {v6 : Nat} {σ : Mem} (hd : d < 10) (h1 : σ 263 (d + 1) = -1) (h4 : a = 0 → v4 = 0) (h6 : v6 < 600000000) (m : Nat) : X12_parts_l15 (m + 1) 251 (nI k) a v4 (nI (d + 1)) (nI v6) σ = ob (X12_turns 251 (nI d) (nI k) σ) (fun σ1 => X12_parts_l15 m 251 (nI k) a v4 (nI d) (nI (v6 + 1)) σ1) := by
  have hb36 : X12_parts_l15 (m + 1) 251 (nI k) a v4 (nI (d + 1)) (nI v6) σ = X12_parts_b36 (X12_parts_l15 m) 251 (nI k) a v4 (nI (d + 1)) (nI v6) σ := by
    show X12_parts_b15 _ 251 (nI k) a v4 (nI (d + 1)) (nI v6) σ = _
    unfold X12_parts_b15
    rw [if_neg (show ¬ (600000000 : Int32) ≤ nI v6 from nI_ge (b := 600000000) (by omega) (by omega)), if_neg (nI_nn (by omega))]
    by_cases c : a = 0
    · rw [if_pos c, if_pos (h4 c)]
    · rw [if_neg c]
  rw [hb36]
  unfold X12_parts_b36
  rw [gdx_n (by omega) (by omega), nc_n (by omega), show σ (251 + 12) (d + 1) = -1 from h1, if_neg (by decide)]
  unfold X12_parts_b64
  rw [gdx_n (by omega) (by omega), letv_eq, gdx_n (by omega) (by omega), nc_n (by omega), show σ (251 + 12) (d + 1) = -1 from h1, if_neg (by decide), nI_m1, if_neg (nI_nn (by omega))]
  unfold X12_parts_b185
  rw [nI_1]
theorem b130_s (hk : k ≤ 10) {d S f W : Nat} {v4 : Int32} {v6 : Nat} {σ : Mem} (hd : d < k) (hS : S < 2 ^ 10) (hf : isLow S f) (hW : W < 2 ^ 10) (h1 : σ 262 d = nI S) (h2 : σ 263 d = nI W) (m : Nat) : X12_parts_b130 (X12_parts_l15 m) 251 (nI k) a v4 (nI d) (nI v6) σ = X12_parts_l15 m 251 (nI k) a v4 (nI d) (nI (v6 + 1)) (wr σ 263 d (if d + 1 = k ∨ W = 0 then -1 else nI ((W - 1) &&& oth S f))) := by
  unfold X12_parts_b130
  rw [turns_s (by omega) hk hd hS hf hW h1 h2, ob_some]
  unfold X12_parts_b185
  rw [nI_1]
/-- the rest of a level, once W has been tried -/
theorem tail_s (hk : k ≤ 10) (ha : a = 0 ∨ a = 1) {d S f : Nat} {bl : Nat → Nat} {W : Nat} {v4 v4a : Int32} {v6 v6a : Nat} {σ σa : Mem} {X : (Nat → Nat) → Prop} (P : LevP N k a d S f bl W v4 v6 σ X) (IH : ∀ W', W' < W → ∀ (σ : Mem) (v4 : Int32) (v6 : Nat) (X : (Nat → Nat) → Prop), LevP N k a d S f bl W' v4 v6 σ X → LevR N k a d S f bl W' v4 v6 σ X) (n0 : Nat) (hn0 : n0 ≤ 6 ^ pc 10 (andn (oth S f) W)) (hv6 : v6a = v6 + n0) (he : ∀ m, X12_parts_l15 (n0 + m) 251 (nI k) a v4 (nI d) (nI v6) σ = X12_parts_l15 m 251 (nI k) a v4a (nI d) (nI v6a) (wr σa 263 d (if d + 1 = k ∨ W = 0 then -1 else nI ((W - 1) &&& oth S f)))) (fr : ∀ q, (q < 262 ∨ 266 ≤ q) → σa q = σ q) (f1 : ∀ j, j ≤ d → σa 262 j = σ 262 j) (f2 : ∀ j, j < d → σa 263 j = σ 263 j) (h4 : a = 0 → v4a = 0) (ht : Told σa v4a (fun h => X h ∨ (Cp (nrT N) k (scan bl d) d S h ∧ Bk (oth S f) W d h))) : LevR N k a d S f bl W v4 v6 σ X := by
  obtain ⟨p1, p2, p3, p4, p5, p6, p7, p8, p9, p10, p11, p12⟩ := P
  have hf := low_lt p2 p3
  have hO : oth S f < 2 ^ 10 := oth_lt p2
  by_cases c : d + 1 = k ∨ W = 0
  · -- the level has ended
    refine ⟨n0, v4a, d, wr σa 263 d (-1), ?_, fun m => ?_, fun q hq => by rw [wr_off _ _ _ (by omega), fr q hq], Or.inl ⟨rfl, wr_at _ _ _ _, fun j hj => by rw [wr_off _ _ _ (by omega), f1 j hj], fun j hj => by rw [wr_in _ _ (by omega), f2 j hj], h4, Told.cg ht (fun p hp => by rw [wr_off _ _ _ (by omega)]) (fun h => ?_)⟩⟩
    · by_cases hw : W = 0
      · have : G 10 (oth S f) W = 6 ^ pc 10 (oth S f) := G_none 10 (fun i hi => by rw [hw]; exact Nat.zero_testBit i)
        rw [this]
        have e : pc 10 (andn (oth S f) W) = pc 10 (oth S f) := pc_cg 10 (fun i hi => by rw [andn_bit, hw, Nat.zero_testBit]; simp)
        rw [← e]
        exact hn0
      · obtain ⟨g, hg⟩ := low_ex hw
        have := G_next hg p4 10 (low_lt (sub_lt p4 hO) hg)
        omega
    · rw [he m, if_pos c, hv6]
    · show X h ∨ Yt (nrT N) k (scan bl d) d S f W h ↔ X h ∨ (Cp (nrT N) k (scan bl d) d S h ∧ Bk (oth S f) W d h)
      have hy : Yt (nrT N) k (scan bl d) d S f W h ↔ (Cp (nrT N) k (scan bl d) d S h ∧ Bk (oth S f) W d h) := by
        constructor
        · intro y
          rcases c with c | c
          · refine ⟨y.1, fun p hp => ?_⟩
            rw [p9 c]
            refine ⟨fun _ => ?_, fun _ => hp⟩
            rw [oth_bit] at hp
            simp only [Bool.and_eq_true] at hp
            have := y.1.2.1 p hp.1
            omega
          · rcases (Yt_step p4).mp y with y | y
            · exact y
            · exact absurd c y.1
        · intro y
          exact (Yt_step p4).mpr (Or.inl y)
      rw [hy]
  · have hw : W ≠ 0 := fun q => c (Or.inr q)
    have hd1 : ¬ d + 1 = k := fun q => c (Or.inl q)
    obtain ⟨g, hg⟩ := low_ex hw
    have hg10 := low_lt (sub_lt p4 hO) hg
    have hG := G_next hg p4 10 hg10
    have hs' : sub ((W - 1) &&& oth S f) (oth S f) := fun i hi => by
      rw [Nat.testBit_and] at hi
      simp only [Bool.and_eq_true] at hi
      exact hi.2
    have Q : LevP N k a d S f bl ((W - 1) &&& oth S f) v4a v6a (wr σa 263 d (nI ((W - 1) &&& oth S f))) (fun h => X h ∨ (Cp (nrT N) k (scan bl d) d S h ∧ Bk (oth S f) W d h)) := by
      refine ⟨fun p hp => by rw [wr_off _ _ _ (by omega), fr 261 (by omega)]; exact p1 p hp, p2, p3, hs', p5, by rw [wr_off _ _ _ (by omega), f1 d (by omega)]; exact p6, wr_at _ _ _ _, Stk.cg p8 (fun j hj => by rw [wr_off _ _ _ (by omega), f1 j (by omega)]) (fun j hj => by rw [wr_in _ _ (by omega), f2 j hj]), fun q => absurd q hd1, h4, Told.cg ht (fun p hp => by rw [wr_off _ _ _ (by omega)]) (fun h => Iff.rfl), by omega⟩
    obtain ⟨n, v4', d', σ', q1, q2, q3, q4⟩ := IH _ (next_lt hg) _ _ _ _ Q
    refine ⟨n0 + n, v4', d', σ', by omega, fun m => ?_, fun q hq => by rw [q3 q hq, wr_off _ _ _ (by omega), fr q hq], ?_⟩
    · rw [Nat.add_assoc, he (n + m), if_neg c, q2 m, hv6, Nat.add_assoc]
    · rcases q4 with ⟨u1, u2, u3, u4, u5, u6⟩ | ⟨u1, u2, u3, h, u4⟩
      · refine Or.inl ⟨u1, u2, fun j hj => by rw [u3 j hj, wr_off _ _ _ (by omega), f1 j hj], fun j hj => by rw [u4 j hj, wr_in _ _ (by omega), f2 j hj], u5, Told.cg u6 (fun p hp => rfl) (fun h => ?_)⟩
        show X h ∨ Yt (nrT N) k (scan bl d) d S f W h ↔ (X h ∨ (Cp (nrT N) k (scan bl d) d S h ∧ Bk (oth S f) W d h)) ∨ Yt (nrT N) k (scan bl d) d S f ((W - 1) &&& oth S f) h
        rw [Yt_step p4]
        constructor
        · rintro (y | y | y)
          · exact Or.inl (Or.inl y)
          · exact Or.inl (Or.inr y)
          · exact Or.inr y.2
        · rintro ((y | y) | y)
          · exact Or.inl y
          · exact Or.inr (Or.inl y)
          · exact Or.inr (Or.inr ⟨hw, y⟩)
      · exact Or.inr ⟨u1, u2, u3, h, (Yt_step p4).mpr (Or.inr ⟨hw, u4⟩)⟩
end
