/-! PURE: all levels of the walk; parts. -/
section
variable {N : Nat → Nat} {k : Nat} {a : Int32}
def blp (bl : Nat → Nat) (d T : Nat) : Nat → Nat := fun j => if j = d then T else bl j
theorem scan_blp (bl : Nat → Nat) (d T : Nat) : scan (blp bl d T) (d + 1) = upp (scan bl d) T d := by
  funext p
  show (if (blp bl d T d).testBit p then d else scan (blp bl d T) d p) = if T.testBit p then d else scan bl d p
  rw [show blp bl d T d = T from if_pos rfl, scan_cg (bl := blp bl d T) (bl' := bl) p d (fun i hi => if_neg (by omega))]
theorem lev (hk : k ≤ 10) (ha : a = 0 ∨ a = 1) (hN : ∀ p, p < 10 → N p < 2 ^ 10) : ∀ (s S f d : Nat) (bl : Nat → Nat), pc 10 S ≤ s → ∀ (W : Nat) (σ : Mem) (v4 : Int32) (v6 : Nat) (X : (Nat → Nat) → Prop), LevP N k a d S f bl W v4 v6 σ X → LevR N k a d S f bl W v4 v6 σ X := by
  intro s
  induction s with
  | zero =>
    intro S f d bl hs W σ v4 v6 X P
    have := pc_oth P.2.2.1 (low_lt P.2.1 P.2.2.1)
    omega
  | succ s ihs =>
    intro S f d bl hs W
    induction W using Nat.strongRecOn with
    | ind W IHW =>
    intro σ v4 v6 X P
    have P' := P
    obtain ⟨p1, p2, p3, p4, p5, p6, p7, p8, p9, p10, p11, p12⟩ := P
    have hf := low_lt p2 p3
    have hW : W < 2 ^ 10 := sub_lt p4 (oth_lt p2)
    have hT : 2 ^ f ||| W < 2 ^ 10 := or_lt (pow_lt hf) hW
    have h6 : 1 ≤ 6 ^ pc 10 (andn (oth S f) W) := Nat.pow_pos (by omega)
    have hstk : ∀ σ' : Mem, (∀ j, j ≤ d → σ' 262 j = σ 262 j) → (∀ j, j ≤ d → σ' 263 j = σ 263 j) → Stk σ' (d + 1) (blp bl d (2 ^ f ||| W)) := by
      intro σ' e1 e2 j hj
      by_cases c : j = d
      · subst c
        exact ⟨S, f, W, p2, p3, hW, by rw [e1 j (by omega)]; exact p6, by rw [e2 j (by omega)]; exact p7, if_pos rfl⟩
      · obtain ⟨S, f, W, s1, s2, s3, s4, s5, s6⟩ := p8 j (by omega)
        exact ⟨S, f, W, s1, s2, s3, by rw [e1 j (by omega)]; exact s4, by rw [e2 j (by omega)]; exact s5, (if_neg c).trans s6⟩
    obtain ⟨r, hr, hcase⟩ := near_s N hN (2 ^ f ||| W) hT σ p1
    have st := step_s hk ha P' r hr
    rcases hcase with ⟨r1, hnear⟩ | ⟨r0, pp, qq, w1, w2, w3⟩
    · have rne : ¬ r = 0 := by rw [r1]; decide
      by_cases hR : andn S (2 ^ f ||| W) = 0
      · -- nothing is left: it is told
        obtain ⟨σ1, t1, t2, t3⟩ := tells_s d (by omega) (blp bl d (2 ^ f ||| W)) σ v4 X (hstk σ (fun _ _ => rfl) (fun _ _ => rfl)) p11
        rw [scan_blp] at t3
        have hone : Cp (nrT N) k (scan bl d) d S (upp (scan bl d) (2 ^ f ||| W) d) ∧ Bk (oth S f) W d (upp (scan bl d) (2 ^ f ||| W) d) := Cp_put p5 p3 p4 hnear (by rw [hR]; exact Cp_nil)
        have he : ∀ m, X12_parts_l15 (1 + m) 251 (nI k) a v4 (nI d) (nI v6) σ = X12_parts_l15 m 251 (nI k) a 1 (nI d) (nI (v6 + 1)) (wr σ1 263 d (if d + 1 = k ∨ W = 0 then -1 else nI ((W - 1) &&& oth S f))) := by
          intro m
          rw [Nat.add_comm 1 m, st m, if_neg rne, hR, if_pos (show nI 0 ≤ 0 by decide)]
          unfold X12_parts_b140 X12_parts_b172 X12_parts_b185
          rw [if_pos (show nI 0 ≤ 0 by decide)]
          by_cases c : v4 = 0
          · rw [if_pos c] at t1 ⊢
            rw [t1, ob_some, turns_s (by omega) hk p5 p2 p3 hW (by rw [t2 262 (by omega) (by omega)]; exact p6) (by rw [t2 263 (by omega) (by omega)]; exact p7), ob_some, nI_1]
          · rw [if_neg c] at t1 ⊢
            rw [t1, ob_some, turns_s (by omega) hk p5 p2 p3 hW (by rw [t2 262 (by omega) (by omega)]; exact p6) (by rw [t2 263 (by omega) (by omega)]; exact p7), ob_some, nI_1]
        rcases ha with ha0 | ha1
        · refine ⟨1, 1, d, _, G_pos _ _ _, he, fun q hq => by rw [wr_off _ _ _ (by omega), t2 q (by omega) (by omega)], Or.inr ⟨ha0, rfl, by omega, _, (Yt_step p4).mpr (Or.inl hone)⟩⟩
        · refine tail_s hk (Or.inr ha1) P' IHW 1 h6 rfl he (fun q hq => t2 q (by omega) (by omega)) (fun j hj => by rw [t2 262 (by omega) (by omega)]) (fun j hj => by rw [t2 263 (by omega) (by omega)]) (fun q => by rw [ha1] at q; exact absurd q (by decide)) (Told.cg t3 (fun p hp => rfl) (fun h => ?_))
          constructor
          · rintro (y | y)
            · exact Or.inl y
            · exact Or.inr (Cp_last y.1 p3 p4 y.2 hR)
          · rintro (y | y)
            · exact Or.inl y
            · right
              rw [y]
              exact hone
      · -- a level deeper
        have hd1 : ¬ d + 1 = k := by
          intro q
          apply hR
          rw [rest_eq, p9 q]
          exact andn_0.mpr (fun i hi => hi)
        have hRlt : andn S (2 ^ f ||| W) < 2 ^ 10 := andn_lt p2
        obtain ⟨g, hg⟩ := low_ex hR
        have hg10 := low_lt hRlt hg
        have hpcR : pc 10 (andn S (2 ^ f ||| W)) + 1 ≤ pc 10 S := by
          have e1 := pc_oth p3 hf
          have e2 : pc 10 (andn (oth S f) W) ≤ pc 10 (oth S f) := pc_mono (fun i hi => by
            rw [andn_bit] at hi
            simp only [Bool.and_eq_true] at hi
            exact hi.1) 10
          rw [rest_eq]
          omega
        have hpo := pc_oth hg hg10
        have hle := pc_le S 10
        have hcost := cost_step (pc 10 (andn S (2 ^ f ||| W))) (by omega) (pc_pos hR hRlt)
        have hGc : G 10 (oth (andn S (2 ^ f ||| W)) g) (oth (andn S (2 ^ f ||| W)) g) + 2 ≤ 6 ^ pc 10 (andn (oth S f) W) := by
          rw [G_all, show pc 10 (oth (andn S (2 ^ f ||| W)) g) = pc 10 (andn S (2 ^ f ||| W)) - 1 by omega, ← rest_eq]
          omega
        have hGW : 6 ^ pc 10 (andn (oth S f) W) ≤ G 10 (oth S f) W := by
          by_cases hw : W = 0
          · have : G 10 (oth S f) W = 6 ^ pc 10 (oth S f) := G_none 10 (fun i hi => by rw [hw]; exact Nat.zero_testBit i)
            rw [this]
            have e : pc 10 (andn (oth S f) W) = pc 10 (oth S f) := pc_cg 10 (fun i hi => by rw [andn_bit, hw, Nat.zero_testBit]; simp)
            rw [e]
            exact Nat.le_refl _
          · obtain ⟨g, hg⟩ := low_ex hw
            have := G_next hg p4 10 (low_lt hW hg)
            omega
        have he1 : ∀ m, X12_parts_l15 (1 + m) 251 (nI k) a v4 (nI d) (nI v6) σ = X12_parts_l15 m 251 (nI k) a v4 (nI (d + 1)) (nI (v6 + 1)) (wr (wr σ 262 (d + 1) (nI (andn S (2 ^ f ||| W)))) 263 (d + 1) (nI (oth (andn S (2 ^ f ||| W)) g))) := by
          intro m
          rw [Nat.add_comm 1 m, st m, if_neg rne, if_neg (show ¬ nI (andn S (2 ^ f ||| W)) ≤ 0 by rw [show (0 : Int32) = nI 0 from rfl, nI_le_iff (by omega) (by omega)]; omega), nI_1, if_neg (show ¬ nI (d + 1) = nI k by rw [nI_inj (by omega) (by omega)]; exact hd1)]
          unfold X12_parts_b140 X12_parts_b185
          rw [if_neg (show ¬ nI (andn S (2 ^ f ||| W)) ≤ 0 by rw [show (0 : Int32) = nI 0 from rfl, nI_le_iff (by omega) (by omega)]; omega), nI_1, opens_set (by omega) hRlt hg, ob_some, nI_1]
        have Q : LevP N k a (d + 1) (andn S (2 ^ f ||| W)) g (blp bl d (2 ^ f ||| W)) (oth (andn S (2 ^ f ||| W)) g) v4 (v6 + 1) (wr (wr σ 262 (d + 1) (nI (andn S (2 ^ f ||| W)))) 263 (d + 1) (nI (oth (andn S (2 ^ f ||| W)) g))) X := by
          refine ⟨fun p hp => by rw [wr_off _ _ _ (by omega), wr_off _ _ _ (by omega)]; exact p1 p hp, hRlt, hg, fun i hi => hi, by omega, by rw [wr_off _ _ _ (by omega), wr_at], wr_at _ _ _ _, hstk _ (fun j hj => by rw [wr_off _ _ _ (by omega), wr_in _ _ (by omega)]) (fun j hj => by rw [wr_in _ _ (by omega), wr_off _ _ _ (by omega)]), fun _ => rfl, p10, Told.cg p11 (fun p hp => by rw [wr_off _ _ _ (by omega), wr_off _ _ _ (by omega)]) (fun h => Iff.rfl), by omega⟩
        obtain ⟨n1, v4', d', σ', q1, q2, q3, q4⟩ := ihs _ g (d + 1) _ (by omega) _ _ _ _ _ Q
        have hone : ∀ h, Yt (nrT N) k (scan (blp bl d (2 ^ f ||| W)) (d + 1)) (d + 1) (andn S (2 ^ f ||| W)) g (oth (andn S (2 ^ f ||| W)) g) h ↔ (Cp (nrT N) k (scan bl d) d S h ∧ Bk (oth S f) W d h) := by
          intro h
          rw [Yt_all hRlt, scan_blp]
          exact ⟨fun c => Cp_put p5 p3 p4 hnear c, fun c => Cp_more c.1 p3 p4 c.2⟩
        rcases q4 with ⟨u1, u2, u3, u4, u5, u6⟩ | ⟨u1, u2, u3, h, u4⟩
        · rw [u1] at q2
          have e62 : ∀ j, j ≤ d → σ' 262 j = σ 262 j := fun j hj => by rw [u3 j (by omega), wr_off _ _ _ (by omega), wr_in _ _ (by omega)]
          have e63 : ∀ j, j ≤ d → σ' 263 j = σ 263 j := fun j hj => by rw [u4 j (by omega), wr_in _ _ (by omega), wr_off _ _ _ (by omega)]
          refine tail_s hk ha P' IHW (1 + (n1 + 1)) (by omega) (v6a := v6 + (1 + (n1 + 1))) rfl (fun m => ?_) (fun q hq => by rw [q3 q hq, wr_off _ _ _ (by omega), wr_off _ _ _ (by omega)]) e62 (fun j hj => e63 j (by omega)) u5 (Told.cg u6 (fun p hp => rfl) (fun h => by rw [hone h]))
          rw [show 1 + (n1 + 1) + m = 1 + (n1 + (m + 1)) by omega, he1, q2 (m + 1), pop_s hk ha (by omega) u2 u5 (by omega), turns_s (by omega) hk p5 p2 p3 hW (by rw [e62 d (by omega)]; exact p6) (by rw [e63 d (by omega)]; exact p7), ob_some, show v6 + 1 + n1 + 1 = v6 + (1 + (n1 + 1)) by omega]
        · refine ⟨1 + n1, v4', d', σ', by omega, fun m => ?_, fun q hq => by rw [q3 q hq, wr_off _ _ _ (by omega), wr_off _ _ _ (by omega)], Or.inr ⟨u1, u2, u3, h, (Yt_step p4).mpr (Or.inl ((hone h).mp u4))⟩⟩
          rw [Nat.add_assoc, he1, q2 m, Nat.add_assoc]
    · -- the set is not near
      refine tail_s hk ha P' IHW 1 h6 rfl (fun m => ?_) (fun q hq => rfl) (fun j hj => rfl) (fun j hj => rfl) p10 (Told.cg p11 (fun p hp => rfl) (fun h => ?_))
      · rw [Nat.add_comm 1 m, st m, if_pos r0, b130_s hk p5 p2 p3 hW p6 p7]
      · constructor
        · rintro (y | y)
          · exact y
          · exact absurd (Cp_near y.1 p3 p4 y.2 pp qq w1 w2) w3
        · exact Or.inl
/-- parts, from a set that is not empty: what has been told -/
theorem parts_s (hk : k ≤ 10) (hk0 : 0 < k) (ha : a = 0 ∨ a = 1) (hN : ∀ p, p < 10 → N p < 2 ^ 10) {S : Nat} (hS : S < 2 ^ 10) (hS0 : S ≠ 0) (σ : Mem) (h1 : ∀ p, p < 10 → σ 261 p = nI (N p)) : ∃ r σ', X12_parts 251 (nI S) (nI k) a σ = some (r, σ') ∧ (∀ q, (q < 262 ∨ 266 ≤ q) → σ' q = σ q) ∧ (a = 1 → Told σ' r (Cp (nrT N) k (fun _ => 0) 0 S)) ∧ (a = 0 → (r = 0 ∧ ∀ h, ¬ Cp (nrT N) k (fun _ => 0) 0 S h) ∨ (r = 1 ∧ ∃ h, Cp (nrT N) k (fun _ => 0) 0 S h)) := by
  obtain ⟨f, hf⟩ := low_ex hS0
  have hf10 := low_lt hS hf
  have hc : G 10 (oth S f) (oth S f) ≤ 7 ^ 9 := by
    rw [G_all]
    have e1 := pc_oth hf hf10
    have e2 := pc_le S 10
    exact Nat.pow_le_pow_right (by omega) (by omega)
  have Q : LevP N k a 0 S f (fun _ => 0) (oth S f) 0 0 (wr (wr σ 262 0 (nI S)) 263 0 (nI (oth S f))) (fun _ => False) := by
    refine ⟨fun p hp => by rw [wr_off _ _ _ (by omega), wr_off _ _ _ (by omega)]; exact h1 p hp, hS, hf, fun i hi => hi, hk0, by rw [wr_off _ _ _ (by omega), wr_at], wr_at _ _ _ _, fun j hj => by omega, fun _ => rfl, fun _ => rfl, Or.inl ⟨rfl, fun h q => q⟩, by omega⟩
  obtain ⟨n, v4', d', σ', q1, q2, q3, q4⟩ := lev hk ha hN _ S f 0 (fun _ => 0) (Nat.le_refl _) _ _ _ _ _ Q
  have hs0 : scan (fun _ => 0) 0 = fun _ => 0 := by
    funext p
    rfl
  have hy : ∀ h, Yt (nrT N) k (scan (fun _ => 0) 0) 0 S f (oth S f) h ↔ Cp (nrT N) k (fun _ => 0) 0 S h := fun h => by rw [Yt_all hS, hs0]
  have hstart : X12_parts 251 (nI S) (nI k) a σ = X12_parts_l15 FU 251 (nI k) a 0 (nI 0) (nI 0) (wr (wr σ 262 0 (nI S)) 263 0 (nI (oth S f))) := by
    unfold X12_parts X12_parts_b0
    rw [show X12_opensSet 251 0 (nI S) σ = some (wr (wr σ 262 0 (nI S)) 263 0 (nI (oth S f))) from opens_set (d := 0) (by omega) hS hf, ob_some]
    rfl
  have h79 : 7 ^ 9 < 50000000 := by decide
  have hfu : FU = n + ((999999998 - n) + 1 + 1) := by unfold FU; omega
  rw [hstart, hfu, q2]
  rcases q4 with ⟨u1, u2, u3, u4, u5, u6⟩ | ⟨u1, u2, u3, h, u4⟩
  · -- back at the top: one more step, then the end
    have hv4 : v4' = 0 ∨ v4' = 1 := by
      rcases u6 with ⟨e, _⟩ | ⟨e, _⟩
      · exact Or.inl e
      · exact Or.inr e
    have e1 : X12_parts_l15 (999999998 - n + 1 + 1) 251 (nI k) a v4' (nI d') (nI (0 + n)) σ' = some (v4', σ') := by
      rw [u1]
      have hb36 : X12_parts_l15 (999999998 - n + 1 + 1) 251 (nI k) a v4' (nI 0) (nI (0 + n)) σ' = X12_parts_b36 (X12_parts_l15 (999999998 - n + 1)) 251 (nI k) a v4' (nI 0) (nI (0 + n)) σ' := by
        show X12_parts_b15 _ 251 (nI k) a v4' (nI 0) (nI (0 + n)) σ' = _
        unfold X12_parts_b15
        rw [if_neg (show ¬ (600000000 : Int32) ≤ nI (0 + n) from nI_ge (b := 600000000) (by omega) (by omega)), if_neg (nI_nn (by omega))]
        by_cases c : a = 0
        · rw [if_pos c, if_pos (u5 c)]
        · rw [if_neg c]
      rw [hb36]
      unfold X12_parts_b36
      rw [gdx_n (by omega) (by omega), nc_n (by omega), show σ' (251 + 12) 0 = -1 from u2, if_neg (by decide)]
      unfold X12_parts_b64
      rw [gdx_n (by omega) (by omega), letv_eq, gdx_n (by omega) (by omega), nc_n (by omega), show σ' (251 + 12) 0 = -1 from u2, if_neg (by decide), if_pos (by decide)]
      unfold X12_parts_b185
      show X12_parts_b15 _ 251 (nI k) a v4' (nI 0 + (-1)) (nI (0 + n) + 1) σ' = _
      unfold X12_parts_b15
      rw [nI_1, if_neg (show ¬ (600000000 : Int32) ≤ nI (0 + n + 1) from nI_ge (b := 600000000) (by omega) (by omega)), if_pos (by decide)]
      rcases hv4 with e | e
      · rw [e, gdb_0]
      · rw [e, gdb_1]
    refine ⟨v4', σ', e1, fun q hq => by rw [q3 q hq, wr_off _ _ _ (by omega), wr_off _ _ _ (by omega)], fun _ => Told.cg u6 (fun p hp => rfl) (fun h => ?_), fun c => Or.inl ⟨u5 c, fun h hh => ?_⟩⟩
    · rw [hy h]
      exact ⟨Or.inr, fun x => x.elim False.elim id⟩
    · rcases u6 with ⟨_, e2⟩ | ⟨e, _⟩
      · exact e2 h (Or.inr ((hy h).mpr hh))
      · rw [u5 c] at e
        exact absurd e (by decide)
  · have e1 : X12_parts_l15 (999999998 - n + 1 + 1) 251 (nI k) a v4' (nI d') (nI (0 + n)) σ' = some (1, σ') := by
      show X12_parts_b15 _ 251 (nI k) a v4' (nI d') (nI (0 + n)) σ' = _
      unfold X12_parts_b15
      rw [if_neg (show ¬ (600000000 : Int32) ≤ nI (0 + n) from nI_ge (b := 600000000) (by omega) (by omega)), if_neg (nI_nn (by omega)), if_pos u1, u2, if_neg (by decide), gdb_1]
    refine ⟨1, σ', e1, fun q hq => by rw [q3 q hq, wr_off _ _ _ (by omega), wr_off _ _ _ (by omega)], fun c => by rw [u1] at c; exact absurd c (by decide), fun _ => Or.inr ⟨rfl, h, (hy h).mp u4⟩⟩
end
