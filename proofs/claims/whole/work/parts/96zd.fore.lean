/-! PURE: without, least. -/
/-- both sides end with nothing but scratch changed -/
theorem Ref.fore {σ σ' : Mem} {B : Nat → Nat} {m : Nat} {L I : Nat → Nat → Nat} (h : Ref FOK σ B m L I) (fr : ∀ q, (q < 211 ∨ (237 ≤ q ∧ q < 256) ∨ 268 ≤ q ∨ q = 258 ∨ q = 259) → σ' q = σ q) : Ref FOK σ' B m L I := by
  have h' := h
  obtain ⟨_, _, _, _, _, _, _, _, _, _, _, _, r13⟩ := h
  exact Ref.sc h' (fun q a b c d => fr q (by unfold Scr at d; omega)) (by rw [fr 0 (by omega)]) (by rw [fr 0 (by omega)]) (by rw [fr 251 (by omega)]) (by rw [fr 251 (by omega)]) (by rw [fr 251 (by omega)]) (by rw [fr 251 (by omega)]) (by rw [fr 251 (by omega)]) (Fsh.cg FOK_loc r13 (by rw [fr 0 (by omega)]) (fun q a b => fr q (by omega)))
theorem then_s {B : Nat → Nat} {σ : Mem} (hn : B 0 ≤ 10) (h : RwB (σ 255) 0 B) : ∃ σ', X12_layThen 251 σ = some σ' ∧ RwB (σ' 257) 0 B ∧ ∀ q, q ≠ 257 → σ' q = σ q := by
  obtain ⟨f, e1, e2⟩ := then_c 43 0 FU σ (by omega) (by unfold FU; omega)
  refine ⟨wrF σ 257 f, e1, fun t ht => ?_, fun q hq => wrF_ne _ _ hq⟩
  rw [wrF_same, e2, if_pos (by omega)]
  have := h t ht
  rw [Nat.zero_add] at this ⊢
  exact this
theorem op_without (σ : Mem) (h : InvF FOK σ) (v1 : Int32) : ∃ (r : Int32) (σ1 σ2 : Mem), X11_without 0 v1 σ = some (r, σ1) ∧ X12_without 251 v1 σ1 = some (r, σ2) ∧ InvF FOK σ2 := by
  have hI := h
  obtain ⟨B, m, L, I, h⟩ := h
  obtain ⟨r6, r7, r8⟩ := ref_rb h
  have n1 : σ 22 0 = nI (B 0) := r7.1
  have n2 : σ 255 0 = nI (B 0) := r8 0 (by omega)
  have hn := r6.1
  have hl := r6.2.1
  unfold X11_without X11_without_b0 X12_without X12_without_b0
  rcases pgs v1 (B 0) hn with ⟨p, hp, rfl, t1, t2⟩ | ⟨t1, t2⟩
  · rw [t1 σ n1, if_neg (by decide), show σ (0 + 22) 0 = _ from n1]
    by_cases c : B 0 = 1
    · refine ⟨-1000002, σ, σ, by rw [c, if_pos (show nI 1 = 1 from rfl)], ?_, hI⟩
      rw [t2 σ n2, ob_some, if_neg (by decide), show σ (251 + 4) (nc 0) = nI (B 0) from n2, c, if_pos (show nI 1 = 1 from rfl)]
    · have cc : ¬ nI (B 0) = 1 := fun q => c ((nI_inj (b := 1) (by omega) (by omega)).mp q)
      rw [if_neg cc]
      have hcut := okB_cut r6 hp
      have hc0 : cutB B p 0 = B 0 - 1 := rfl
      have hc1 : cutB B p 1 = B 1 := by
        unfold cutB
        rw [if_neg (by omega), if_pos (by omega)]
      obtain ⟨σa, a1, a2, a3⟩ := like_s 212 22 (by omega) σ B r7 hn
      obtain ⟨σb, b1, b2, b3⟩ := cut_s 212 p σa B a2 hp hn
      obtain ⟨σc, c1, c2, c3, c4⟩ := survey_s 219 212 (by omega) (cutB B p) hcut σb b2
      obtain ⟨σd, d1, d2, d3, d4⟩ := find_s (k := 218) hcut.1 (far20 hcut) (far_comm _) (far_self _) (B 1) (by omega) σc c2
      have fr : ∀ q, (q < 211 ∨ 237 ≤ q) → σd q = σ q := fun q hq => by rw [d3 q (by omega) (by omega) (by omega) (by omega), c3 q (by omega), b3 q (by omega), a3 q (by omega)]
      have hlim : σc 212 1 = nI (B 1) := by
        rw [c3 212 (by omega), b2.2.1, hc1]
      rcases d2.2 with ⟨e0, _⟩ | ⟨_, kk, hh, e1, e2, e3⟩
      · rw [hc0] at e0
        omega
      have hRd : RwB (σd 255) 0 B := by rw [fr 255 (by omega)]; exact r8
      have n3 : σd 255 0 = nI (B 0) := hRd 0 (by omega)
      obtain ⟨σe, f1, f2, f3⟩ := then_s hn hRd
      obtain ⟨f, g1, g2⟩ := closes_s 257 p σe B f2 hp hn
      obtain ⟨σg, kk', h', k1, k2, k3, k4, k5⟩ := hands_s (k1 := 257) (by omega) hcut (by rw [hc0]; omega) (B 1) (by omega) (wrF σe 257 f) (by rw [wrF_same]; exact g2) (by
        have := g2 1 (by omega)
        rw [Nat.zero_add, hc1] at this
        rw [wrF_same]
        exact this)
      obtain ⟨u1, _⟩ := HOK_uniq k2 e1
      refine ⟨nI kk, σd, σg, ?_, ?_, ⟨B, m, L, I, Ref.fore h (fun q hq => by rw [k5 q (by omega), wrF_ne _ _ (by omega), f3 q (by omega), fr q (by omega)])⟩⟩
      · unfold X3_handsWithout X3_handsWithout_b0
        rw [show X2_becomeLike (0 + 211 + 1) (0 + 22) σ = some σa from a1, ob_some, show X2_cut (0 + 211 + 1) (nI p) σa = some σb from b1, ob_some, show X5_survey (0 + 211 + 7 + 1) (0 + 211 + 1) σb = some σc from c1, ob_some, show σc (0 + 211 + 1) 1 = nI (B 1) from hlim, show X6_findFor (0 + 211 + 7) (nI (B 1)) σc = some σd from d1, ob_some, ob2_some, show σd (0 + 211 + 7) 3 = nI kk from e3]
      · rw [t2 _ n3, ob_some, if_neg (by decide), show σd (251 + 4) (nc 0) = nI (B 0) from n3, if_neg cc, f1, ob_some, show X12_closes (251 + 6) (nI p) σe = _ from g1, ob_some, show X12_layHands 251 (251 + 6) (wrF σe 257 f) = _ from k1, ob2_some, u1]
  · exact ⟨-1000001, σ, σ, by rw [t1 σ n1, if_pos rfl], by rw [t2 σ n2, ob_some, if_pos rfl], hI⟩
/-- so many hands will do by the limit l -/
def Okl (B : Nat → Nat) (v l : Nat) : Prop := ∃ h, Val (nrT (nrM (far B) (B 0) l)) (B 0) v h
theorem Okl_mono {B : Nat → Nat} {v l l' : Nat} (hl : l ≤ l') (h : Okl B v l) : Okl B v l' := by
  obtain ⟨f, hf⟩ := h
  exact ⟨f, Val_mono hf (Nat.le_refl v) (fun p q hp hq x => (nrM_bit _ _ _ p q).mpr ⟨hq, by have := ((nrM_bit _ _ _ p q).mp x).2; omega⟩)⟩
theorem Okl_top {B : Nat → Nat} (ho : okB B) {v : Nat} (hv : 1 ≤ v) : Okl B v 200 := ⟨fun _ => 0, fun p _ => by show 0 < v; omega, fun p q hp hq _ => (nrM_bit _ _ _ p q).mpr ⟨hq, by have := far_le ho hp hq; omega⟩, fun p _ j hj => absurd hj (Nat.not_lt_zero j)⟩
theorem half_l {B : Nat → Nat} (ho : okB B) (hn0 : 0 < B 0) (v : Nat) (hv : 1 ≤ v) (hv10 : v ≤ 10) : ∀ (e s m low high : Nat) (σ : Mem), s + e = 10 → e < m → low ≤ high → high ≤ 200 → high - low < 2 ^ e → Gp σ 219 (B 0) (far B) → (∀ l, l < low → ¬ Okl B v l) → Okl B v high → ∃ σ' l, X3_leastLimit_l21 m 211 (nI v) (nI low) (nI high) (nI s) σ = some (nI l, σ') ∧ Okl B v l ∧ (∀ l', l' < l → ¬ Okl B v l') ∧ l ≤ 200 ∧ ∀ q, (q < 211 ∨ 237 ≤ q) → σ' q = σ q := by
  have hn := ho.1
  intro e
  induction e with
  | zero =>
    intro s m low high σ hs hm h1 h2 h3 hG hlow hhigh
    obtain ⟨m, rfl⟩ : ∃ m', m = m' + 1 := ⟨m - 1, by omega⟩
    obtain rfl : s = 10 := by omega
    have e : low = high := by omega
    subst e
    exact ⟨σ, low, rfl, hhigh, hlow, by omega, fun q _ => rfl⟩
  | succ e ih =>
    intro s m low high σ hs hm h1 h2 h3 hG hlow hhigh
    obtain ⟨m, rfl⟩ : ∃ m', m = m' + 1 := ⟨m - 1, by omega⟩
    by_cases c : high ≤ low
    · have e : low = high := by omega
      subst e
      refine ⟨σ, low, ?_, hhigh, hlow, by omega, fun q _ => rfl⟩
      show X3_leastLimit_b21 _ 211 (nI v) (nI low) (nI low) (nI s) σ = _
      unfold X3_leastLimit_b21
      rw [if_neg (show ¬ (10 : Int32) ≤ nI s from nI_ge (b := 10) (by omega) (by omega)), if_pos (nI_le (by omega) (by omega))]
    · have hpow : 2 ^ (e + 1) = 2 * 2 ^ e := by rw [Nat.pow_succ]; omega
      obtain ⟨σ1, a1, a2, a3⟩ := mark_s hn (far20 ho) ((low + high) / 2) (by omega) σ hG
      have hG1 : Gp σ1 219 (B 0) (far B) := ⟨by rw [a3 219 (by omega)]; exact hG.1, fun x y hx hy => by rw [a3 (219 + 2 + x) (by omega)]; exact hG.2 x y hx hy⟩
      obtain ⟨w, w1, w2, w3, w4⟩ := want_s (k := 218) (M := nrM (far B) (B 0) ((low + high) / 2)) hn (fun p _ => nrM_lt (far B) hn) (nrM_rf (far_self B)) σ1 hG1.1 a2
      obtain ⟨r, σ2, b1, b2, b3, b4⟩ := enough_s (k := 218) (most := v) (M := nrM (far B) (B 0) ((low + high) / 2)) hn hv10 (fun p _ => nrM_lt (far B) hn) (nrM_sym (far_comm B)) (nrM_rf (far_self B)) σ1 hG1.1 a2
      have hG2 : Gp σ2 219 (B 0) (far B) := ⟨by rw [b2 219 (by omega) (by omega) (by omega)]; exact hG1.1, fun x y hx hy => by rw [b2 (219 + 2 + x) (by omega) (by omega) (by omega)]; exact hG1.2 x y hx hy⟩
      have unf : X3_leastLimit_l21 (m + 1) 211 (nI v) (nI low) (nI high) (nI s) σ = if v < w then X3_leastLimit_l21 m 211 (nI v) (nI ((low + high) / 2 + 1)) (nI high) (nI (s + 1)) σ1 else if r = 0 then X3_leastLimit_l21 m 211 (nI v) (nI ((low + high) / 2 + 1)) (nI high) (nI (s + 1)) σ2 else X3_leastLimit_l21 m 211 (nI v) (nI low) (nI ((low + high) / 2)) (nI (s + 1)) σ2 := by
        show X3_leastLimit_b21 _ 211 (nI v) (nI low) (nI high) (nI s) σ = _
        unfold X3_leastLimit_b21 X3_leastLimit_b83 X3_leastLimit_b88
        rw [if_neg (show ¬ (10 : Int32) ≤ nI s from nI_ge (b := 10) (by omega) (by omega)), if_neg (show ¬ nI high ≤ nI low by rw [nI_le_iff (by omega) (by omega)]; exact c), letv_eq, nI_add, show (2 : Int32) = nI 2 from rfl, nI_div (by omega) (by omega), show X5_markNear (211 + 7 + 1) (nI ((low + high) / 2)) σ = some σ1 from a1, ob_some, show X6_wantedAtLeast (211 + 7) σ1 = some (nI w) from w1, ob_some, letv_eq, show X6_areEnough (211 + 7) (nI v) σ1 = some (r, σ2) from b1, ob2_some, letv_eq, nI_1, nI_1]
        by_cases d : v < w
        · rw [if_pos (nI_lt d (by omega)), if_pos d]
        · rw [if_neg (show ¬ nI v < nI w by rw [nI_lt_iff (by omega) (by omega)]; exact d), if_neg d]
      have up : ¬ Okl B v ((low + high) / 2) → ∀ l, l < (low + high) / 2 + 1 → ¬ Okl B v l := fun hx l hl hok => hx (Okl_mono (by omega) hok)
      rw [unf]
      by_cases d : v < w
      · rw [if_pos d]
        obtain ⟨σ', l, q1, q2, q3, q4, q5⟩ := ih (s + 1) m ((low + high) / 2 + 1) high σ1 (by omega) (by omega) (by omega) h2 (by omega) hG1 (up (fun ⟨f, hf⟩ => by
          have := w4 v f hv10 hf hn0
          omega)) hhigh
        exact ⟨σ', l, q1, q2, q3, q4, fun q hq => by rw [q5 q hq, a3 q (by omega)]⟩
      · rw [if_neg d]
        rcases b4 with ⟨r0, t1⟩ | ⟨r1, f, u, t1, _⟩
        · rw [if_pos r0]
          obtain ⟨σ', l, q1, q2, q3, q4, q5⟩ := ih (s + 1) m ((low + high) / 2 + 1) high σ2 (by omega) (by omega) (by omega) h2 (by omega) hG2 (up (fun ⟨f, hf⟩ => t1 f hf)) hhigh
          exact ⟨σ', l, q1, q2, q3, q4, fun q hq => by rw [q5 q hq, b2 q (by omega) (by omega) (by omega), a3 q (by omega)]⟩
        · rw [if_neg (by rw [r1]; decide)]
          obtain ⟨σ', l, q1, q2, q3, q4, q5⟩ := ih (s + 1) m low ((low + high) / 2) σ2 (by omega) (by omega) (by omega) (by omega) (by omega) hG2 hlow ⟨f, t1.1⟩
          exact ⟨σ', l, q1, q2, q3, q4, fun q hq => by rw [q5 q hq, b2 q (by omega) (by omega) (by omega), a3 q (by omega)]⟩
/-- whether so many hands will do, as the model asks it -/
theorem will_s {B : Nat → Nat} (ho : okB B) (hn0 : 0 < B 0) (v : Nat) (hv : 1 ≤ v) (hv10 : v ≤ 10) (l : Nat) (σ : Mem) (h1 : ∀ p, p < 10 → σ 261 p = nI (nrN (far B) (B 0) l p)) : ∃ r σ', X12_parts 251 (nI (2 ^ B 0 - 1)) (nI v) 0 σ = some (r, σ') ∧ (∀ q, (q < 262 ∨ 266 ≤ q) → σ' q = σ q) ∧ ((r = 0 ∧ ¬ Okl B v l) ∨ (r = 1 ∧ Okl B v l)) := by
  have hn := ho.1
  have h2n : 2 ^ B 0 - 1 < 2 ^ 10 := by
    have : 2 ^ B 0 ≤ 2 ^ 10 := Nat.pow_le_pow_right (by omega) hn
    omega
  have h2n0 : 2 ^ B 0 - 1 ≠ 0 := by
    have : 2 ^ 1 ≤ 2 ^ B 0 := Nat.pow_le_pow_right (by omega) hn0
    omega
  obtain ⟨r, σ', e1, e2, _, e4⟩ := parts_s (k := v) (a := 0) hv10 (by omega) (Or.inl rfl) (fun p hp => nrN_lt (far B) (L := l) hn hp) h2n h2n0 σ h1
  refine ⟨r, σ', e1, e2, ?_⟩
  rcases e4 rfl with ⟨r0, x⟩ | ⟨r1, f, x⟩
  · refine Or.inl ⟨r0, fun ⟨f, hf⟩ => x (cutf f (B 0)) (Cp_all.mpr ⟨fun p hp => if_neg (by omega), Val_cg ((Val_nr (fun p q hp hq => nrNM (far B) (B 0) l p q hp hq)).mp hf) (fun p hp => if_pos hp)⟩)⟩
  · exact Or.inr ⟨r1, f, (Val_nr (fun p q hp hq => nrNM (far B) (B 0) l p q hp hq)).mpr (Cp_all.mp x).2⟩
theorem lin_l {B : Nat → Nat} (ho : okB B) (hn0 : 0 < B 0) (v : Nat) (hv : 1 ≤ v) (hv10 : v ≤ 10) (l0 : Nat) (hl0 : Okl B v l0) (hl1 : ∀ l', l' < l0 → ¬ Okl B v l') (hl200 : l0 ≤ 200) : ∀ (d l m : Nat) (σ : Mem), l + d = l0 → d < m → RwB (σ 255) 0 B → (∀ p, p < 10 → σ 261 p = nI (nrN (far B) (B 0) l p)) → ∃ σ', X12_least_l36 m 251 (nI v) (nI l) σ = some (nI l0, σ') ∧ ∀ q, (q < 261 ∨ 266 ≤ q) → σ' q = σ q := by
  have hn := ho.1
  intro d
  induction d with
  | zero =>
    intro l m σ hl hm hR h1
    obtain ⟨m, rfl⟩ : ∃ m', m = m' + 1 := ⟨m - 1, by omega⟩
    obtain rfl : l = l0 := by omega
    show ∃ σ', X12_least_b36 _ 251 (nI v) (nI l) σ = _ ∧ _
    unfold X12_least_b36
    by_cases c : 200 ≤ l
    · rw [if_pos (show (200 : Int32) ≤ nI l from nI_le (a := 200) c (by omega))]
      exact ⟨σ, rfl, fun q _ => rfl⟩
    · rw [if_neg (show ¬ (200 : Int32) ≤ nI l from nI_ge (b := 200) (by omega) (by omega)), show X12_allOf (251 + 4) σ = _ from allOf_s hn (hR 0 (by omega)), ob_some]
      obtain ⟨r, σ', e1, e2, e3⟩ := will_s ho hn0 v hv hv10 l σ h1
      rw [e1, ob2_some]
      rcases e3 with ⟨_, e4⟩ | ⟨e3, _⟩
      · exact absurd hl0 e4
      · rw [if_neg (by rw [e3]; decide)]
        exact ⟨σ', rfl, fun q hq => e2 q (by omega)⟩
  | succ d ih =>
    intro l m σ hl hm hR h1
    obtain ⟨m, rfl⟩ : ∃ m', m = m' + 1 := ⟨m - 1, by omega⟩
    obtain ⟨r, σ1, e1, e2, e3⟩ := will_s ho hn0 v hv hv10 l σ h1
    have hR1 : RwB (σ1 255) 0 B := by rw [e2 255 (by omega)]; exact hR
    obtain ⟨σ2, f1, f2, f3⟩ := layNear_s (k1 := 255) (by omega) ho (l + 1) (by omega) σ1 hR1
    obtain ⟨σ', q1, q2⟩ := ih (l + 1) m σ2 (by omega) (by omega) (by rw [f3 255 (by omega)]; exact hR1) f2
    refine ⟨σ', ?_, fun q hq => by rw [q2 q hq, f3 q (by omega), e2 q (by omega)]⟩
    show X12_least_b36 _ 251 (nI v) (nI l) σ = _
    unfold X12_least_b36
    rw [if_neg (show ¬ (200 : Int32) ≤ nI l from nI_ge (b := 200) (by omega) (by omega)), show X12_allOf (251 + 4) σ = _ from allOf_s hn (hR 0 (by omega)), ob_some, e1, ob2_some]
    rcases e3 with ⟨e3, _⟩ | ⟨_, e4⟩
    · rw [if_pos e3, nI_1, show X12_layNear 251 (251 + 4) (nI (l + 1)) σ1 = some σ2 from f1, ob_some]
      exact q1
    · exact absurd e4 (hl1 l (by omega))
theorem op_least (σ : Mem) (h : InvF FOK σ) (v1 : Int32) : ∃ (r : Int32) (σ1 σ2 : Mem), X11_least 0 v1 σ = some (r, σ1) ∧ X12_least 251 v1 σ1 = some (r, σ2) ∧ InvF FOK σ2 := by
  have hI := h
  obtain ⟨B, m, L, I, h⟩ := h
  obtain ⟨r6, r7, r8⟩ := ref_rb h
  have n1 : σ 22 0 = nI (B 0) := r7.1
  have n2 : σ 255 0 = nI (B 0) := r8 0 (by omega)
  have hn := r6.1
  unfold X11_least X11_least_b0 X12_least X12_least_b0
  rcases there (B 0) hn with ⟨c0, t1, t2⟩ | ⟨c0, t1, t2⟩
  · exact ⟨-1000002, σ, σ, by rw [t1 σ n1]; rfl, by rw [t2 σ n2]; rfl, hI⟩
  rw [t1 σ n1, if_pos rfl]
  rcases in_r v1 1 10 (by omega) (by omega) with ⟨v, a1, a2, rfl, a3⟩ | ⟨a3, a4⟩
  · have a3' : X12_in (nI v).toInt64 1 10 = 1 := a3
    obtain ⟨σa, b1, b2, b3, b4⟩ := survey_s 219 22 (by omega) B r6 σ r7
    obtain ⟨σb, l, c1, c2, c3, c4, c5⟩ := half_l r6 c0 v a1 a2 10 0 FU 0 200 σa (by omega) (by unfold FU; omega) (by omega) (by omega) (by omega) b2 (fun l hl => by omega) (Okl_top r6 a1)
    have fr : ∀ q, (q < 211 ∨ 237 ≤ q) → σb q = σ q := fun q hq => by rw [c5 q hq, b3 q (by omega)]
    have hR : RwB (σb 255) 0 B := by rw [fr 255 (by omega)]; exact r8
    have n3 : σb 255 0 = nI (B 0) := hR 0 (by omega)
    obtain ⟨σc, d1, d2, d3⟩ := layNear_s (k1 := 255) (by omega) r6 0 (by omega) σb hR
    obtain ⟨σd, e1, e2⟩ := lin_l r6 c0 v a1 a2 l c2 c3 c4 l 0 FU σc (by omega) (by unfold FU; omega) (by rw [d3 255 (by omega)]; exact hR) d2
    refine ⟨nI l, σb, σd, ?_, ?_, ⟨B, m, L, I, Ref.fore h (fun q hq => by rw [e2 q (by omega), d3 q (by omega), fr q (by omega)])⟩⟩
    · rw [if_neg (show ¬ nI v < 1 by rw [show (1 : Int32) = nI 1 from rfl, nI_lt_iff (by omega) (by omega)]; omega), if_pos (show nI v ≤ 10 from nI_le (b := 10) a2 (by omega))]
      unfold X3_leastLimit X3_leastLimit_b0
      rw [show X5_survey (0 + 211 + 7 + 1) (0 + 22) σ = some σa from b1, ob_some, show X3_leastLimit_l21 FU (0 + 211) (nI v) 0 200 0 σa = some (nI l, σb) from c1, ob2_some]
    · rw [t2 _ n3, ob_some, if_neg (by decide), a3', if_neg (by decide), show X12_layNear 251 (251 + 4) 0 σb = some σc from d1, ob_some]
      exact e1
  · have a3' : X12_in v1.toInt64 1 10 = 0 := a3
    refine ⟨-1000001, σ, σ, ?_, by rw [t2 σ n2, ob_some, if_neg (by decide), a3', if_pos rfl], hI⟩
    rcases a4 with a4 | a4
    · rw [if_pos (show v1 < 1 from a4)]
    · rw [if_neg (show ¬ v1 ≤ 10 from fun q => Int32.not_lt.mpr q a4)]
      split <;> rfl
