/-! PURE: the other acts. -/
section
variable {F : Mem → (Nat → Nat) → Prop}
def updB (B : Nat → Nat) (j x : Nat) : Nat → Nat := fun i => if i = j then x else B i
theorem updB_at (B : Nat → Nat) (j x : Nat) : updB B j x j = x := if_pos rfl
theorem updB_ne (B : Nat → Nat) {j i : Nat} (x : Nat) (h : i ≠ j) : updB B j x i = B i := if_neg h
theorem cl_ne (k : Nat) {c d : Nat} (h : c ≠ d) : cl k c ≠ cl k d := by
  unfold cl
  split <;> split <;> omega
theorem AtB_upd {σ : Mem} {k : Nat} {B : Nat → Nat} (p c x : Nat) (h : AtB σ k B) (hp : p < B 0) (hc : c < 4) : AtB (wr σ (cl k c) p (nI x)) k (updB B (3 + 4 * p + c) x) := by
  obtain ⟨b1, b2, b3, b4⟩ := (AtB_iff σ k B).mp h
  have g := cl_ge k c
  refine (AtB_iff _ _ _).mpr ⟨?_, ?_, ?_, fun q hq d hd => ?_⟩
  · rw [wr_off _ _ _ (by omega), updB_ne _ _ (by omega)]
    exact b1
  · rw [wr_off _ _ _ (by omega), updB_ne _ _ (by omega)]
    exact b2
  · rw [wr_off _ _ _ (by omega), updB_ne _ _ (by omega)]
    exact b3
  · rw [updB_ne _ _ (by omega)] at hq
    by_cases e : d = c
    · subst e
      by_cases e2 : q = p
      · subst e2
        rw [wr_at, updB_at]
      · rw [wr_in _ _ e2, updB_ne _ _ (by omega)]
        exact b4 q hq d hd
    · rw [wr_off _ _ _ (cl_ne k e), updB_ne _ _ (by omega)]
      exact b4 q hq d hd
theorem AtB_upl {σ : Mem} {k : Nat} {B : Nat → Nat} (s x : Nat) (h : AtB σ k B) (h1 : 1 ≤ s) (h2 : s ≤ 2) : AtB (wr σ k s (nI x)) k (updB B s x) := by
  obtain ⟨b1, b2, b3, b4⟩ := (AtB_iff σ k B).mp h
  refine (AtB_iff _ _ _).mpr ⟨?_, ?_, ?_, fun q hq d hd => ?_⟩
  · rw [wr_in _ _ (by omega), updB_ne _ _ (by omega)]
    exact b1
  · by_cases e : s = 1
    · subst e
      rw [wr_at, updB_at]
    · rw [wr_in _ _ (by omega), updB_ne _ _ (by omega)]
      exact b2
  · by_cases e : s = 2
    · subst e
      rw [wr_at, updB_at]
    · rw [wr_in _ _ (by omega), updB_ne _ _ (by omega)]
      exact b3
  · rw [updB_ne _ _ (by omega)] at hq
    have g := cl_ge k d
    rw [wr_off _ _ _ (by omega), updB_ne _ _ (by omega)]
    exact b4 q hq d hd
theorem RwB_upd {f : Nat → Int32} {B : Nat → Nat} (j x : Nat) (h : RwB f 0 B) (hj : j ≠ 0) : RwB (upd f j (nI x)) 0 (updB B j x) := by
  intro i hi
  rw [updB_ne _ _ (by omega)] at hi
  rw [show 0 + i = i by omega]
  by_cases e : i = j
  · subst e
    rw [upd_at, updB_at]
  · rw [upd_ne _ _ e, updB_ne _ _ e]
    have := h i hi
    rw [show 0 + i = i by omega] at this
    exact this
theorem okB_upd {B : Nat → Nat} (p c x : Nat) (h : okB B) (hx : c = 0 ∧ 1 ≤ x ∧ x ≤ 5 ∨ 1 ≤ c ∧ c < 4 ∧ x ≤ 30) : okB (updB B (3 + 4 * p + c) x) := by
  obtain ⟨a1, a2, a3, a4⟩ := h
  refine ⟨by rw [updB_ne _ _ (by omega)]; exact a1, by rw [updB_ne _ _ (by omega)]; exact a2, by rw [updB_ne _ _ (by omega)]; exact a3, fun q hq => ?_⟩
  rw [updB_ne _ _ (by omega)] at hq
  obtain ⟨b1, b2, b3⟩ := a4 q hq
  unfold updB
  refine ⟨?_, ?_, fun w hw => ?_⟩
  · split <;> omega
  · split <;> omega
  · have := b3 w hw
    split <;> omega
theorem okB_upl {B : Nat → Nat} (s x : Nat) (h : okB B) (hx : s = 1 ∧ x ≤ 60 ∨ s = 2 ∧ x ≤ 20) : okB (updB B s x) := by
  obtain ⟨a1, a2, a3, a4⟩ := h
  refine ⟨by rw [updB_ne _ _ (by omega)]; exact a1, ?_, ?_, fun q hq => ?_⟩
  · unfold updB
    split <;> omega
  · unfold updB
    split <;> omega
  · rw [updB_ne _ _ (by omega)] at hq
    obtain ⟨b1, b2, b3⟩ := a4 q hq
    rw [updB_ne _ _ (by omega)]
    refine ⟨b1, b2, fun w hw => ?_⟩
    rw [updB_ne _ _ (by omega)]
    exact b3 w hw
theorem op_take (σ : Mem) (h : InvF F σ) (v1 : Int32) : ∃ (r : Int32) (σ1 σ2 : Mem), X11_take 0 v1 σ = some (r, σ1) ∧ X12_take 251 v1 σ1 = some (r, σ2) ∧ InvF F σ2 := by
  have hI := h
  obtain ⟨B, m, L, I, h⟩ := h
  have h' := h
  obtain ⟨r1, r2, r3, r4, r5, r6, r7, r8, r9, r10, r11, r12, r13⟩ := h
  have n1 : σ 22 0 = nI (B 0) := r7.1
  have n2 : σ 255 0 = nI (B 0) := r8 0 (by omega)
  have hn := r6.1
  unfold X11_take X11_take_b0 X12_take X12_take_b0
  rcases pgs v1 (B 0) hn with ⟨p, hp, rfl, t1, t2⟩ | ⟨t1, t2⟩
  · rw [t1 σ n1, if_neg (by decide), show σ (0 + 22) 0 = nI (B 0) from n1]
    by_cases c : B 0 = 1
    · refine ⟨-1000002, σ, σ, by rw [c, if_pos (by decide)], ?_, hI⟩
      rw [t2 σ n2, ob_some, if_neg (by decide), show σ (251 + 4) (nc 0) = nI (B 0) from n2, c, if_pos (by decide)]
    · rw [if_neg (show ¬ nI (B 0) = 1 from fun q => c ((nI_inj (b := 1) (by omega) (by omega)).mp q))]
      obtain ⟨σ1, s1, s2, s3⟩ := act_s h'
      rw [s1, ob_some]
      obtain ⟨σ1', i1, i2, i3⟩ := cut_s 22 p σ1 B s2 hp hn
      have i1' : X2_cut (0 + 22) (nI p) σ1 = some σ1' := i1
      obtain ⟨u1, σ2, u2, u3, u4⟩ := s3 σ1' (cutB B p) (fun q hq => i3 q (by omega)) i2 (okB_cut r6 hp)
      obtain ⟨f, o1, o2⟩ := closes_s 255 p σ2 B u3 hp hn
      have o1' : X12_closes (251 + 4) (nI p) σ2 = some (wrF σ2 255 f) := o1
      have n3 : σ1' 255 0 = nI (B 0) := u1 0 (by omega)
      refine ⟨nI (B 0 - 1), σ1', wrF σ2 255 f, ?_, ?_, u4 _ (fun q hq => wrF_ne _ _ hq) (by rw [wrF_same]; exact o2)⟩
      · rw [i1', ob_some, show σ1' (0 + 22) 0 = nI (B 0 - 1) from i2.1]
      · rw [t2 _ n3, ob_some, if_neg (by decide), show σ1' (251 + 4) (nc 0) = nI (B 0) from n3, if_neg (show ¬ nI (B 0) = 1 from fun q => c ((nI_inj (b := 1) (by omega) (by omega)).mp q)), u2, ob_some, o1', ob_some, show wrF σ2 255 f (251 + 4) (nc 0) = nI (B 0 - 1) from (congrFun (wrF_same σ2 255 f) 0).trans (o2 0 (by omega))]
  · exact ⟨-1000001, σ, σ, by rw [t1 σ n1, if_pos rfl], by rw [t2 σ n2, ob_some, if_pos rfl], hI⟩
theorem op_measure (σ : Mem) (h : InvF F σ) (v1 v2 v3 : Int32) : ∃ (r : Int32) (σ1 σ2 : Mem), X11_measure 0 v1 v2 v3 σ = some (r, σ1) ∧ X12_measure 251 v1 v2 v3 σ1 = some (r, σ2) ∧ InvF F σ2 := by
  have hI := h
  obtain ⟨B, m, L, I, h⟩ := h
  have h' := h
  obtain ⟨r1, r2, r3, r4, r5, r6, r7, r8, r9, r10, r11, r12, r13⟩ := h
  have n1 : σ 22 0 = nI (B 0) := r7.1
  have n2 : σ 255 0 = nI (B 0) := r8 0 (by omega)
  have hn := r6.1
  unfold X11_measure X11_measure_b0 X12_measure X12_measure_b0
  rcases pgs v1 (B 0) hn with ⟨p, hp, rfl, t1, t2⟩ | ⟨t1, t2⟩
  · rw [t1 σ n1, if_neg (by decide)]
    rcases in_r v2 0 2 (by omega) (by omega) with ⟨w, a1, a2, rfl, a3⟩ | ⟨a3, a4⟩
    · have a3' : X12_in (nI w).toInt64 0 2 = 1 := a3
      rw [if_neg (nI_nn (by omega)), if_neg (show ¬ (2 : Int32) < nI w from nI_nlt (a := 2) (by omega) (by omega))]
      rcases mea v3 with ⟨x, b1, rfl, b3, b4⟩ | ⟨b3, b4⟩
      · rw [b3, if_neg (by decide)]
        obtain ⟨σ1, s1, s2, s3⟩ := act_s h'
        rw [s1, ob_some, gdx_n (by omega) (by omega), gdx_n (by omega) (by omega), letv_eq, gdx_n (by omega) (by omega), gdx_n (by omega) (by omega), nc_n (by omega), nc_n (by omega)]
        have hc : cl 22 (w + 1) = 0 + 22 + 2 + 1 + w := by rw [cl_s]
        have i2 := AtB_upd p (w + 1) x s2 hp (by omega)
        rw [hc] at i2
        obtain ⟨u1, σ2, u2, u3, u4⟩ := s3 (wr σ1 (0 + 22 + 2 + 1 + w) p (nI x)) (updB B (3 + 4 * p + (w + 1)) x) (fun q hq => wr_off _ _ _ (by omega)) i2 (okB_upd p (w + 1) x r6 (by omega))
        have n3 : (wr σ1 (0 + 22 + 2 + 1 + w) p (nI x)) 255 0 = nI (B 0) := u1 0 (by omega)
        refine ⟨nI (B (3 + 4 * p + (w + 1))), wr σ1 (0 + 22 + 2 + 1 + w) p (nI x), wrF σ2 255 (upd (σ2 255) (3 + 4 * p + (w + 1)) (nI x)), ?_, ?_, u4 _ (fun q hq => wrF_ne _ _ hq) (by rw [wrF_same]; exact RwB_upd _ x u3 (by omega))⟩
        · rw [← hc, ((AtB_iff _ _ _).mp s2).2.2.2 p hp (w + 1) (by omega)]
        · rw [t2 _ n3, ob_some, if_neg (by decide), a3', if_neg (by decide), b4, if_neg (by decide)]
          simp (disch := omega) only [show (3 : Int32) = nI 3 from rfl, show (4 : Int32) = nI 4 from rfl, nI_mul, nI_add, nI_1, letv_eq, gdx_n, nc_n, u2, ob_some]
          rw [show 3 + 4 * p + 1 + w = 3 + 4 * p + (w + 1) by omega]
          have e := u1 (3 + 4 * p + (w + 1)) (by omega)
          rw [show 0 + (3 + 4 * p + (w + 1)) = 3 + 4 * p + (w + 1) by omega] at e
          rw [show (wr σ1 (0 + 22 + 2 + 1 + w) p (nI x)) (251 + 4) (3 + 4 * p + (w + 1)) = nI (B (3 + 4 * p + (w + 1))) from e]
          rfl
      · exact ⟨-1000001, σ, σ, by rw [b3, if_pos rfl], by rw [t2 σ n2, ob_some, if_neg (by decide), a3', if_neg (by decide), b4, if_pos rfl], hI⟩
    · have a3' : X12_in v2.toInt64 0 2 = 0 := a3
      refine ⟨-1000001, σ, σ, ?_, by rw [t2 σ n2, ob_some, if_neg (by decide), a3', if_pos rfl], hI⟩
      rcases a4 with a4 | a4
      · rw [if_pos (show v2 < 0 from a4)]
      · rw [if_pos (show (2 : Int32) < v2 from a4)]
        split <;> rfl
  · exact ⟨-1000001, σ, σ, by rw [t1 σ n1, if_pos rfl], by rw [t2 σ n2, ob_some, if_pos rfl], hI⟩
theorem kindOf_s (k p : Nat) (σ : Mem) (B : Nat → Nat) (h : RwB (σ k) 0 B) (hn : B 0 ≤ 10) (hp : p < B 0) : X12_kindOf k (nI p) σ = some (nI (B (3 + 4 * p))) := by
  unfold X12_kindOf X12_kindOf_b0
  rw [show (3 : Int32) = nI 3 from rfl, show (4 : Int32) = nI 4 from rfl, nI_mul, nI_add, gdx_n (by omega) (by omega), nc_n (by omega)]
  have := h (3 + 4 * p) (by omega)
  rw [show 0 + (3 + 4 * p) = 3 + 4 * p by omega] at this
  rw [this]
theorem op_become (σ : Mem) (h : InvF F σ) (v1 v2 : Int32) : ∃ (r : Int32) (σ1 σ2 : Mem), X11_become 0 v1 v2 σ = some (r, σ1) ∧ X12_become 251 v1 v2 σ1 = some (r, σ2) ∧ InvF F σ2 := by
  have hI := h
  obtain ⟨B, m, L, I, h⟩ := h
  have h' := h
  obtain ⟨r1, r2, r3, r4, r5, r6, r7, r8, r9, r10, r11, r12, r13⟩ := h
  have n1 : σ 22 0 = nI (B 0) := r7.1
  have n2 : σ 255 0 = nI (B 0) := r8 0 (by omega)
  have hn := r6.1
  unfold X11_become X11_become_b0 X12_become X12_become_b0
  rcases pgs v1 (B 0) hn with ⟨p, hp, rfl, t1, t2⟩ | ⟨t1, t2⟩
  · rw [t1 σ n1, if_neg (by decide)]
    rcases kin v2 with ⟨x, a1, a2, rfl, a3, a4⟩ | ⟨a3, a4⟩
    · rw [a3, if_neg (by decide), gdx_n (by omega) (by omega), letv_eq, nc_n (by omega), show σ (0 + 22 + 1) p = nI (B (3 + 4 * p)) from (r7.2.2.2 p hp).1]
      obtain ⟨k1, k2, _⟩ := r6.2.2.2 p hp
      by_cases c : B (3 + 4 * p) = x
      · refine ⟨-1000002, σ, σ, by rw [c, if_pos rfl], ?_, hI⟩
        rw [t2 σ n2, ob_some, if_neg (by decide), a4, if_neg (by decide), show X12_kindOf (251 + 4) (nI p) σ = some (nI (B (3 + 4 * p))) from kindOf_s 255 p σ B r8 hn hp, ob_some, c, if_pos rfl]
      · have cc : ¬ nI (B (3 + 4 * p)) = nI x := fun q => c ((nI_inj (by omega) (by omega)).mp q)
        rw [if_neg cc]
        obtain ⟨σ1, s1, s2, s3⟩ := act_s h'
        rw [s1, ob_some, gdx_n (by omega) (by omega)]
        have i2 := AtB_upd p 0 x s2 hp (by omega)
        rw [cl_0] at i2
        obtain ⟨u1, σ2, u2, u3, u4⟩ := s3 (wr σ1 (0 + 22 + 1) p (nI x)) (updB B (3 + 4 * p + 0) x) (fun q hq => wr_off _ _ _ (by omega)) i2 (okB_upd p 0 x r6 (by omega))
        have n3 : (wr σ1 (0 + 22 + 1) p (nI x)) 255 0 = nI (B 0) := u1 0 (by omega)
        refine ⟨nI (B (3 + 4 * p)), _, wrF σ2 255 (upd (σ2 255) (3 + 4 * p) (nI x)), rfl, ?_, u4 _ (fun q hq => wrF_ne _ _ hq) (by rw [wrF_same]; exact RwB_upd _ x u3 (by omega))⟩
        rw [t2 _ n3, ob_some, if_neg (by decide), a4, if_neg (by decide), show X12_kindOf (251 + 4) (nI p) (wr σ1 (0 + 22 + 1) p (nI x)) = some (nI (B (3 + 4 * p))) from kindOf_s 255 p _ B u1 hn hp, ob_some, if_neg cc, u2, ob_some, show (3 : Int32) = nI 3 from rfl, show (4 : Int32) = nI 4 from rfl, nI_mul, nI_add, gdx_n (by omega) (by omega), nc_n (by omega)]
        rfl
    · exact ⟨-1000001, σ, σ, by rw [a3, if_pos rfl], by rw [t2 σ n2, ob_some, if_neg (by decide), a4, if_pos rfl], hI⟩
  · exact ⟨-1000001, σ, σ, by rw [t1 σ n1, if_pos rfl], by rw [t2 σ n2, ob_some, if_pos rfl], hI⟩
theorem op_move (σ : Mem) (h : InvF F σ) (v1 v2 : Int32) : ∃ (r : Int32) (σ1 σ2 : Mem), X11_move 0 v1 v2 σ = some (r, σ1) ∧ X12_move 251 v1 v2 σ1 = some (r, σ2) ∧ InvF F σ2 := by
  have hI := h
  obtain ⟨B, m, L, I, h⟩ := h
  have h' := h
  obtain ⟨r1, r2, r3, r4, r5, r6, r7, r8, r9, r10, r11, r12, r13⟩ := h
  have n1 : σ 22 0 = nI (B 0) := r7.1
  have n2 : σ 255 0 = nI (B 0) := r8 0 (by omega)
  have hn := r6.1
  unfold X11_move X11_move_b0 X12_move X12_move_b0
  rcases pgs v1 (B 0) hn with ⟨p, hp, rfl, t1, t2⟩ | ⟨t1, t2⟩
  · rw [t1 σ n1, if_neg (by decide)]
    rcases pgs v2 (B 0) hn with ⟨p2, hp2, rfl, w1, w2⟩ | ⟨w1, w2⟩
    · rw [w1 σ n1, if_neg (by decide)]
      by_cases c : p = p2
      · refine ⟨-1000002, σ, σ, by rw [c, if_pos rfl], ?_, hI⟩
        rw [t2 σ n2, ob_some, if_neg (by decide), w2 σ n2, ob_some, if_neg (by decide), c, if_pos rfl]
      · have cc : ¬ nI p = nI p2 := fun q => c ((nI_inj (by omega) (by omega)).mp q)
        rw [if_neg cc]
        obtain ⟨σ1, s1, s2, s3⟩ := act_s h'
        rw [s1, ob_some]
        obtain ⟨g1, g2, g3⟩ := r6.2.2.2 p hp
        obtain ⟨σa, i1, i2, i3⟩ := cut_s 22 p σ1 B s2 hp hn
        have hcut := okB_cut r6 hp
        have hp2' : p2 ≤ cutB B p 0 := by show p2 ≤ B 0 - 1; omega
        have hlt : cutB B p 0 < 10 := by show B 0 - 1 < 10; omega
        obtain ⟨σb, j1, j2, j3⟩ := ins_s 22 p2 (fun c => B (3 + 4 * p + c)) σa (cutB B p) i2 hp2' hlt
        have hcar : X2_carry (0 + 22) (nI p) (nI p2) σ1 = some σb := by
          unfold X2_carry X2_carry_b0
          obtain ⟨b1, b2, b3, b4⟩ := (AtB_iff _ _ _).mp s2
          have q0 := b4 p hp 0 (by omega)
          have q1 := b4 p hp 1 (by omega)
          have q2 := b4 p hp 2 (by omega)
          have q3 := b4 p hp 3 (by omega)
          rw [cl_0] at q0
          rw [cl_s] at q1 q2 q3
          simp (disch := omega) only [gdx_n, letv_eq, nc_n, nc_0, nc_1, nc_2]
          rw [show σ1 (0 + 22 + 1) p = _ from q0, show σ1 (0 + 22 + 2 + 1 + 0) p = _ from q1, show σ1 (0 + 22 + 2 + 1 + 1) p = _ from q2, show σ1 (0 + 22 + 2 + 1 + 2) p = _ from q3, show X2_cut (0 + 22) (nI p) σ1 = some σa from i1, ob_some, show X2_insert (0 + 22) (nI p2) (nI (B (3 + 4 * p + 0))) (nI (B (3 + 4 * p + 1))) (nI (B (3 + 4 * p + 2))) (nI (B (3 + 4 * p + 3))) σa = some σb from j1, ob_some]
        obtain ⟨u1, σ2, u2, u3, u4⟩ := s3 σb (insB (cutB B p) p2 (fun c => B (3 + 4 * p + c))) (fun q hq => by rw [j3 q (by omega), i3 q (by omega)]) j2 (okB_ins hcut hp2' hlt g1 g2 (fun c k1 k2 => by
          have := g3 (c - 1) (by omega)
          show B (3 + 4 * p + c) ≤ 30
          rw [show 3 + 4 * p + c = 4 + 4 * p + (c - 1) by omega]
          exact this))
        obtain ⟨f, o1, o2⟩ := closes_s 255 p σ2 B u3 hp hn
        obtain ⟨σ3, f2, y1, y2, y3⟩ := mins_s 255 p2 (fun c => B (3 + 4 * p + c)) (wrF σ2 255 f) (cutB B p) (by rw [wrF_same]; exact o2) hp2' hlt
        have n3 : σb 255 0 = nI (B 0) := u1 0 (by omega)
        have hk : ∀ c, c < 4 → σ2 255 (3 + 4 * p + c) = nI (B (3 + 4 * p + c)) := fun c hc => by
          have := u3 (3 + 4 * p + c) (by omega)
          rw [show 0 + (3 + 4 * p + c) = 3 + 4 * p + c by omega] at this
          exact this
        refine ⟨nI (B (3 + 4 * p)), σb, wrF (wrF σ2 255 f) 255 f2, ?_, ?_, u4 _ (fun q hq => by rw [wrF_ne _ _ hq, wrF_ne _ _ hq]) (by rw [wrF_same]; exact y3)⟩
        · rw [hcar, ob_some, gdx_n (by omega) (by omega), nc_n (by omega)]
          have := ((AtB_iff _ _ _).mp j2).2.2.2 p2 (by show p2 < B 0 - 1 + 1; omega) 0 (by omega)
          rw [cl_0] at this
          rw [show σb (0 + 22 + 1) p2 = _ from this]
          unfold insB
          rw [if_neg (by omega), if_neg (by omega), if_pos (by omega), show 3 + 4 * p2 + 0 - (3 + 4 * p2) = 0 by omega]
          rfl
        · rw [t2 _ n3, ob_some, if_neg (by decide), w2 _ n3, ob_some, if_neg (by decide), if_neg cc, u2, ob_some, show (3 : Int32) = nI 3 from rfl, show (4 : Int32) = nI 4 from rfl, nI_mul, nI_add, letv_eq, gdx_n (by omega) (by omega), letv_eq, nI_1, gdx_n (by omega) (by omega), letv_eq, show (2 : Int32) = nI 2 from rfl, nI_add, gdx_n (by omega) (by omega), letv_eq, nI_add, gdx_n (by omega) (by omega), letv_eq, nc_n (by omega), nc_n (by omega), nc_n (by omega), nc_n (by omega)]
          rw [show σ2 (251 + 4) (3 + 4 * p) = nI (B (3 + 4 * p + 0)) from hk 0 (by omega), show σ2 (251 + 4) (3 + 4 * p + 1) = _ from hk 1 (by omega), show σ2 (251 + 4) (3 + 4 * p + 2) = _ from hk 2 (by omega), show σ2 (251 + 4) (3 + 4 * p + 3) = _ from hk 3 (by omega)]
          rw [show X12_closes (251 + 4) (nI p) σ2 = some (wrF σ2 255 f) from o1, ob_some, show X12_opens (251 + 4) (nI p2) (wrF σ2 255 f) = some σ3 from y1, ob_some, show X12_lays (251 + 4) (nI p2) (nI (B (3 + 4 * p + 0))) (nI (B (3 + 4 * p + 1))) (nI (B (3 + 4 * p + 2))) (nI (B (3 + 4 * p + 3))) σ3 = some (wrF (wrF σ2 255 f) 255 f2) from y2, ob_some]
          rfl
    · exact ⟨-1000001, σ, σ, by rw [w1 σ n1, if_pos rfl], by rw [t2 σ n2, ob_some, if_neg (by decide), w2 σ n2, ob_some, if_pos rfl], hI⟩
  · exact ⟨-1000001, σ, σ, by rw [t1 σ n1, if_pos rfl], by rw [t2 σ n2, ob_some, if_pos rfl], hI⟩
end
