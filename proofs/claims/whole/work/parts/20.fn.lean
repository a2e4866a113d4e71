def stLN (w : Nat) : Nat := stL.getD w 0
abbrev stLn (w : Nat) : Int32 := Int32.ofNat (stLN w)
def stCh (w j : Nat) : Int32 := (stB.getD w []).getD j 0
def X0_forgetAll_b0 (k0 : Nat) (σ : Mem) : Option Mem :=
  some (wr σ k0 2 0)
def X0_forgetAll (k0 : Nat) (σ : Mem) : Option Mem := X0_forgetAll_b0 k0 σ
def X2_becomeLike_b41 (K41 : Nat → Nat → Int32 → Mem → Option Mem) (k0 : Nat) (k1 : Nat) (v2 : Int32) (σ : Mem) : Option Mem :=
  if 2 < v2 then (
    some σ)
  else (
    gdx v2 3 (
      gdx v2 3 (
      gdc 0 0 10 10 10 (
      K41 k0 k1 (v2 + 1) (wrF σ ((k0 + 2) + 1 + nc v2) (va_cpy (σ ((k1 + 2) + 1 + nc v2)) (σ ((k0 + 2) + 1 + nc v2)) (nc 0) (nc 0) (nc 10)))))))
def X2_becomeLike_l41 : Nat → Nat → Nat → Int32 → Mem → Option Mem
  | 0 => fun _ _ _ _ => none
  | n + 1 => X2_becomeLike_b41 (X2_becomeLike_l41 n)
def X2_becomeLike_b0 (k0 : Nat) (k1 : Nat) (σ : Mem) : Option Mem :=
  letv (wr σ k0 0 (σ k1 0)) (fun σ1 =>
    letv (wr σ1 k0 1 (σ1 k1 1)) (fun σ2 =>
    letv (wr σ2 k0 2 (σ2 k1 2)) (fun σ3 =>
    gdc 0 0 10 10 10 (
    X2_becomeLike_l41 FU k0 k1 0 (wrF σ3 (k0 + 1) (va_cpy (σ3 (k1 + 1)) (σ3 (k0 + 1)) (nc 0) (nc 0) (nc 10)))))))
def X2_becomeLike (k0 : Nat) (k1 : Nat) (σ : Mem) : Option Mem := X2_becomeLike_b0 k0 k1 σ
def X0_keep_b0 (k0 : Nat) (k1 : Nat) (σ : Mem) : Option Mem :=
  gdx (irm ((σ k0 1) + (σ k0 2)) 24) 24 (
    ob (X2_becomeLike ((k0 + 1) + 1 + 6 * nc (irm ((σ k0 1) + (σ k0 2)) 24)) k1 σ) (fun σ2 =>
    if 24 ≤ (σ2 k0 2) then (
    some (wr σ2 k0 1 (irm ((σ2 k0 1) + 1) 24)))
  else (
    some (wr σ2 k0 2 ((σ2 k0 2) + 1)))))
def X0_keep (k0 : Nat) (k1 : Nat) (σ : Mem) : Option Mem := X0_keep_b0 k0 k1 σ
def X0_goBack_b0 (k0 : Nat) (k1 : Nat) (σ : Mem) : Option Mem :=
  if (σ k0 2) ≤ 0 then (
    some σ)
  else (
    letv (wr σ k0 2 ((σ k0 2) - 1)) (fun σ2 =>
      gdx (irm ((σ2 k0 1) + (σ2 k0 2)) 24) 24 (
      ob (X2_becomeLike k1 ((k0 + 1) + 1 + 6 * nc (irm ((σ2 k0 1) + (σ2 k0 2)) 24)) σ2) (fun σ4 =>
      some σ4))))
def X0_goBack (k0 : Nat) (k1 : Nat) (σ : Mem) : Option Mem := X0_goBack_b0 k0 k1 σ
def X1_begin_b0 (k0 : Nat) (k1 : Nat) (v2 : Int32) (v3 : Int32) (σ : Mem) : Option Mem :=
  letv (wr σ k0 1 0) (fun σ1 =>
    letv (wr σ1 k0 2 v2) (fun σ2 =>
    letv (wr σ2 k0 3 v3) (fun σ3 =>
    gdx v2 10 (
    letv (wr σ3 k0 4 (σ3 (k1 + 1) (nc v2))) (fun σ5 =>
    gdx v2 10 (
    some (wr σ5 k0 5 (σ5 ((k1 + 2) + 1 + nc 0) (nc v2)))))))))
def X1_begin (k0 : Nat) (k1 : Nat) (v2 : Int32) (v3 : Int32) (σ : Mem) : Option Mem := X1_begin_b0 k0 k1 v2 v3 σ
def X1_leave_b0 (k0 : Nat) (v1 : Int32) (σ : Mem) : Option Mem :=
  if 16 ≤ (σ k0 1) then (
    some σ)
  else (
    gdx (σ k0 1) 16 (
      letv (wr σ (k0 + 1) (nc (σ k0 1)) v1) (fun σ3 =>
      some (wr σ3 k0 1 ((σ3 k0 1) + 1)))))
def X1_leave (k0 : Nat) (v1 : Int32) (σ : Mem) : Option Mem := X1_leave_b0 k0 v1 σ
def X1_sizeLent_b0 (k0 : Nat) (σ : Mem) : Option (Int32 × Mem) :=
  ob (X1_leave k0 10 σ) (fun σ1 =>
    some (σ1 k0 5, σ1))
def X1_sizeLent (k0 : Nat) (σ : Mem) : Option (Int32 × Mem) := X1_sizeLent_b0 k0 σ
def X1_sizeOfCopy_b0 (k0 : Nat) (σ : Mem) : Option (Int32 × Mem) :=
  ob (X1_leave k0 13 σ) (fun σ1 =>
    ob2 (X1_sizeLent k0 σ1) (fun r2 σ3 =>
    some (r2 - 100, σ3)))
def X1_sizeOfCopy (k0 : Nat) (σ : Mem) : Option (Int32 × Mem) := X1_sizeOfCopy_b0 k0 σ
def X1_sizeOfAnyCopy_b0 (k0 : Nat) (σ : Mem) : Option (Int32 × Mem) :=
  if (σ k0 4) = 5 then (
    ob (X1_leave k0 14 σ) (fun σ2 =>
      ob2 (X1_sizeOfCopy k0 σ2) (fun r3 σ4 =>
      some (2 * r3, σ4))))
  else (
    ob2 (X1_sizeOfCopy k0 σ) (fun r5 σ6 =>
      some (r5, σ6)))
def X1_sizeOfAnyCopy (k0 : Nat) (σ : Mem) : Option (Int32 × Mem) := X1_sizeOfAnyCopy_b0 k0 σ
def X1_markLent_b0 (k0 : Nat) (σ : Mem) : Option (Int32 × Mem) :=
  ob (X1_leave k0 20 σ) (fun σ1 =>
    some (σ1 k0 2, σ1))
def X1_markLent (k0 : Nat) (σ : Mem) : Option (Int32 × Mem) := X1_markLent_b0 k0 σ
def X1_markOfPlain_b0 (k0 : Nat) (σ : Mem) : Option (Int32 × Mem) :=
  ob (X1_leave k0 21 σ) (fun σ1 =>
    ob2 (X1_markLent k0 σ1) (fun r2 σ3 =>
    some (r2 + (σ3 k0 3), σ3)))
def X1_markOfPlain (k0 : Nat) (σ : Mem) : Option (Int32 × Mem) := X1_markOfPlain_b0 k0 σ
def X1_markOfAnyPlain_b0 (k0 : Nat) (σ : Mem) : Option (Int32 × Mem) :=
  if (σ k0 4) = 2 then (
    ob (X1_leave k0 24 σ) (fun σ2 =>
      ob2 (X1_markOfPlain k0 σ2) (fun r3 σ4 =>
      some (2 * r3, σ4))))
  else (
    if (σ k0 4) = 3 then (
      ob (X1_leave k0 22 σ) (fun σ6 =>
        ob2 (X1_markOfPlain k0 σ6) (fun r7 σ8 =>
        some (r7 - 1000, σ8))))
    else (
      ob2 (X1_markOfPlain k0 σ) (fun r9 σ10 =>
        some (r9, σ10))))
def X1_markOfAnyPlain (k0 : Nat) (σ : Mem) : Option (Int32 × Mem) := X1_markOfAnyPlain_b0 k0 σ
def X1_sizeOfPlain_b0 (k0 : Nat) (σ : Mem) : Option (Int32 × Mem) :=
  ob (X1_leave k0 11 σ) (fun σ1 =>
    ob2 (X1_sizeLent k0 σ1) (fun r2 σ3 =>
    ob2 (X1_markOfAnyPlain k0 σ3) (fun r4 σ5 =>
    some (r2 + r4, σ5))))
def X1_sizeOfPlain (k0 : Nat) (σ : Mem) : Option (Int32 × Mem) := X1_sizeOfPlain_b0 k0 σ
def X1_size_b53 (k0 : Nat) (σ : Mem) : Option (Int32 × Mem) :=
  ob2 (X1_sizeOfPlain k0 σ) (fun r1 σ2 =>
    some (r1, σ2))
def X1_size_b48 (k0 : Nat) (σ : Mem) : Option (Int32 × Mem) :=
  ob2 (X1_sizeOfAnyCopy k0 σ) (fun r1 σ2 =>
    some (r1, σ2))
def X1_size_b0 (k0 : Nat) (σ : Mem) : Option (Int32 × Mem) :=
  if (σ k0 4) = 2 then (
    ob (X1_leave k0 12 σ) (fun σ2 =>
      ob2 (X1_sizeOfPlain k0 σ2) (fun r3 σ4 =>
      some (-r3, σ4))))
  else (
    if (σ k0 4) = 3 then (
      X1_size_b53 k0 σ)
    else (
      if (σ k0 4) = 4 then (
        X1_size_b48 k0 σ)
      else (
        if (σ k0 4) = 5 then (
          X1_size_b48 k0 σ)
        else (
          X1_size_b53 k0 σ))))
def X1_size (k0 : Nat) (σ : Mem) : Option (Int32 × Mem) := X1_size_b0 k0 σ
def X1_markOfCopy_b0 (k0 : Nat) (σ : Mem) : Option (Int32 × Mem) :=
  ob (X1_leave k0 23 σ) (fun σ1 =>
    ob2 (X1_markLent k0 σ1) (fun r2 σ3 =>
    ob2 (X1_sizeOfAnyCopy k0 σ3) (fun r4 σ5 =>
    some (r2 - r4, σ5))))
def X1_markOfCopy (k0 : Nat) (σ : Mem) : Option (Int32 × Mem) := X1_markOfCopy_b0 k0 σ
def X1_mark_b16 (k0 : Nat) (σ : Mem) : Option (Int32 × Mem) :=
  ob2 (X1_markOfCopy k0 σ) (fun r1 σ2 =>
    some (r1, σ2))
def X1_mark_b0 (k0 : Nat) (σ : Mem) : Option (Int32 × Mem) :=
  if (σ k0 4) = 4 then (
    X1_mark_b16 k0 σ)
  else (
    if (σ k0 4) = 5 then (
      X1_mark_b16 k0 σ)
    else (
      ob2 (X1_markOfAnyPlain k0 σ) (fun r3 σ4 =>
        some (r3, σ4))))
def X1_mark (k0 : Nat) (σ : Mem) : Option (Int32 × Mem) := X1_mark_b0 k0 σ
def X2_overwrite_b14 (K14 : Nat → Int32 → Int32 → Int32 → Mem → Option Mem) (k0 : Nat) (v1 : Int32) (v2 : Int32) (v3 : Int32) (σ : Mem) : Option Mem :=
  if 2 < v3 then (
    some σ)
  else (
    gdx v3 3 (
      gdx v3 3 (
      gdx v2 10 (
      gdx v1 10 (
      K14 k0 v1 v2 (v3 + 1) (wr σ ((k0 + 2) + 1 + nc v3) (nc v1) (σ ((k0 + 2) + 1 + nc v3) (nc v2))))))))
def X2_overwrite_l14 : Nat → Nat → Int32 → Int32 → Int32 → Mem → Option Mem
  | 0 => fun _ _ _ _ _ => none
  | n + 1 => X2_overwrite_b14 (X2_overwrite_l14 n)
def X2_overwrite_b0 (k0 : Nat) (v1 : Int32) (v2 : Int32) (σ : Mem) : Option Mem :=
  gdx v2 10 (
    gdx v1 10 (
    X2_overwrite_l14 FU k0 v1 v2 0 (wr σ (k0 + 1) (nc v1) (σ (k0 + 1) (nc v2)))))
def X2_overwrite (k0 : Nat) (v1 : Int32) (v2 : Int32) (σ : Mem) : Option Mem := X2_overwrite_b0 k0 v1 v2 σ
def X2_insert_b28 (K28 : Nat → Int32 → Int32 → Int32 → Int32 → Int32 → Int32 → Mem → Option Mem) (k0 : Nat) (v1 : Int32) (v2 : Int32) (v3 : Int32) (v4 : Int32) (v5 : Int32) (v6 : Int32) (σ : Mem) : Option Mem :=
  if v6 ≤ v1 then (
    letv (wr σ k0 0 ((σ k0 0) + 1)) (fun σ2 =>
      gdx v1 10 (
      letv (wr σ2 (k0 + 1) (nc v1) v2) (fun σ4 =>
      gdx v1 10 (
      letv (wr σ4 ((k0 + 2) + 1 + nc 0) (nc v1) v3) (fun σ6 =>
      gdx v1 10 (
      letv (wr σ6 ((k0 + 2) + 1 + nc 1) (nc v1) v4) (fun σ8 =>
      gdx v1 10 (
      some (wr σ8 ((k0 + 2) + 1 + nc 2) (nc v1) v5))))))))))
  else (
    ob (X2_overwrite k0 v6 (v6 - 1) σ) (fun σ10 =>
      K28 k0 v1 v2 v3 v4 v5 (v6 + (-1)) σ10))
def X2_insert_l28 : Nat → Nat → Int32 → Int32 → Int32 → Int32 → Int32 → Int32 → Mem → Option Mem
  | 0 => fun _ _ _ _ _ _ _ _ => none
  | n + 1 => X2_insert_b28 (X2_insert_l28 n)
def X2_insert_b0 (k0 : Nat) (v1 : Int32) (v2 : Int32) (v3 : Int32) (v4 : Int32) (v5 : Int32) (σ : Mem) : Option Mem :=
  if v1 < 0 then (
    some σ)
  else (
    if (σ k0 0) < v1 then (
      some σ)
    else (
      if (σ k0 0) < 10 then (
        letv (σ k0 0) (fun x4 =>
          X2_insert_l28 FU k0 v1 v2 v3 v4 v5 x4 σ))
      else (
        some σ)))
def X2_insert (k0 : Nat) (v1 : Int32) (v2 : Int32) (v3 : Int32) (v4 : Int32) (v5 : Int32) (σ : Mem) : Option Mem := X2_insert_b0 k0 v1 v2 v3 v4 v5 σ
def X2_cut_b2 (K2 : Nat → Int32 → Mem → Option Mem) (k0 : Nat) (v2 : Int32) (σ : Mem) : Option Mem :=
  if ((σ k0 0) - 1) ≤ v2 then (
    some (wr σ k0 0 ((σ k0 0) - 1)))
  else (
    ob (X2_overwrite k0 v2 (v2 + 1) σ) (fun σ2 =>
      K2 k0 (v2 + 1) σ2))
def X2_cut_l2 : Nat → Nat → Int32 → Mem → Option Mem
  | 0 => fun _ _ _ => none
  | n + 1 => X2_cut_b2 (X2_cut_l2 n)
def X2_cut_b0 (k0 : Nat) (v1 : Int32) (σ : Mem) : Option Mem :=
  X2_cut_l2 FU k0 v1 σ
def X2_cut (k0 : Nat) (v1 : Int32) (σ : Mem) : Option Mem := X2_cut_b0 k0 v1 σ
def X2_carry_b0 (k0 : Nat) (v1 : Int32) (v2 : Int32) (σ : Mem) : Option Mem :=
  gdx v1 10 (
    letv (σ (k0 + 1) (nc v1)) (fun x2 =>
    gdx v1 10 (
    letv (σ ((k0 + 2) + 1 + nc 0) (nc v1)) (fun x4 =>
    gdx v1 10 (
    letv (σ ((k0 + 2) + 1 + nc 1) (nc v1)) (fun x6 =>
    gdx v1 10 (
    letv (σ ((k0 + 2) + 1 + nc 2) (nc v1)) (fun x8 =>
    ob (X2_cut k0 v1 σ) (fun σ9 =>
    ob (X2_insert k0 v2 x2 x4 x6 x8 σ9) (fun σ10 =>
    some σ10))))))))))
def X2_carry (k0 : Nat) (v1 : Int32) (v2 : Int32) (σ : Mem) : Option Mem := X2_carry_b0 k0 v1 v2 σ
def X2_together_b4 (K4 : Nat → Int32 → Int32 → Int32 → Mem → Option Int32) (k0 : Nat) (v1 : Int32) (v2 : Int32) (v3 : Int32) (σ : Mem) : Option Int32 :=
  if (σ k0 0) ≤ v3 then (
    some v2)
  else (
    gdx v1 3 (
      gdx v3 10 (
      letv (v2 + (σ ((k0 + 2) + 1 + nc v1) (nc v3))) (fun x4 =>
      K4 k0 v1 x4 (v3 + 1) σ))))
def X2_together_l4 : Nat → Nat → Int32 → Int32 → Int32 → Mem → Option Int32
  | 0 => fun _ _ _ _ _ => none
  | n + 1 => X2_together_b4 (X2_together_l4 n)
def X2_together_b0 (k0 : Nat) (v1 : Int32) (σ : Mem) : Option Int32 :=
  X2_together_l4 FU k0 v1 0 0 σ
def X2_together (k0 : Nat) (v1 : Int32) (σ : Mem) : Option Int32 := X2_together_b0 k0 v1 σ
def X5_given_b0 (v0 : Int32) (v1 : Int32) (v2 : Int32) (v3 : Int32) : Int32 :=
  letv (mx v1 (mx v2 v3)) (fun x1 =>
    if v0 = 2 then (
    v1 + v2)
  else (
    if v0 = 3 then (
      (v1 + (v2 / 2)) + v3)
    else (
      if v0 = 4 then (
        x1)
      else (
        if v0 = 5 then (
          x1 + 5)
        else (
          (v1 + v2) + v3)))))
def X5_given (v0 : Int32) (v1 : Int32) (v2 : Int32) (v3 : Int32) : Int32 := X5_given_b0 v0 v1 v2 v3
def X5_between_b0 (k0 : Nat) (v1 : Int32) (v2 : Int32) (σ : Mem) : Option Int32 :=
  gdx v1 10 (
    gdx v2 10 (
    letv (ab ((σ ((k0 + 2) + 1 + nc 0) (nc v1)) - (σ ((k0 + 2) + 1 + nc 0) (nc v2)))) (fun x3 =>
    gdx v1 10 (
    gdx v2 10 (
    letv (ab ((σ ((k0 + 2) + 1 + nc 1) (nc v1)) - (σ ((k0 + 2) + 1 + nc 1) (nc v2)))) (fun x6 =>
    gdx v1 10 (
    gdx v2 10 (
    letv (ab ((σ ((k0 + 2) + 1 + nc 2) (nc v1)) - (σ ((k0 + 2) + 1 + nc 2) (nc v2)))) (fun x9 =>
    gdx v1 10 (
    gdx v2 10 (
    some (mn (X5_given (σ (k0 + 1) (nc v1)) x3 x6 x9) (X5_given (σ (k0 + 1) (nc v2)) x3 x6 x9)))))))))))))
def X5_between (k0 : Nat) (v1 : Int32) (v2 : Int32) (σ : Mem) : Option Int32 := X5_between_b0 k0 v1 v2 σ
def X5_surveyFrom_b25 (K2 : Nat → Nat → Int32 → Int32 → Mem → Option Mem) (k0 : Nat) (k1 : Nat) (v2 : Int32) (v3 : Int32) (s0 : Int32) (σ : Mem) : Option Mem :=
  gdx v2 10 (
    gdx v3 10 (
    gdx v3 10 (
    letv (wr σ ((k0 + 1) + 1 + nc v2) (nc v3) s0) (fun σ4 =>
    gdx v2 10 (
    K2 k0 k1 v2 (v3 + 1) (wr σ4 ((k0 + 1) + 1 + nc v3) (nc v2) s0))))))
def X5_surveyFrom_b2 (K2 : Nat → Nat → Int32 → Int32 → Mem → Option Mem) (k0 : Nat) (k1 : Nat) (v2 : Int32) (v3 : Int32) (σ : Mem) : Option Mem :=
  if (σ k0 0) ≤ v3 then (
    some σ)
  else (
    if v2 = v3 then (
      X5_surveyFrom_b25 K2 k0 k1 v2 v3 0 σ)
    else (
      ob (X5_between k1 v2 v3 σ) (fun r3 =>
        X5_surveyFrom_b25 K2 k0 k1 v2 v3 r3 σ)))
def X5_surveyFrom_l2 : Nat → Nat → Nat → Int32 → Int32 → Mem → Option Mem
  | 0 => fun _ _ _ _ _ => none
  | n + 1 => X5_surveyFrom_b2 (X5_surveyFrom_l2 n)
def X5_surveyFrom_b0 (k0 : Nat) (k1 : Nat) (v2 : Int32) (σ : Mem) : Option Mem :=
  X5_surveyFrom_l2 FU k0 k1 v2 0 σ
def X5_surveyFrom (k0 : Nat) (k1 : Nat) (v2 : Int32) (σ : Mem) : Option Mem := X5_surveyFrom_b0 k0 k1 v2 σ
def X5_survey_b10 (K10 : Nat → Nat → Int32 → Mem → Option Mem) (k0 : Nat) (k1 : Nat) (v2 : Int32) (σ : Mem) : Option Mem :=
  if (σ k0 0) ≤ v2 then (
    some σ)
  else (
    ob (X5_surveyFrom k0 k1 v2 σ) (fun σ2 =>
      K10 k0 k1 (v2 + 1) σ2))
def X5_survey_l10 : Nat → Nat → Nat → Int32 → Mem → Option Mem
  | 0 => fun _ _ _ _ => none
  | n + 1 => X5_survey_b10 (X5_survey_l10 n)
def X5_survey_b0 (k0 : Nat) (k1 : Nat) (σ : Mem) : Option Mem :=
  X5_survey_l10 FU k0 k1 0 (wr σ k0 0 (σ k1 0))
def X5_survey (k0 : Nat) (k1 : Nat) (σ : Mem) : Option Mem := X5_survey_b0 k0 k1 σ
def X5_markNear_b51 (K2 : Nat → Int32 → Int32 → Mem → Option Mem) (K19 : Nat → Int32 → Int32 → Int32 → Mem → Option Mem) (k0 : Nat) (v1 : Int32) (v2 : Int32) (v3 : Int32) (σ : Mem) : Option Mem :=
  K19 k0 v1 v2 (v3 + 1) σ
def X5_markNear_b19 (K2 : Nat → Int32 → Int32 → Mem → Option Mem) (K19 : Nat → Int32 → Int32 → Int32 → Mem → Option Mem) (k0 : Nat) (v1 : Int32) (v2 : Int32) (v3 : Int32) (σ : Mem) : Option Mem :=
  if (σ k0 0) ≤ v3 then (
    K2 k0 v1 (v2 + 1) σ)
  else (
    gdx v2 10 (
      gdx v3 10 (
      if v1 < (σ ((k0 + 1) + 1 + nc v2) (nc v3)) then (
      X5_markNear_b51 K2 K19 k0 v1 v2 v3 σ)
    else (
      gdx v2 10 (
        gdx v2 10 (
        X5_markNear_b51 K2 K19 k0 v1 v2 v3 (wr σ (k0 + 12) (nc v2) ((σ (k0 + 12) (nc v2)) ||| (shl 1 v3)))))))))
def X5_markNear_l19 (K2 : Nat → Int32 → Int32 → Mem → Option Mem) : Nat → Nat → Int32 → Int32 → Int32 → Mem → Option Mem
  | 0 => fun _ _ _ _ _ => none
  | n + 1 => X5_markNear_b19 K2 (X5_markNear_l19 K2 n)
def X5_markNear_b2 (K2 : Nat → Int32 → Int32 → Mem → Option Mem) (k0 : Nat) (v1 : Int32) (v2 : Int32) (σ : Mem) : Option Mem :=
  if (σ k0 0) ≤ v2 then (
    some σ)
  else (
    gdx v2 10 (
      X5_markNear_l19 K2 FU k0 v1 v2 0 (wr σ (k0 + 12) (nc v2) 0)))
def X5_markNear_l2 : Nat → Nat → Int32 → Int32 → Mem → Option Mem
  | 0 => fun _ _ _ _ => none
  | n + 1 => X5_markNear_b2 (X5_markNear_l2 n)
def X5_markNear_b0 (k0 : Nat) (v1 : Int32) (σ : Mem) : Option Mem :=
  X5_markNear_l2 FU k0 v1 0 σ
def X5_markNear (k0 : Nat) (v1 : Int32) (σ : Mem) : Option Mem := X5_markNear_b0 k0 v1 σ
def J7_fill_53178_b5 (K5 : Nat → Nat → Int32 → Int32 → Int32 → Mem → Option Mem) (n_k0 : Nat) (k0 : Nat) (v1 : Int32) (v2 : Int32) (v3 : Int32) (σ : Mem) : Option Mem :=
  if v3 ≤ v2 then (
    some σ)
  else (
    gdx v2 n_k0 (
      K5 n_k0 k0 v1 (v2 + 1) v3 (wr σ k0 (nc v2) v1)))
def J7_fill_53178_l5 : Nat → Nat → Nat → Int32 → Int32 → Int32 → Mem → Option Mem
  | 0 => fun _ _ _ _ _ _ => none
  | n + 1 => J7_fill_53178_b5 (J7_fill_53178_l5 n)
def J7_fill_53178_b0 (n_k0 : Nat) (k0 : Nat) (v1 : Int32) (σ : Mem) : Option Mem :=
  letv (Int32.ofNat n_k0) (fun x1 =>
    J7_fill_53178_l5 FU n_k0 k0 v1 0 x1 σ)
def J7_fill_53178 (n_k0 : Nat) (k0 : Nat) (v1 : Int32) (σ : Mem) : Option Mem := J7_fill_53178_b0 n_k0 k0 v1 σ
def X6_fits_b0 (k0 : Nat) (v1 : Int32) (v2 : Int32) (σ : Mem) : Option Int32 :=
  gdx v2 10 (
    gdx v1 10 (
    if ((σ (k0 + 15) (nc v2)) &&& ((σ ((k0 + 1) + 12) (nc v1)) ^^^ (-1))) = 0 then (
    some 1)
  else (
    some 0)))
def X6_fits (k0 : Nat) (v1 : Int32) (v2 : Int32) (σ : Mem) : Option Int32 := X6_fits_b0 k0 v1 v2 σ
def X6_settles_b17 (REC : Nat → Int32 → Int32 → Int32 → Mem → Option (Int32 × Mem)) (k0 : Nat) (v2 : Int32) (σ : Mem) : Option (Int32 × Mem) :=
  some (1, wr σ k0 3 v2)
def X6_settles_b113 (REC : Nat → Int32 → Int32 → Int32 → Mem → Option (Int32 × Mem)) (K27 : Nat → Int32 → Int32 → Int32 → Int32 → Mem → Option (Int32 × Mem)) (k0 : Nat) (v1 : Int32) (v2 : Int32) (v3 : Int32) (v4 : Int32) (σ : Mem) : Option (Int32 × Mem) :=
  K27 k0 v1 v2 v3 (v4 + 1) σ
def X6_settles_b27 (REC : Nat → Int32 → Int32 → Int32 → Mem → Option (Int32 × Mem)) (K27 : Nat → Int32 → Int32 → Int32 → Int32 → Mem → Option (Int32 × Mem)) (k0 : Nat) (v1 : Int32) (v2 : Int32) (v3 : Int32) (v4 : Int32) (σ : Mem) : Option (Int32 × Mem) :=
  if v2 < v4 then (
    some (0, σ))
  else (
    if v3 ≤ v4 then (
      some (0, σ))
    else (
      if 10 ≤ v4 then (
        some (0, σ))
      else (
        ob (X6_fits k0 v1 v4 σ) (fun r4 =>
          if r4 = 0 then (
          X6_settles_b113 REC K27 k0 v1 v2 v3 v4 σ)
        else (
          gdx v1 10 (
            letv (wr σ (k0 + 14) (nc v1) v4) (fun σ7 =>
            gdx v4 10 (
            gdx v4 10 (
            ob2 (REC k0 (v1 + 1) (mx v2 (v4 + 1)) v3 (wr σ7 (k0 + 15) (nc v4) ((σ7 (k0 + 15) (nc v4)) ||| (shl 1 v1)))) (fun r10 σ11 =>
            if r10 = 0 then (
            gdx v4 10 (
              gdx v4 10 (
              X6_settles_b113 REC K27 k0 v1 v2 v3 v4 (wr σ11 (k0 + 15) (nc v4) ((σ11 (k0 + 15) (nc v4)) &&& ((shl 1 v1) ^^^ (-1)))))))
          else (
            some (1, σ11))))))))))))
def X6_settles_l27 (REC : Nat → Int32 → Int32 → Int32 → Mem → Option (Int32 × Mem)) : Nat → Nat → Int32 → Int32 → Int32 → Int32 → Mem → Option (Int32 × Mem)
  | 0 => fun _ _ _ _ _ _ => none
  | n + 1 => X6_settles_b27 REC (X6_settles_l27 REC n)
def X6_settles_b0 (REC : Nat → Int32 → Int32 → Int32 → Mem → Option (Int32 × Mem)) (k0 : Nat) (v1 : Int32) (v2 : Int32) (v3 : Int32) (σ : Mem) : Option (Int32 × Mem) :=
  if (σ (k0 + 1) 0) ≤ v1 then (
    X6_settles_b17 REC k0 v2 σ)
  else (
    if v1 < 10 then (
      X6_settles_l27 REC FU k0 v1 v2 v3 0 σ)
    else (
      X6_settles_b17 REC k0 v2 σ))
def X6_settles : Nat → Nat → Int32 → Int32 → Int32 → Mem → Option (Int32 × Mem)
  | 0 => fun _ _ _ _ _ => none
  | n + 1 => X6_settles_b0 (X6_settles n)
def X6_areEnough_b0 (k0 : Nat) (v1 : Int32) (σ : Mem) : Option (Int32 × Mem) :=
  ob (J7_fill_53178 10 (k0 + 15) 0 σ) (fun σ1 =>
    ob2 (X6_settles 12 k0 0 0 v1 σ1) (fun r2 σ3 =>
    gdb r2 (
    some (r2, σ3))))
def X6_areEnough (k0 : Nat) (v1 : Int32) (σ : Mem) : Option (Int32 × Mem) := X6_areEnough_b0 k0 v1 σ
def J6_bitCount_0f7a4_b0 (v0 : Int32) : Int32 :=
  letv (v0 - ((ushr v0 1) &&& 1431655765)) (fun x1 =>
    letv ((x1 &&& 858993459) + ((ushr x1 2) &&& 858993459)) (fun x2 =>
    letv ((x2 + (ushr x2 4)) &&& 252645135) (fun x3 =>
    letv (x3 + (ushr x3 8)) (fun x4 =>
    letv (x4 + (ushr x4 16)) (fun x5 =>
    x5 &&& 63)))))
def J6_bitCount_0f7a4 (v0 : Int32) : Int32 := J6_bitCount_0f7a4_b0 v0
def X6_wantedAtLeast_b56 (K4 : Nat → Int32 → Int32 → Mem → Option Int32) (K22 : Nat → Int32 → Int32 → Int32 → Int32 → Mem → Option Int32) (k0 : Nat) (v1 : Int32) (v2 : Int32) (v3 : Int32) (v4 : Int32) (σ : Mem) : Option Int32 :=
  K22 k0 v1 v2 v3 (v4 + 1) σ
def X6_wantedAtLeast_b22 (K4 : Nat → Int32 → Int32 → Mem → Option Int32) (K22 : Nat → Int32 → Int32 → Int32 → Int32 → Mem → Option Int32) (k0 : Nat) (v1 : Int32) (v2 : Int32) (v3 : Int32) (v4 : Int32) (σ : Mem) : Option Int32 :=
  if (σ (k0 + 1) 0) ≤ v4 then (
    letv (mx v1 (J6_bitCount_0f7a4 v3)) (fun x2 =>
      K4 k0 x2 (v2 + 1) σ))
  else (
    gdx v4 10 (
      if ((σ ((k0 + 1) + 12) (nc v4)) &&& v3) = 0 then (
      letv (v3 ||| (shl 1 v4)) (fun x5 =>
        X6_wantedAtLeast_b56 K4 K22 k0 v1 v2 x5 v4 σ))
    else (
      X6_wantedAtLeast_b56 K4 K22 k0 v1 v2 v3 v4 σ)))
def X6_wantedAtLeast_l22 (K4 : Nat → Int32 → Int32 → Mem → Option Int32) : Nat → Nat → Int32 → Int32 → Int32 → Int32 → Mem → Option Int32
  | 0 => fun _ _ _ _ _ _ => none
  | n + 1 => X6_wantedAtLeast_b22 K4 (X6_wantedAtLeast_l22 K4 n)
def X6_wantedAtLeast_b4 (K4 : Nat → Int32 → Int32 → Mem → Option Int32) (k0 : Nat) (v1 : Int32) (v2 : Int32) (σ : Mem) : Option Int32 :=
  if (σ (k0 + 1) 0) ≤ v2 then (
    some v1)
  else (
    letv (shl 1 v2) (fun x2 =>
      X6_wantedAtLeast_l22 K4 FU k0 v1 v2 x2 0 σ))
def X6_wantedAtLeast_l4 : Nat → Nat → Int32 → Int32 → Mem → Option Int32
  | 0 => fun _ _ _ _ => none
  | n + 1 => X6_wantedAtLeast_b4 (X6_wantedAtLeast_l4 n)
def X6_wantedAtLeast_b0 (k0 : Nat) (σ : Mem) : Option Int32 :=
  X6_wantedAtLeast_l4 FU k0 1 0 σ
def X6_wantedAtLeast (k0 : Nat) (σ : Mem) : Option Int32 := X6_wantedAtLeast_b0 k0 σ
def X6_findFor_b18 (K18 : Nat → Int32 → Mem → Option Mem) (k0 : Nat) (v2 : Int32) (σ : Mem) : Option Mem :=
  if (σ (k0 + 1) 0) < v2 then (
    some σ)
  else (
    ob2 (X6_areEnough k0 v2 σ) (fun r2 σ3 =>
      if r2 = 0 then (
      K18 k0 (v2 + 1) σ3)
    else (
      some σ3)))
def X6_findFor_l18 : Nat → Nat → Int32 → Mem → Option Mem
  | 0 => fun _ _ _ => none
  | n + 1 => X6_findFor_b18 (X6_findFor_l18 n)
def X6_findFor_b0 (k0 : Nat) (v1 : Int32) (σ : Mem) : Option Mem :=
  ob (X5_markNear (k0 + 1) v1 σ) (fun σ1 =>
    ob (X6_wantedAtLeast k0 (wr σ1 k0 3 0)) (fun r2 =>
    X6_findFor_l18 FU k0 r2 (wr σ1 k0 3 0)))
def X6_findFor (k0 : Nat) (v1 : Int32) (σ : Mem) : Option Mem := X6_findFor_b0 k0 v1 σ
def X3_handsWithout_b0 (k0 : Nat) (k1 : Nat) (v2 : Int32) (σ : Mem) : Option (Int32 × Mem) :=
  ob (X2_becomeLike (k0 + 1) k1 σ) (fun σ1 =>
    ob (X2_cut (k0 + 1) v2 σ1) (fun σ2 =>
    ob (X5_survey ((k0 + 7) + 1) (k0 + 1) σ2) (fun σ3 =>
    ob (X6_findFor (k0 + 7) (σ3 (k0 + 1) 1) σ3) (fun σ4 =>
    some (σ4 (k0 + 7) 3, σ4)))))
def X3_handsWithout (k0 : Nat) (k1 : Nat) (v2 : Int32) (σ : Mem) : Option (Int32 × Mem) := X3_handsWithout_b0 k0 k1 v2 σ
def X3_leastLimit_b88 (K21 : Nat → Int32 → Int32 → Int32 → Int32 → Mem → Option (Int32 × Mem)) (k0 : Nat) (v2 : Int32) (v3 : Int32) (v4 : Int32) (v5 : Int32) (σ : Mem) : Option (Int32 × Mem) :=
  K21 k0 v2 v3 v4 (v5 + 1) σ
def X3_leastLimit_b83 (K21 : Nat → Int32 → Int32 → Int32 → Int32 → Mem → Option (Int32 × Mem)) (k0 : Nat) (v2 : Int32) (v4 : Int32) (v5 : Int32) (v6 : Int32) (σ : Mem) : Option (Int32 × Mem) :=
  letv (v6 + 1) (fun x1 =>
    X3_leastLimit_b88 K21 k0 v2 x1 v4 v5 σ)
def X3_leastLimit_b21 (K21 : Nat → Int32 → Int32 → Int32 → Int32 → Mem → Option (Int32 × Mem)) (k0 : Nat) (v2 : Int32) (v3 : Int32) (v4 : Int32) (v5 : Int32) (σ : Mem) : Option (Int32 × Mem) :=
  if 10 ≤ v5 then (
    some (v3, σ))
  else (
    if v4 ≤ v3 then (
      some (v3, σ))
    else (
      letv ((v3 + v4) / 2) (fun x3 =>
        ob (X5_markNear ((k0 + 7) + 1) x3 σ) (fun σ4 =>
        ob (X6_wantedAtLeast (k0 + 7) σ4) (fun r5 =>
        if v2 < r5 then (
        X3_leastLimit_b83 K21 k0 v2 v4 v5 x3 σ4)
      else (
        ob2 (X6_areEnough (k0 + 7) v2 σ4) (fun r7 σ8 =>
          if r7 = 0 then (
          X3_leastLimit_b83 K21 k0 v2 v4 v5 x3 σ8)
        else (
          X3_leastLimit_b88 K21 k0 v2 v3 x3 v5 σ8))))))))
def X3_leastLimit_l21 : Nat → Nat → Int32 → Int32 → Int32 → Int32 → Mem → Option (Int32 × Mem)
  | 0 => fun _ _ _ _ _ _ => none
  | n + 1 => X3_leastLimit_b21 (X3_leastLimit_l21 n)
def X3_leastLimit_b0 (k0 : Nat) (k1 : Nat) (v2 : Int32) (σ : Mem) : Option (Int32 × Mem) :=
  ob (X5_survey ((k0 + 7) + 1) k1 σ) (fun σ1 =>
    X3_leastLimit_l21 FU k0 v2 0 200 0 σ1)
def X3_leastLimit (k0 : Nat) (k1 : Nat) (v2 : Int32) (σ : Mem) : Option (Int32 × Mem) := X3_leastLimit_b0 k0 k1 v2 σ
def X3_hear_b8 (K8 : Nat → Nat → Int32 → Int32 → Int32 → Mem → Option Mem) (k0 : Nat) (k1 : Nat) (v2 : Int32) (v3 : Int32) (v4 : Int32) (σ : Mem) : Option Mem :=
  if v3 ≤ v4 then (
    some σ)
  else (
    if 10 ≤ v4 then (
      some σ)
    else (
      if 40 ≤ (v2 + v4) then (
        some σ)
      else (
        gdx (v2 + v4) 40 (
          gdx v4 10 (
          letv (wr σ (k0 + 23) (nc v4) (σ k1 (nc (v2 + v4)))) (fun σ6 =>
          K8 k0 k1 v2 v3 (v4 + 1) (wr σ6 k0 3 ((σ6 k0 3) + 1))))))))
def X3_hear_l8 : Nat → Nat → Nat → Int32 → Int32 → Int32 → Mem → Option Mem
  | 0 => fun _ _ _ _ _ _ => none
  | n + 1 => X3_hear_b8 (X3_hear_l8 n)
def X3_hear_b0 (k0 : Nat) (k1 : Nat) (v2 : Int32) (v3 : Int32) (σ : Mem) : Option Mem :=
  X3_hear_l8 FU k0 k1 v2 v3 0 (wr σ k0 3 0)
def X3_hear (k0 : Nat) (k1 : Nat) (v2 : Int32) (v3 : Int32) (σ : Mem) : Option Mem := X3_hear_b0 k0 k1 v2 v3 σ
def X3_isSoBy_b10 (K10 : Nat → Int32 → Mem → Option (Int32 × Mem)) (k0 : Nat) (v2 : Int32) (σ : Mem) : Option (Int32 × Mem) :=
  if (σ k0 3) ≤ v2 then (
    some (1, σ))
  else (
    gdx v2 10 (
      gdx v2 10 (
      if (σ ((k0 + 7) + 14) (nc v2)) = (σ (k0 + 23) (nc v2)) then (
      K10 k0 (v2 + 1) σ)
    else (
      some (0, σ)))))
def X3_isSoBy_l10 : Nat → Nat → Int32 → Mem → Option (Int32 × Mem)
  | 0 => fun _ _ _ => none
  | n + 1 => X3_isSoBy_b10 (X3_isSoBy_l10 n)
def X3_isSoBy_b0 (k0 : Nat) (v1 : Int32) (σ : Mem) : Option (Int32 × Mem) :=
  ob (X6_findFor (k0 + 7) v1 σ) (fun σ1 =>
    X3_isSoBy_l10 FU k0 0 σ1)
def X3_isSoBy (k0 : Nat) (v1 : Int32) (σ : Mem) : Option (Int32 × Mem) := X3_isSoBy_b0 k0 v1 σ
def X3_limitsOf_b39 (K16 : Nat → Int64 → Int32 → Mem → Option (Int64 × Mem)) (k0 : Nat) (v2 : Int64) (v4 : Int32) (σ : Mem) : Option (Int64 × Mem) :=
  K16 k0 v2 (v4 + 1) σ
def X3_limitsOf_b16 (K16 : Nat → Int64 → Int32 → Mem → Option (Int64 × Mem)) (k0 : Nat) (v2 : Int64) (v4 : Int32) (σ : Mem) : Option (Int64 × Mem) :=
  if 60 < v4 then (
    some (v2, σ))
  else (
    ob2 (X3_isSoBy k0 v4 σ) (fun r2 σ3 =>
      if r2 = 0 then (
      X3_limitsOf_b39 K16 k0 v2 v4 σ3)
    else (
      letv (v2 ||| (lshl 1 v4)) (fun x5 =>
        X3_limitsOf_b39 K16 k0 x5 v4 σ3))))
def X3_limitsOf_l16 : Nat → Nat → Int64 → Int32 → Mem → Option (Int64 × Mem)
  | 0 => fun _ _ _ _ => none
  | n + 1 => X3_limitsOf_b16 (X3_limitsOf_l16 n)
def X3_limitsOf_b0 (k0 : Nat) (k1 : Nat) (σ : Mem) : Option (Int64 × Mem) :=
  ob (X5_survey ((k0 + 7) + 1) k1 σ) (fun σ1 =>
    X3_limitsOf_l16 FU k0 0 0 σ1)
def X3_limitsOf (k0 : Nat) (k1 : Nat) (σ : Mem) : Option (Int64 × Mem) := X3_limitsOf_b0 k0 k1 σ
def X3_kindsOf_b80 (K27 : Nat → Int32 → Int32 → Int32 → Mem → Option (Int32 × Mem)) (k0 : Nat) (v2 : Int32) (v3 : Int32) (v4 : Int32) (σ : Mem) : Option (Int32 × Mem) :=
  K27 k0 v2 v3 (v4 + 1) σ
def X3_kindsOf_b27 (K27 : Nat → Int32 → Int32 → Int32 → Mem → Option (Int32 × Mem)) (k0 : Nat) (v2 : Int32) (v3 : Int32) (v4 : Int32) (σ : Mem) : Option (Int32 × Mem) :=
  if 5 < v4 then (
    some (v3, σ))
  else (
    gdx v2 10 (
      ob (X5_surveyFrom ((k0 + 7) + 1) (k0 + 1) v2 (wr σ ((k0 + 1) + 1) (nc v2) v4)) (fun σ3 =>
      ob2 (X3_isSoBy k0 (σ3 (k0 + 1) 1) σ3) (fun r4 σ5 =>
      if r4 = 0 then (
      X3_kindsOf_b80 K27 k0 v2 v3 v4 σ5)
    else (
      letv (v3 ||| (shl 1 v4)) (fun x7 =>
        X3_kindsOf_b80 K27 k0 v2 x7 v4 σ5))))))
def X3_kindsOf_l27 : Nat → Nat → Int32 → Int32 → Int32 → Mem → Option (Int32 × Mem)
  | 0 => fun _ _ _ _ _ => none
  | n + 1 => X3_kindsOf_b27 (X3_kindsOf_l27 n)
def X3_kindsOf_b0 (k0 : Nat) (k1 : Nat) (v2 : Int32) (σ : Mem) : Option (Int32 × Mem) :=
  ob (X2_becomeLike (k0 + 1) k1 σ) (fun σ1 =>
    ob (X5_survey ((k0 + 7) + 1) (k0 + 1) σ1) (fun σ2 =>
    X3_kindsOf_l27 FU k0 v2 0 1 σ2))
def X3_kindsOf (k0 : Nat) (k1 : Nat) (v2 : Int32) (σ : Mem) : Option (Int32 × Mem) := X3_kindsOf_b0 k0 k1 v2 σ
def X3_numbersOf_b86 (K28 : Nat → Int32 → Int32 → Int32 → Int32 → Mem → Option (Int32 × Mem)) (k0 : Nat) (v2 : Int32) (v3 : Int32) (v4 : Int32) (v5 : Int32) (σ : Mem) : Option (Int32 × Mem) :=
  K28 k0 v2 v3 v4 (v5 + 1) σ
def X3_numbersOf_b28 (K28 : Nat → Int32 → Int32 → Int32 → Int32 → Mem → Option (Int32 × Mem)) (k0 : Nat) (v2 : Int32) (v3 : Int32) (v4 : Int32) (v5 : Int32) (σ : Mem) : Option (Int32 × Mem) :=
  if 30 < v5 then (
    some (v4, σ))
  else (
    gdx v3 3 (
      gdx v2 10 (
      ob (X5_surveyFrom ((k0 + 7) + 1) (k0 + 1) v2 (wr σ (((k0 + 1) + 2) + 1 + nc v3) (nc v2) v5)) (fun σ4 =>
      ob2 (X3_isSoBy k0 (σ4 (k0 + 1) 1) σ4) (fun r5 σ6 =>
      if r5 = 0 then (
      X3_numbersOf_b86 K28 k0 v2 v3 v4 v5 σ6)
    else (
      letv (v4 ||| (shl 1 v5)) (fun x8 =>
        X3_numbersOf_b86 K28 k0 v2 v3 x8 v5 σ6)))))))
def X3_numbersOf_l28 : Nat → Nat → Int32 → Int32 → Int32 → Int32 → Mem → Option (Int32 × Mem)
  | 0 => fun _ _ _ _ _ _ => none
  | n + 1 => X3_numbersOf_b28 (X3_numbersOf_l28 n)
def X3_numbersOf_b0 (k0 : Nat) (k1 : Nat) (v2 : Int32) (v3 : Int32) (σ : Mem) : Option (Int32 × Mem) :=
  ob (X2_becomeLike (k0 + 1) k1 σ) (fun σ1 =>
    ob (X5_survey ((k0 + 7) + 1) (k0 + 1) σ1) (fun σ2 =>
    X3_numbersOf_l28 FU k0 v2 v3 0 0 σ2))
def X3_numbersOf (k0 : Nat) (k1 : Nat) (v2 : Int32) (v3 : Int32) (σ : Mem) : Option (Int32 × Mem) := X3_numbersOf_b0 k0 k1 v2 v3 σ
def X11_power_b5 (K5 : Int32 → Int32 → Int64 → Int32 → Option Int64) (v0 : Int32) (v1 : Int32) (v2 : Int64) (v4 : Int32) : Option Int64 :=
  if v1 ≤ v4 then (
    some v2)
  else (
    letv (v2 * (Int32.toInt64 v0)) (fun x2 =>
      K5 v0 v1 x2 (v4 + 1)))
def X11_power_l5 : Nat → Int32 → Int32 → Int64 → Int32 → Option Int64
  | 0 => fun _ _ _ _ => none
  | n + 1 => X11_power_b5 (X11_power_l5 n)
def X11_power_b0 (v0 : Int32) (v1 : Int32) : Option Int64 :=
  X11_power_l5 FU v0 v1 1 0
def X11_power (v0 : Int32) (v1 : Int32) : Option Int64 := X11_power_b0 v0 v1
def J6_numberOfTrailingZeros_0f7a4_b74 (v0 : Int32) (v1 : Int32) : Int32 :=
  v1 + (ushr v0 1)
def J6_numberOfTrailingZeros_0f7a4_b62 (v0 : Int32) (v1 : Int32) : Int32 :=
  if v0 ≤ 4 then (
    J6_numberOfTrailingZeros_0f7a4_b74 v0 v1)
  else (
    letv (ushr v0 2) (fun x2 =>
      J6_numberOfTrailingZeros_0f7a4_b74 x2 (v1 + 2)))
def J6_numberOfTrailingZeros_0f7a4_b49 (v0 : Int32) (v1 : Int32) : Int32 :=
  if v0 ≤ 16 then (
    J6_numberOfTrailingZeros_0f7a4_b62 v0 v1)
  else (
    letv (ushr v0 4) (fun x2 =>
      J6_numberOfTrailingZeros_0f7a4_b62 x2 (v1 + 4)))
def J6_numberOfTrailingZeros_0f7a4_b34 (v0 : Int32) (v1 : Int32) : Int32 :=
  if v0 ≤ 256 then (
    J6_numberOfTrailingZeros_0f7a4_b49 v0 v1)
  else (
    letv (ushr v0 8) (fun x2 =>
      J6_numberOfTrailingZeros_0f7a4_b49 x2 (v1 + 8)))
def J6_numberOfTrailingZeros_0f7a4_b0 (v0 : Int32) : Int32 :=
  letv ((v0 ^^^ (-1)) &&& (v0 - 1)) (fun x1 =>
    if 0 < x1 then (
    if x1 ≤ 65536 then (
      J6_numberOfTrailingZeros_0f7a4_b34 x1 1)
    else (
      letv (ushr x1 16) (fun x4 =>
        J6_numberOfTrailingZeros_0f7a4_b34 x4 (1 + 16))))
  else (
    x1 &&& 32))
def J6_numberOfTrailingZeros_0f7a4 (v0 : Int32) : Int32 := J6_numberOfTrailingZeros_0f7a4_b0 v0
def X3_fewestFor_b83 (K47 : Nat → Int32 → Int32 → Int32 → Int32 → Mem → Option Int32) (k0 : Nat) (v3 : Int32) (v4 : Int32) (v5 : Int32) (v6 : Int32) (σ : Mem) : Option Int32 :=
  letv ((v6 - 1) &&& v4) (fun x1 =>
    K47 k0 v3 v4 v5 x1 σ)
def X3_fewestFor_b47 (K47 : Nat → Int32 → Int32 → Int32 → Int32 → Mem → Option Int32) (k0 : Nat) (v3 : Int32) (v4 : Int32) (v5 : Int32) (v6 : Int32) (σ : Mem) : Option Int32 :=
  if v6 ≤ 0 then (
    some v5)
  else (
    gdx v6 1024 (
      if (σ (k0 + 24) (nc v6)) = 1 then (
      gdx (v3 &&& (v6 ^^^ (-1))) 1024 (
        letv (mn v5 (1 + (σ (k0 + 24) (nc (v3 &&& (v6 ^^^ (-1))))))) (fun x5 =>
        X3_fewestFor_b83 K47 k0 v3 v4 x5 v6 σ)))
    else (
      X3_fewestFor_b83 K47 k0 v3 v4 v5 v6 σ)))
def X3_fewestFor_l47 : Nat → Nat → Int32 → Int32 → Int32 → Int32 → Mem → Option Int32
  | 0 => fun _ _ _ _ _ _ => none
  | n + 1 => X3_fewestFor_b47 (X3_fewestFor_l47 n)
def X3_fewestFor_b0 (k0 : Nat) (v1 : Int32) (σ : Mem) : Option Int32 :=
  if v1 = 0 then (
    some 0)
  else (
    letv (J6_numberOfTrailingZeros_0f7a4 v1) (fun x2 =>
      letv (v1 &&& (v1 - 1)) (fun x3 =>
      gdx x2 10 (
      letv (x3 &&& (σ (((k0 + 7) + 1) + 12) (nc x2))) (fun x5 =>
      gdx x3 1024 (
      letv (1 + (σ (k0 + 24) (nc x3))) (fun x7 =>
      X3_fewestFor_l47 FU k0 x3 x5 x7 x5 σ)))))))
def X3_fewestFor (k0 : Nat) (v1 : Int32) (σ : Mem) : Option Int32 := X3_fewestFor_b0 k0 v1 σ
def X3_goodCases_b97 (K97 : Nat → Nat → Int32 → Int64 → Int32 → Mem → Option (Int64 × Mem)) (k0 : Nat) (k1 : Nat) (v3 : Int32) (v4 : Int64) (v6 : Int32) (σ : Mem) : Option (Int64 × Mem) :=
  if (σ k1 0) < v6 then (
    some (v4, σ))
  else (
    gdx v6 11 (
      ob (X11_power (10 - v3) v6) (fun r3 =>
      ob (X11_power v3 ((σ k1 0) - v6)) (fun r4 =>
      letv (v4 + (((Int32.toInt64 (σ (k0 + 25) (nc v6))) * r3) * r4)) (fun x5 =>
      K97 k0 k1 v3 x5 (v6 + 1) σ)))))
def X3_goodCases_l97 : Nat → Nat → Nat → Int32 → Int64 → Int32 → Mem → Option (Int64 × Mem)
  | 0 => fun _ _ _ _ _ _ => none
  | n + 1 => X3_goodCases_b97 (X3_goodCases_l97 n)
def X3_goodCases_b85 (K36 : Nat → Nat → Int32 → Int32 → Int32 → Mem → Option (Int64 × Mem)) (k0 : Nat) (k1 : Nat) (v2 : Int32) (v3 : Int32) (v4 : Int32) (σ : Mem) : Option (Int64 × Mem) :=
  K36 k0 k1 v2 v3 (v4 + 1) σ
def X3_goodCases_b36 (K36 : Nat → Nat → Int32 → Int32 → Int32 → Mem → Option (Int64 × Mem)) (k0 : Nat) (k1 : Nat) (v2 : Int32) (v3 : Int32) (v4 : Int32) (σ : Mem) : Option (Int64 × Mem) :=
  if (shl 1 (σ k1 0)) ≤ v4 then (
    X3_goodCases_l97 FU k0 k1 v3 0 0 σ)
  else (
    ob (X3_fewestFor k0 v4 σ) (fun r2 =>
      gdx v4 1024 (
      letv (wr σ (k0 + 24) (nc v4) r2) (fun σ4 =>
      gdx v4 1024 (
      if v2 < (σ4 (k0 + 24) (nc v4)) then (
      X3_goodCases_b85 K36 k0 k1 v2 v3 v4 σ4)
    else (
      gdx (J6_bitCount_0f7a4 v4) 11 (
        gdx (J6_bitCount_0f7a4 v4) 11 (
        X3_goodCases_b85 K36 k0 k1 v2 v3 v4 (wr σ4 (k0 + 25) (nc (J6_bitCount_0f7a4 v4)) ((σ4 (k0 + 25) (nc (J6_bitCount_0f7a4 v4))) + 1))))))))))
def X3_goodCases_l36 : Nat → Nat → Nat → Int32 → Int32 → Int32 → Mem → Option (Int64 × Mem)
  | 0 => fun _ _ _ _ _ _ => none
  | n + 1 => X3_goodCases_b36 (X3_goodCases_l36 n)
def X3_goodCases_b0 (k0 : Nat) (k1 : Nat) (v2 : Int32) (v3 : Int32) (σ : Mem) : Option (Int64 × Mem) :=
  ob (X5_survey ((k0 + 7) + 1) k1 σ) (fun σ1 =>
    ob (X5_markNear ((k0 + 7) + 1) (σ1 k1 1) σ1) (fun σ2 =>
    ob (J7_fill_53178 11 (k0 + 25) 0 σ2) (fun σ3 =>
    X3_goodCases_l36 FU k0 k1 v2 v3 0 σ3)))
def X3_goodCases (k0 : Nat) (k1 : Nat) (v2 : Int32) (v3 : Int32) (σ : Mem) : Option (Int64 × Mem) := X3_goodCases_b0 k0 k1 v2 v3 σ
def X3_draw_b45 (K45 : Nat → Int32 → Int64 → Int32 → Int32 → Mem → Option (Int32 × Mem)) (k0 : Nat) (v2 : Int32) (v4 : Int64) (v6 : Int32) (v7 : Int32) (σ : Mem) : Option (Int32 × Mem) :=
  if v2 ≤ v7 then (
    some (v6, σ))
  else (
    letv (lrm (v4 * 16807) 2147483647) (fun x2 =>
      gdl (Int32.toInt64 (σ (k0 + 1) 0)) (
      letv (Int64.toInt32 (lrm x2 (Int32.toInt64 (σ (k0 + 1) 0)))) (fun x4 =>
      letv (Int64.toInt32 (lrm (x2 / 16) 3)) (fun x5 =>
      gdx x5 3 (
      gdx x4 10 (
      ob (X5_surveyFrom ((k0 + 7) + 1) (k0 + 1) x4 (wr σ (((k0 + 1) + 2) + 1 + nc x5) (nc x4) (Int64.toInt32 (lrm (x2 / 64) 31)))) (fun σ8 =>
      ob (X6_findFor (k0 + 7) (σ8 (k0 + 1) 1) σ8) (fun σ9 =>
      letv (v6 + (σ9 (k0 + 7) 3)) (fun x10 =>
      K45 k0 v2 x2 x10 (v7 + 1) σ9))))))))))
def X3_draw_l45 : Nat → Nat → Int32 → Int64 → Int32 → Int32 → Mem → Option (Int32 × Mem)
  | 0 => fun _ _ _ _ _ _ => none
  | n + 1 => X3_draw_b45 (X3_draw_l45 n)
def X3_draw_b0 (k0 : Nat) (k1 : Nat) (v2 : Int32) (v3 : Int32) (σ : Mem) : Option (Int32 × Mem) :=
  ob (X2_becomeLike (k0 + 1) k1 σ) (fun σ1 =>
    ob (X5_survey ((k0 + 7) + 1) (k0 + 1) σ1) (fun σ2 =>
    if 1 ≤ (σ2 (k0 + 1) 0) then (
    letv (Int32.toInt64 v3) (fun x4 =>
      X3_draw_l45 FU k0 v2 x4 0 0 σ2))
  else (
    some (0, σ2))))
def X3_draw (k0 : Nat) (k1 : Nat) (v2 : Int32) (v3 : Int32) (σ : Mem) : Option (Int32 × Mem) := X3_draw_b0 k0 k1 v2 v3 σ
def X5_furthest_b47 (K5 : Nat → Int32 → Int32 → Int32 → Int32 → Mem → Option Int32) (k0 : Nat) (v1 : Int32) (v2 : Int32) (v3 : Int32) (v4 : Int32) (σ : Mem) : Option Int32 :=
  K5 k0 v1 v2 v3 (v4 + 1) σ
def X5_furthest_b5 (K5 : Nat → Int32 → Int32 → Int32 → Int32 → Mem → Option Int32) (k0 : Nat) (v1 : Int32) (v2 : Int32) (v3 : Int32) (v4 : Int32) (σ : Mem) : Option Int32 :=
  if (σ k0 0) ≤ v4 then (
    some v3)
  else (
    if ((shr v2 v4) &&& 1) = 1 then (
      gdx v1 10 (
        gdx v4 10 (
        if (σ ((k0 + 1) + 1 + nc v1) (nc v4)) ≤ v3 then (
        X5_furthest_b47 K5 k0 v1 v2 v3 v4 σ)
      else (
        gdx v1 10 (
          gdx v4 10 (
          letv (σ ((k0 + 1) + 1 + nc v1) (nc v4)) (fun x8 =>
          X5_furthest_b47 K5 k0 v1 v2 x8 v4 σ)))))))
    else (
      X5_furthest_b47 K5 k0 v1 v2 v3 v4 σ))
def X5_furthest_l5 : Nat → Nat → Int32 → Int32 → Int32 → Int32 → Mem → Option Int32
  | 0 => fun _ _ _ _ _ _ => none
  | n + 1 => X5_furthest_b5 (X5_furthest_l5 n)
def X5_furthest_b0 (k0 : Nat) (v1 : Int32) (v2 : Int32) (σ : Mem) : Option Int32 :=
  X5_furthest_l5 FU k0 v1 v2 0 0 σ
def X5_furthest (k0 : Nat) (v1 : Int32) (v2 : Int32) (σ : Mem) : Option Int32 := X5_furthest_b0 k0 v1 v2 σ
def X5_widest_b32 (K4 : Nat → Int32 → Int32 → Int32 → Mem → Option Int32) (k0 : Nat) (v1 : Int32) (v2 : Int32) (v3 : Int32) (σ : Mem) : Option Int32 :=
  K4 k0 v1 v2 (v3 + 1) σ
def X5_widest_b4 (K4 : Nat → Int32 → Int32 → Int32 → Mem → Option Int32) (k0 : Nat) (v1 : Int32) (v2 : Int32) (v3 : Int32) (σ : Mem) : Option Int32 :=
  if (σ k0 0) ≤ v3 then (
    some v2)
  else (
    if ((shr v1 v3) &&& 1) = 1 then (
      ob (X5_furthest k0 v3 v1 σ) (fun r3 =>
        letv (mx v2 r3) (fun x4 =>
        X5_widest_b32 K4 k0 v1 x4 v3 σ)))
    else (
      X5_widest_b32 K4 k0 v1 v2 v3 σ))
def X5_widest_l4 : Nat → Nat → Int32 → Int32 → Int32 → Mem → Option Int32
  | 0 => fun _ _ _ _ _ => none
  | n + 1 => X5_widest_b4 (X5_widest_l4 n)
def X5_widest_b0 (k0 : Nat) (v1 : Int32) (σ : Mem) : Option Int32 :=
  X5_widest_l4 FU k0 v1 0 0 σ
def X5_widest (k0 : Nat) (v1 : Int32) (σ : Mem) : Option Int32 := X5_widest_b0 k0 v1 σ
def X3_spreadOfAll_b0 (k0 : Nat) (σ : Mem) : Option Int32 :=
  ob (X5_widest ((k0 + 7) + 1) ((shl 1 (σ (k0 + 1) 0)) - 1) σ) (fun r1 =>
    some r1)
def X3_spreadOfAll (k0 : Nat) (σ : Mem) : Option Int32 := X3_spreadOfAll_b0 k0 σ
def X4_doubt_b62 (K7 : Nat → Int32 → Int32 → Mem → Option Mem) (K14 : Nat → Int32 → Int32 → Int32 → Mem → Option Mem) (k0 : Nat) (v1 : Int32) (v2 : Int32) (v3 : Int32) (σ : Mem) : Option Mem :=
  K14 k0 v1 v2 (v3 + 1) σ
def X4_doubt_b14 (K7 : Nat → Int32 → Int32 → Mem → Option Mem) (K14 : Nat → Int32 → Int32 → Int32 → Mem → Option Mem) (k0 : Nat) (v1 : Int32) (v2 : Int32) (v3 : Int32) (σ : Mem) : Option Mem :=
  if (σ (k0 + 1) 3) ≤ v3 then (
    K7 k0 v1 (v2 + 1) σ)
  else (
    gdx v2 10 (
      if v3 = (σ ((k0 + 1) + 14) (nc v2)) then (
      X4_doubt_b62 K7 K14 k0 v1 v2 v3 σ)
    else (
      ob (X6_fits (k0 + 1) v2 v3 σ) (fun r4 =>
        if r4 = 0 then (
        X4_doubt_b62 K7 K14 k0 v1 v2 v3 σ)
      else (
        X4_doubt_b62 K7 K14 k0 v1 v2 v3 (wr σ k0 5 ((σ k0 5) ||| (shl 1 v2))))))))
def X4_doubt_l14 (K7 : Nat → Int32 → Int32 → Mem → Option Mem) : Nat → Nat → Int32 → Int32 → Int32 → Mem → Option Mem
  | 0 => fun _ _ _ _ _ => none
  | n + 1 => X4_doubt_b14 K7 (X4_doubt_l14 K7 n)
def X4_doubt_b7 (K7 : Nat → Int32 → Int32 → Mem → Option Mem) (k0 : Nat) (v1 : Int32) (v2 : Int32) (σ : Mem) : Option Mem :=
  if v1 ≤ v2 then (
    some σ)
  else (
    X4_doubt_l14 K7 FU k0 v1 v2 0 σ)
def X4_doubt_l7 : Nat → Nat → Int32 → Int32 → Mem → Option Mem
  | 0 => fun _ _ _ _ => none
  | n + 1 => X4_doubt_b7 (X4_doubt_l7 n)
def X4_doubt_b0 (k0 : Nat) (v1 : Int32) (σ : Mem) : Option Mem :=
  X4_doubt_l7 FU k0 v1 0 (wr σ k0 5 0)
def X4_doubt (k0 : Nat) (v1 : Int32) (σ : Mem) : Option Mem := X4_doubt_b0 k0 v1 σ
def X4_unite_b57 (K57 : Nat → Int32 → Int32 → Int32 → Int32 → Int32 → Mem → Option Mem) (k0 : Nat) (v1 : Int32) (v2 : Int32) (v3 : Int32) (v4 : Int32) (v5 : Int32) (σ : Mem) : Option Mem :=
  if v1 ≤ v5 then (
    some σ)
  else (
    gdx v2 10 (
      gdx v5 10 (
      gdx v3 10 (
      gdx v5 10 (
      letv (mx v4 (mx (σ ((k0 + 24) + 1 + nc v2) (nc v5)) (σ ((k0 + 24) + 1 + nc v3) (nc v5)))) (fun x6 =>
      gdx v2 10 (
      gdx v5 10 (
      gdx v5 10 (
      letv (wr σ ((k0 + 24) + 1 + nc v2) (nc v5) x6) (fun σ10 =>
      gdx v2 10 (
      K57 k0 v1 v2 v3 v4 (v5 + 1) (wr σ10 ((k0 + 24) + 1 + nc v5) (nc v2) x6))))))))))))
def X4_unite_l57 : Nat → Nat → Int32 → Int32 → Int32 → Int32 → Int32 → Mem → Option Mem
  | 0 => fun _ _ _ _ _ _ _ => none
  | n + 1 => X4_unite_b57 (X4_unite_l57 n)
def X4_unite_b38 (K13 : Nat → Int32 → Int32 → Int32 → Int32 → Mem → Option Mem) (k0 : Nat) (v1 : Int32) (v2 : Int32) (v3 : Int32) (v4 : Int32) (σ : Mem) : Option Mem :=
  K13 k0 v1 v2 v3 (v4 + 1) σ
def X4_unite_b13 (K13 : Nat → Int32 → Int32 → Int32 → Int32 → Mem → Option Mem) (k0 : Nat) (v1 : Int32) (v2 : Int32) (v3 : Int32) (v4 : Int32) (σ : Mem) : Option Mem :=
  if v1 ≤ v4 then (
    gdx v2 10 (
      gdx v3 10 (
      letv (σ ((k0 + 24) + 1 + nc v2) (nc v3)) (fun x4 =>
      X4_unite_l57 FU k0 v1 v2 v3 x4 0 σ))))
  else (
    gdx v4 10 (
      if (σ (k0 + 23) (nc v4)) = v3 then (
      gdx v4 10 (
        X4_unite_b38 K13 k0 v1 v2 v3 v4 (wr σ (k0 + 23) (nc v4) v2)))
    else (
      X4_unite_b38 K13 k0 v1 v2 v3 v4 σ)))
def X4_unite_l13 : Nat → Nat → Int32 → Int32 → Int32 → Int32 → Mem → Option Mem
  | 0 => fun _ _ _ _ _ _ => none
  | n + 1 => X4_unite_b13 (X4_unite_l13 n)
def X4_unite_b0 (k0 : Nat) (v1 : Int32) (v2 : Int32) (v3 : Int32) (σ : Mem) : Option Mem :=
  X4_unite_l13 FU k0 v1 v2 v3 0 (wr σ k0 4 ((σ k0 4) - 1))
def X4_unite (k0 : Nat) (v1 : Int32) (v2 : Int32) (v3 : Int32) (σ : Mem) : Option Mem := X4_unite_b0 k0 v1 v2 v3 σ
def X4_joinsOnce_b91 (K15 : Nat → Int32 → Int32 → Int32 → Int32 → Int32 → Mem → Option (Int32 × Mem)) (K27 : Nat → Int32 → Int32 → Int32 → Int32 → Int32 → Int32 → Mem → Option (Int32 × Mem)) (k0 : Nat) (v1 : Int32) (v3 : Int32) (v4 : Int32) (v5 : Int32) (v6 : Int32) (v7 : Int32) (σ : Mem) : Option (Int32 × Mem) :=
  K27 k0 v1 v3 v4 v5 v6 (v7 + 1) σ
def X4_joinsOnce_b27 (K15 : Nat → Int32 → Int32 → Int32 → Int32 → Int32 → Mem → Option (Int32 × Mem)) (K27 : Nat → Int32 → Int32 → Int32 → Int32 → Int32 → Int32 → Mem → Option (Int32 × Mem)) (k0 : Nat) (v1 : Int32) (v3 : Int32) (v4 : Int32) (v5 : Int32) (v6 : Int32) (v7 : Int32) (σ : Mem) : Option (Int32 × Mem) :=
  if v1 ≤ v7 then (
    K15 k0 v1 v3 v4 v5 (v6 + 1) σ)
  else (
    gdx v6 10 (
      if (σ (k0 + 23) (nc v6)) = v6 then (
      gdx v7 10 (
        if (σ (k0 + 23) (nc v7)) = v7 then (
        gdx v6 10 (
          gdx v7 10 (
          if v5 ≤ (σ ((k0 + 24) + 1 + nc v6) (nc v7)) then (
          X4_joinsOnce_b91 K15 K27 k0 v1 v3 v4 v5 v6 v7 σ)
        else (
          gdx v6 10 (
            gdx v7 10 (
            letv (σ ((k0 + 24) + 1 + nc v6) (nc v7)) (fun x11 =>
            X4_joinsOnce_b91 K15 K27 k0 v1 v6 v7 x11 v6 v7 σ)))))))
      else (
        X4_joinsOnce_b91 K15 K27 k0 v1 v3 v4 v5 v6 v7 σ)))
    else (
      X4_joinsOnce_b91 K15 K27 k0 v1 v3 v4 v5 v6 v7 σ)))
def X4_joinsOnce_l27 (K15 : Nat → Int32 → Int32 → Int32 → Int32 → Int32 → Mem → Option (Int32 × Mem)) : Nat → Nat → Int32 → Int32 → Int32 → Int32 → Int32 → Int32 → Mem → Option (Int32 × Mem)
  | 0 => fun _ _ _ _ _ _ _ _ => none
  | n + 1 => X4_joinsOnce_b27 K15 (X4_joinsOnce_l27 K15 n)
def X4_joinsOnce_b15 (K15 : Nat → Int32 → Int32 → Int32 → Int32 → Int32 → Mem → Option (Int32 × Mem)) (k0 : Nat) (v1 : Int32) (v3 : Int32) (v4 : Int32) (v5 : Int32) (v6 : Int32) (σ : Mem) : Option (Int32 × Mem) :=
  if v1 ≤ v6 then (
    if v3 < 0 then (
      some (0, σ))
    else (
      if 0 ≤ v4 then (
        ob (X4_unite k0 v1 v3 v4 σ) (fun σ4 =>
          some (1, σ4)))
      else (
        some (0, σ))))
  else (
    letv (v6 + 1) (fun x5 =>
      X4_joinsOnce_l27 K15 FU k0 v1 v3 v4 v5 v6 x5 σ))
def X4_joinsOnce_l15 : Nat → Nat → Int32 → Int32 → Int32 → Int32 → Int32 → Mem → Option (Int32 × Mem)
  | 0 => fun _ _ _ _ _ _ _ => none
  | n + 1 => X4_joinsOnce_b15 (X4_joinsOnce_l15 n)
def X4_joinsOnce_b0 (k0 : Nat) (v1 : Int32) (v2 : Int32) (σ : Mem) : Option (Int32 × Mem) :=
  letv (v2 + 1) (fun x1 =>
    X4_joinsOnce_l15 FU k0 v1 (-1000000) (-1000000) x1 0 σ)
def X4_joinsOnce (k0 : Nat) (v1 : Int32) (v2 : Int32) (σ : Mem) : Option (Int32 × Mem) := X4_joinsOnce_b0 k0 v1 v2 σ
def X4_join_b52 (K52 : Nat → Int32 → Int32 → Int32 → Mem → Option Mem) (k0 : Nat) (v1 : Int32) (v2 : Int32) (v3 : Int32) (σ : Mem) : Option Mem :=
  if v1 ≤ v3 then (
    some σ)
  else (
    ob2 (X4_joinsOnce k0 v1 v2 σ) (fun r2 σ3 =>
      if r2 = 0 then (
      some σ3)
    else (
      K52 k0 v1 v2 (v3 + 1) σ3)))
def X4_join_l52 : Nat → Nat → Int32 → Int32 → Int32 → Mem → Option Mem
  | 0 => fun _ _ _ _ _ => none
  | n + 1 => X4_join_b52 (X4_join_l52 n)
def X4_join_b2 (K2 : Nat → Int32 → Int32 → Int32 → Mem → Option Mem) (k0 : Nat) (v1 : Int32) (v2 : Int32) (v3 : Int32) (σ : Mem) : Option Mem :=
  if v1 ≤ v3 then (
    X4_join_l52 FU k0 v1 v2 1 (wr σ k0 4 v1))
  else (
    gdx v3 10 (
      gdx v3 10 (
      gdx v3 10 (
      letv (wr σ (k0 + 23) (nc v3) v3) (fun σ5 =>
      gdc 0 0 10 10 10 (
      K2 k0 v1 v2 (v3 + 1) (wrF σ5 ((k0 + 24) + 1 + nc v3) (va_cpy (σ5 ((((k0 + 1) + 1) + 1) + 1 + nc v3)) (σ5 ((k0 + 24) + 1 + nc v3)) (nc 0) (nc 0) (nc 10)))))))))
def X4_join_l2 : Nat → Nat → Int32 → Int32 → Int32 → Mem → Option Mem
  | 0 => fun _ _ _ _ _ => none
  | n + 1 => X4_join_b2 (X4_join_l2 n)
def X4_join_b0 (k0 : Nat) (v1 : Int32) (v2 : Int32) (σ : Mem) : Option Mem :=
  X4_join_l2 FU k0 v1 v2 0 σ
def X4_join (k0 : Nat) (v1 : Int32) (v2 : Int32) (σ : Mem) : Option Mem := X4_join_b0 k0 v1 v2 σ
def X4_add_b0 (k0 : Nat) (v1 : Int32) (σ : Mem) : Option Mem :=
  if 64 ≤ (σ k0 7) then (
    some σ)
  else (
    gdx (σ k0 7) 64 (
      letv (wr σ (k0 + 35) (nc (σ k0 7)) v1) (fun σ3 =>
      some (wr σ3 k0 7 ((σ3 k0 7) + 1)))))
def X4_add (k0 : Nat) (v1 : Int32) (σ : Mem) : Option Mem := X4_add_b0 k0 v1 σ
def X4_addNumber_b0 (k0 : Nat) (v1 : Int32) (σ : Mem) : Option Mem :=
  ob (X4_add k0 (48 + v1) σ) (fun σ1 =>
    some σ1)
def X4_addNumber (k0 : Nat) (v1 : Int32) (σ : Mem) : Option Mem := X4_addNumber_b0 k0 v1 σ
def X4_writePages_b58 (K5 : Nat → Int32 → Int32 → Int32 → Int32 → Mem → Option Mem) (k0 : Nat) (v1 : Int32) (v2 : Int32) (v3 : Int32) (v4 : Int32) (σ : Mem) : Option Mem :=
  K5 k0 v1 v2 v3 (v4 + 1) σ
def X4_writePages_b31 (K5 : Nat → Int32 → Int32 → Int32 → Int32 → Mem → Option Mem) (k0 : Nat) (v1 : Int32) (v2 : Int32) (v4 : Int32) (σ : Mem) : Option Mem :=
  ob (X4_addNumber k0 v4 σ) (fun σ1 =>
    if ((shr (σ1 k0 5) v4) &&& 1) = 1 then (
    ob (X4_add k0 63 σ1) (fun σ3 =>
      X4_writePages_b58 K5 k0 v1 v2 0 v4 σ3))
  else (
    X4_writePages_b58 K5 k0 v1 v2 0 v4 σ1))
def X4_writePages_b5 (K5 : Nat → Int32 → Int32 → Int32 → Int32 → Mem → Option Mem) (k0 : Nat) (v1 : Int32) (v2 : Int32) (v3 : Int32) (v4 : Int32) (σ : Mem) : Option Mem :=
  if v1 ≤ v4 then (
    some σ)
  else (
    if ((shr v2 v4) &&& 1) = 1 then (
      if v3 = 0 then (
        ob (X4_add k0 44 σ) (fun σ4 =>
          X4_writePages_b31 K5 k0 v1 v2 v4 σ4))
      else (
        X4_writePages_b31 K5 k0 v1 v2 v4 σ))
    else (
      X4_writePages_b58 K5 k0 v1 v2 v3 v4 σ))
def X4_writePages_l5 : Nat → Nat → Int32 → Int32 → Int32 → Int32 → Mem → Option Mem
  | 0 => fun _ _ _ _ _ _ => none
  | n + 1 => X4_writePages_b5 (X4_writePages_l5 n)
def X4_writePages_b0 (k0 : Nat) (v1 : Int32) (v2 : Int32) (σ : Mem) : Option Mem :=
  X4_writePages_l5 FU k0 v1 v2 1 0 σ
def X4_writePages (k0 : Nat) (v1 : Int32) (v2 : Int32) (σ : Mem) : Option Mem := X4_writePages_b0 k0 v1 v2 σ
def X4_write_b86 (K64 : Nat → Int32 → Mem → Option Mem) (k0 : Nat) (v2 : Int32) (σ : Mem) : Option Mem :=
  gdx v2 11 (
    ob (X4_addNumber k0 (σ ((k0 + 17) + 4) (nc v2)) σ) (fun σ2 =>
    K64 k0 (v2 + 1) σ2))
def X4_write_b64 (K64 : Nat → Int32 → Mem → Option Mem) (k0 : Nat) (v2 : Int32) (σ : Mem) : Option Mem :=
  if (σ (k0 + 17) 5) ≤ v2 then (
    some σ)
  else (
    if v2 ≤ 1 then (
      X4_write_b86 K64 k0 v2 σ)
    else (
      ob (X4_add k0 44 σ) (fun σ3 =>
        X4_write_b86 K64 k0 v2 σ3)))
def X4_write_l64 : Nat → Nat → Int32 → Mem → Option Mem
  | 0 => fun _ _ _ => none
  | n + 1 => X4_write_b64 (X4_write_l64 n)
def X4_write_b28 (K7 : Nat → Int32 → Int32 → Mem → Option Mem) (k0 : Nat) (v1 : Int32) (v2 : Int32) (σ : Mem) : Option Mem :=
  ob (X4_add k0 (65 + v2) σ) (fun σ1 =>
    gdx v2 10 (
    ob (X4_writePages k0 v1 (σ1 ((k0 + 1) + 15) (nc v2)) σ1) (fun σ3 =>
    K7 k0 v1 (v2 + 1) σ3)))
def X4_write_b7 (K7 : Nat → Int32 → Int32 → Mem → Option Mem) (k0 : Nat) (v1 : Int32) (v2 : Int32) (σ : Mem) : Option Mem :=
  if (σ (k0 + 1) 3) ≤ v2 then (
    ob (X4_add k0 47 σ) (fun σ2 =>
      X4_write_l64 FU k0 1 σ2))
  else (
    if v2 ≤ 0 then (
      X4_write_b28 K7 k0 v1 v2 σ)
    else (
      ob (X4_add k0 59 σ) (fun σ4 =>
        X4_write_b28 K7 k0 v1 v2 σ4)))
def X4_write_l7 : Nat → Nat → Int32 → Int32 → Mem → Option Mem
  | 0 => fun _ _ _ _ => none
  | n + 1 => X4_write_b7 (X4_write_l7 n)
def X4_write_b0 (k0 : Nat) (v1 : Int32) (σ : Mem) : Option Mem :=
  X4_write_l7 FU k0 v1 0 (wr σ k0 7 0)
def X4_write (k0 : Nat) (v1 : Int32) (σ : Mem) : Option Mem := X4_write_b0 k0 v1 σ
def X9_collect_b71 (K14 : Nat → Int32 → Int32 → Mem → Option Mem) (k0 : Nat) (v1 : Int32) (v2 : Int32) (σ : Mem) : Option Mem :=
  K14 k0 v1 (v2 + 1) σ
def X9_collect_b14 (K14 : Nat → Int32 → Int32 → Mem → Option Mem) (k0 : Nat) (v1 : Int32) (v2 : Int32) (σ : Mem) : Option Mem :=
  if v1 ≤ v2 then (
    some σ)
  else (
    gdx v2 10 (
      letv (wr σ (k0 + 5) (nc v2) (σ k0 5)) (fun σ3 =>
      gdx (σ3 k0 5) 11 (
      gdx (σ3 (k0 + 4) (nc (σ3 k0 5))) 10 (
      if (σ3 (k0 + 3) (nc (σ3 (k0 + 4) (nc (σ3 k0 5))))) = (v2 + 1) then (
      letv (wr σ3 k0 5 ((σ3 k0 5) + 1)) (fun σ7 =>
        gdx (σ7 k0 5) 11 (
        X9_collect_b71 K14 k0 v1 v2 (wr σ7 (k0 + 4) (nc (σ7 k0 5)) (v2 + 1)))))
    else (
      X9_collect_b71 K14 k0 v1 v2 σ3))))))
def X9_collect_l14 : Nat → Nat → Int32 → Int32 → Mem → Option Mem
  | 0 => fun _ _ _ _ => none
  | n + 1 => X9_collect_b14 (X9_collect_l14 n)
def X9_collect_b0 (k0 : Nat) (v1 : Int32) (σ : Mem) : Option Mem :=
  letv (wr σ k0 5 0) (fun σ1 =>
    X9_collect_l14 FU k0 v1 0 (wr σ1 (k0 + 4) (nc 0) 0))
def X9_collect (k0 : Nat) (v1 : Int32) (σ : Mem) : Option Mem := X9_collect_b0 k0 v1 σ
def X9_weigh_b155 (K6 : Nat → Nat → Int32 → Int32 → Int32 → Int32 → Mem → Option Mem) (k0 : Nat) (k1 : Nat) (v2 : Int32) (v3 : Int32) (v4 : Int32) (v5 : Int32) (σ : Mem) : Option Mem :=
  K6 k0 k1 v2 v3 v4 (v5 + 1) σ
def X9_weigh_b131 (K6 : Nat → Nat → Int32 → Int32 → Int32 → Int32 → Mem → Option Mem) (k0 : Nat) (k1 : Nat) (v2 : Int32) (v3 : Int32) (v4 : Int32) (v5 : Int32) (v6 : Int32) (v7 : Int32) (v8 : Int32) (σ : Mem) : Option Mem :=
  gdx v3 11 (
    letv (wr σ (k0 + 1) (nc v3) v7) (fun σ2 =>
    gdx v3 11 (
    letv (wr σ2 (k0 + 2) (nc v3) v8) (fun σ4 =>
    gdx v3 10 (
    X9_weigh_b155 K6 k0 k1 v2 v3 v4 v5 (wr σ4 (k0 + 3) (nc v3) v6))))))
def X9_weigh_b118 (K6 : Nat → Nat → Int32 → Int32 → Int32 → Int32 → Mem → Option Mem) (k0 : Nat) (k1 : Nat) (v2 : Int32) (v3 : Int32) (v4 : Int32) (v5 : Int32) (v6 : Int32) (v7 : Int32) (v8 : Int32) (s0 : Int32) (σ : Mem) : Option Mem :=
  if v5 = v3 then (
    X9_weigh_b131 K6 k0 k1 v2 v3 v4 v5 v6 v7 v8 σ)
  else (
    if s0 = 0 then (
      X9_weigh_b155 K6 k0 k1 v2 v3 v4 v5 σ)
    else (
      X9_weigh_b131 K6 k0 k1 v2 v3 v4 v5 v6 v7 v8 σ))
def X9_weigh_b113 (K6 : Nat → Nat → Int32 → Int32 → Int32 → Int32 → Mem → Option Mem) (k0 : Nat) (k1 : Nat) (v2 : Int32) (v3 : Int32) (v4 : Int32) (v5 : Int32) (v6 : Int32) (v7 : Int32) (v8 : Int32) (σ : Mem) : Option Mem :=
  X9_weigh_b118 K6 k0 k1 v2 v3 v4 v5 v6 v7 v8 1 σ
def X9_weigh_b117 (K6 : Nat → Nat → Int32 → Int32 → Int32 → Int32 → Mem → Option Mem) (k0 : Nat) (k1 : Nat) (v2 : Int32) (v3 : Int32) (v4 : Int32) (v5 : Int32) (v6 : Int32) (v7 : Int32) (v8 : Int32) (σ : Mem) : Option Mem :=
  X9_weigh_b118 K6 k0 k1 v2 v3 v4 v5 v6 v7 v8 0 σ
def X9_weigh_b66 (K6 : Nat → Nat → Int32 → Int32 → Int32 → Int32 → Mem → Option Mem) (k0 : Nat) (k1 : Nat) (v2 : Int32) (v3 : Int32) (v4 : Int32) (v5 : Int32) (v6 : Int32) (s0 : Int32) (s1 : Int32) (σ : Mem) : Option Mem :=
  letv (s0 + s1) (fun x1 =>
    gdx v6 11 (
    letv ((σ (k0 + 2) (nc v6)) + 1) (fun x3 =>
    gdx v3 11 (
    if x1 < (σ (k0 + 1) (nc v3)) then (
    X9_weigh_b113 K6 k0 k1 v2 v3 v4 v5 v6 x1 x3 σ)
  else (
    gdx v3 11 (
      if x1 = (σ (k0 + 1) (nc v3)) then (
      gdx v3 11 (
        if (σ (k0 + 2) (nc v3)) ≤ x3 then (
        X9_weigh_b117 K6 k0 k1 v2 v3 v4 v5 v6 x1 x3 σ)
      else (
        X9_weigh_b113 K6 k0 k1 v2 v3 v4 v5 v6 x1 x3 σ)))
    else (
      X9_weigh_b117 K6 k0 k1 v2 v3 v4 v5 v6 x1 x3 σ)))))))
def X9_weigh_b6 (K6 : Nat → Nat → Int32 → Int32 → Int32 → Int32 → Mem → Option Mem) (k0 : Nat) (k1 : Nat) (v2 : Int32) (v3 : Int32) (v4 : Int32) (v5 : Int32) (σ : Mem) : Option Mem :=
  if (σ k1 0) ≤ v5 then (
    some σ)
  else (
    letv (v5 + 1) (fun x2 =>
      ob (X5_furthest k1 v5 ((shl 1 x2) - (shl 1 v3)) σ) (fun r3 =>
      letv (mx v4 r3) (fun x4 =>
      gdx x2 11 (
      if (σ k1 0) ≤ x2 then (
      X9_weigh_b66 K6 k0 k1 v2 v3 x4 v5 x2 (x4 + (σ (k0 + 1) (nc x2))) 0 σ)
    else (
      X9_weigh_b66 K6 k0 k1 v2 v3 x4 v5 x2 (x4 + (σ (k0 + 1) (nc x2))) v2 σ))))))
def X9_weigh_l6 : Nat → Nat → Nat → Int32 → Int32 → Int32 → Int32 → Mem → Option Mem
  | 0 => fun _ _ _ _ _ _ _ => none
  | n + 1 => X9_weigh_b6 (X9_weigh_l6 n)
def X9_weigh_b0 (k0 : Nat) (k1 : Nat) (v2 : Int32) (v3 : Int32) (σ : Mem) : Option Mem :=
  X9_weigh_l6 FU k0 k1 v2 v3 0 v3 σ
def X9_weigh (k0 : Nat) (k1 : Nat) (v2 : Int32) (v3 : Int32) (σ : Mem) : Option Mem := X9_weigh_b0 k0 k1 v2 v3 σ
def X9_find_b27 (K27 : Nat → Nat → Int32 → Int32 → Mem → Option Mem) (k0 : Nat) (k1 : Nat) (v2 : Int32) (v3 : Int32) (σ : Mem) : Option Mem :=
  if v3 < 0 then (
    ob (X9_collect k0 (σ k1 0) σ) (fun σ2 =>
      some σ2))
  else (
    ob (X9_weigh k0 k1 v2 v3 σ) (fun σ3 =>
      K27 k0 k1 v2 (v3 + (-1)) σ3))
def X9_find_l27 : Nat → Nat → Nat → Int32 → Int32 → Mem → Option Mem
  | 0 => fun _ _ _ _ _ => none
  | n + 1 => X9_find_b27 (X9_find_l27 n)
def X9_find_b0 (k0 : Nat) (k1 : Nat) (v2 : Int32) (σ : Mem) : Option Mem :=
  gdx (σ k1 0) 11 (
    letv (wr σ (k0 + 1) (nc (σ k1 0)) 0) (fun σ2 =>
    gdx (σ2 k1 0) 11 (
    letv (wr σ2 (k0 + 2) (nc (σ2 k1 0)) 0) (fun σ4 =>
    letv ((σ4 k1 0) - 1) (fun x5 =>
    X9_find_l27 FU k0 k1 v2 x5 σ4)))))
def X9_find (k0 : Nat) (k1 : Nat) (v2 : Int32) (σ : Mem) : Option Mem := X9_find_b0 k0 k1 v2 σ
def X4_lookAt_b0 (k0 : Nat) (k1 : Nat) (σ : Mem) : Option Mem :=
  ob (X5_survey ((k0 + 1) + 1) k1 σ) (fun σ1 =>
    ob (X6_findFor (k0 + 1) (σ1 k1 1) σ1) (fun σ2 =>
    ob (X9_find (k0 + 17) ((k0 + 1) + 1) (σ2 k1 2) σ2) (fun σ3 =>
    ob (X4_join k0 (σ3 k1 0) (σ3 k1 1) σ3) (fun σ4 =>
    ob (X4_doubt k0 (σ4 k1 0) σ4) (fun σ5 =>
    ob (X4_write k0 (σ5 k1 0) σ5) (fun σ6 =>
    some σ6))))))
def X4_lookAt (k0 : Nat) (k1 : Nat) (σ : Mem) : Option Mem := X4_lookAt_b0 k0 k1 σ
def X5_middle_b54 (K8 : Nat → Int32 → Int32 → Int32 → Int32 → Mem → Option Int32) (k0 : Nat) (v1 : Int32) (v2 : Int32) (v3 : Int32) (v4 : Int32) (σ : Mem) : Option Int32 :=
  K8 k0 v1 v2 v3 (v4 + 1) σ
def X5_middle_b48 (K8 : Nat → Int32 → Int32 → Int32 → Int32 → Mem → Option Int32) (k0 : Nat) (v1 : Int32) (v4 : Int32) (v5 : Int32) (σ : Mem) : Option Int32 :=
  X5_middle_b54 K8 k0 v1 v4 v5 v4 σ
def X5_middle_b8 (K8 : Nat → Int32 → Int32 → Int32 → Int32 → Mem → Option Int32) (k0 : Nat) (v1 : Int32) (v2 : Int32) (v3 : Int32) (v4 : Int32) (σ : Mem) : Option Int32 :=
  if (σ k0 0) ≤ v4 then (
    some v2)
  else (
    if ((shr v1 v4) &&& 1) = 1 then (
      ob (X5_furthest k0 v4 v1 σ) (fun r3 =>
        if v2 = (-1000000) then (
        X5_middle_b48 K8 k0 v1 v4 r3 σ)
      else (
        if v3 ≤ r3 then (
          X5_middle_b54 K8 k0 v1 v2 v3 v4 σ)
        else (
          X5_middle_b48 K8 k0 v1 v4 r3 σ))))
    else (
      X5_middle_b54 K8 k0 v1 v2 v3 v4 σ))
def X5_middle_l8 : Nat → Nat → Int32 → Int32 → Int32 → Int32 → Mem → Option Int32
  | 0 => fun _ _ _ _ _ _ => none
  | n + 1 => X5_middle_b8 (X5_middle_l8 n)
def X5_middle_b0 (k0 : Nat) (v1 : Int32) (σ : Mem) : Option Int32 :=
  X5_middle_l8 FU k0 v1 (-1000000) 0 0 σ
def X5_middle (k0 : Nat) (v1 : Int32) (σ : Mem) : Option Int32 := X5_middle_b0 k0 v1 σ
def X10_at_b0 (k0 : Nat) (v1 : Int32) (σ : Mem) : Option Int32 :=
  if v1 < 0 then (
    some (-1))
  else (
    if (σ k0 1) ≤ v1 then (
      some (-1))
    else (
      gdx v1 130 (
        some (σ (k0 + 1) (nc v1)))))
def X10_at (k0 : Nat) (v1 : Int32) (σ : Mem) : Option Int32 := X10_at_b0 k0 v1 σ
def X10_figuresAt_b4 (K4 : Nat → Int32 → Int32 → Mem → Option Int32) (k0 : Nat) (v2 : Int32) (v3 : Int32) (σ : Mem) : Option Int32 :=
  if (σ k0 1) ≤ v3 then (
    some v2)
  else (
    ob (X10_at k0 v3 σ) (fun r2 =>
      if r2 < 48 then (
      some v2)
    else (
      ob (X10_at k0 v3 σ) (fun r4 =>
        if 57 < r4 then (
        some v2)
      else (
        K4 k0 (v2 + 1) (v3 + 1) σ)))))
def X10_figuresAt_l4 : Nat → Nat → Int32 → Int32 → Mem → Option Int32
  | 0 => fun _ _ _ _ => none
  | n + 1 => X10_figuresAt_b4 (X10_figuresAt_l4 n)
def X10_figuresAt_b0 (k0 : Nat) (v1 : Int32) (σ : Mem) : Option Int32 :=
  X10_figuresAt_l4 FU k0 0 v1 σ
def X10_figuresAt (k0 : Nat) (v1 : Int32) (σ : Mem) : Option Int32 := X10_figuresAt_b0 k0 v1 σ
def X7_fails_b0 (k0 : Nat) (v1 : Int32) (σ : Mem) : Option (Int32 × Mem) :=
  some (0, wr σ k0 2 v1)
def X7_fails (k0 : Nat) (v1 : Int32) (σ : Mem) : Option (Int32 × Mem) := X7_fails_b0 k0 v1 σ
def X7_readNumber_b19 (k0 : Nat) (σ : Mem) : Option (Int32 × Mem) :=
  ob2 (X7_fails k0 1 σ) (fun r1 σ2 =>
    some ((-1000000), σ2))
def X7_readNumber_b67 (k0 : Nat) (v2 : Int32) (v3 : Int32) (v4 : Int32) (σ : Mem) : Option (Int32 × Mem) :=
  if v4 ≤ v2 then (
    some (v4, wr σ k0 1 ((σ k0 1) + v3)))
  else (
    ob2 (X7_fails k0 2 σ) (fun r2 σ3 =>
      some ((-1000000), σ3)))
def X7_readNumber_b0 (k0 : Nat) (k1 : Nat) (v2 : Int32) (σ : Mem) : Option (Int32 × Mem) :=
  ob (X10_figuresAt k1 (σ k0 1) σ) (fun r1 =>
    if r1 < 1 then (
    X7_readNumber_b19 k0 σ)
  else (
    if r1 ≤ 2 then (
      ob (X10_at k1 (σ k0 1) σ) (fun r4 =>
        letv (r4 - 48) (fun x5 =>
        if r1 = 2 then (
        ob (X10_at k1 ((σ k0 1) + 1) σ) (fun r7 =>
          letv (((10 * x5) + r7) - 48) (fun x8 =>
          X7_readNumber_b67 k0 v2 r1 x8 σ)))
      else (
        X7_readNumber_b67 k0 v2 r1 x5 σ))))
    else (
      X7_readNumber_b19 k0 σ)))
def X7_readNumber (k0 : Nat) (k1 : Nat) (v2 : Int32) (σ : Mem) : Option (Int32 × Mem) := X7_readNumber_b0 k0 k1 v2 σ
def X7_readsByte_b0 (k0 : Nat) (k1 : Nat) (v2 : Int32) (σ : Mem) : Option (Int32 × Mem) :=
  ob (X10_at k1 (σ k0 1) σ) (fun r1 =>
    if r1 = v2 then (
    some (1, wr σ k0 1 ((σ k0 1) + 1)))
  else (
    ob2 (X7_fails k0 1 σ) (fun r3 σ4 =>
      gdb r3 (
      some (r3, σ4)))))
def X7_readsByte (k0 : Nat) (k1 : Nat) (v2 : Int32) (σ : Mem) : Option (Int32 × Mem) := X7_readsByte_b0 k0 k1 v2 σ
def X7_readsLaw_b0 (k0 : Nat) (k1 : Nat) (σ : Mem) : Option (Int32 × Mem) :=
  ob2 (X7_readsByte k0 k1 104 σ) (fun r1 σ2 =>
    if r1 = 0 then (
    some (0, σ2))
  else (
    ob2 (X7_readNumber k0 k1 60 σ2) (fun r4 σ5 =>
      letv (wr σ5 (k0 + 1) 1 r4) (fun σ6 =>
      if (σ6 (k0 + 1) 1) < 0 then (
      some (0, σ6))
    else (
      ob2 (X7_readsByte k0 k1 44 σ6) (fun r8 σ9 =>
        if r8 = 0 then (
        some (0, σ9))
      else (
        ob2 (X7_readNumber k0 k1 20 σ9) (fun r11 σ12 =>
          letv (wr σ12 (k0 + 1) 2 r11) (fun σ13 =>
          if (σ13 (k0 + 1) 2) < 0 then (
          some (0, σ13))
        else (
          ob2 (X7_readsByte k0 k1 59 σ13) (fun r15 σ16 =>
            if r15 = 0 then (
            some (0, σ16))
          else (
            some (1, σ16)))))))))))))
def X7_readsLaw (k0 : Nat) (k1 : Nat) (σ : Mem) : Option (Int32 × Mem) := X7_readsLaw_b0 k0 k1 σ
def X7_kindOfLetter_b0 (v0 : Int32) : Int32 :=
  if v0 = 99 then (
    4)
  else (
    if v0 = 102 then (
      2)
    else (
      if v0 = 103 then (
        5)
      else (
        if v0 = 112 then (
          1)
        else (
          if v0 = 114 then (
            3)
          else (
            (-1000000))))))
def X7_kindOfLetter (v0 : Int32) : Int32 := X7_kindOfLetter_b0 v0
def X7_readsPage_b0 (k0 : Nat) (k1 : Nat) (σ : Mem) : Option (Int32 × Mem) :=
  ob (X10_at k1 (σ k0 1) σ) (fun r1 =>
    letv (X7_kindOfLetter r1) (fun x2 =>
    if x2 = (-1000000) then (
    ob2 (X7_fails k0 1 σ) (fun r27 σ28 =>
      gdb r27 (
      some (r27, σ28))))
  else (
    if (σ (k0 + 1) 0) < 10 then (
      ob2 (X7_readNumber k0 k1 30 (wr σ k0 1 ((σ k0 1) + 1))) (fun r5 σ6 =>
        if r5 < 0 then (
        some (0, σ6))
      else (
        ob2 (X7_readsByte k0 k1 44 σ6) (fun r8 σ9 =>
          if r8 = 0 then (
          some (0, σ9))
        else (
          ob2 (X7_readNumber k0 k1 30 σ9) (fun r11 σ12 =>
            if r11 < 0 then (
            some (0, σ12))
          else (
            ob2 (X7_readsByte k0 k1 44 σ12) (fun r14 σ15 =>
              if r14 = 0 then (
              some (0, σ15))
            else (
              ob2 (X7_readNumber k0 k1 30 σ15) (fun r17 σ18 =>
                if r17 < 0 then (
                some (0, σ18))
              else (
                ob2 (X7_readsByte k0 k1 59 σ18) (fun r20 σ21 =>
                  if r20 = 0 then (
                  some (0, σ21))
                else (
                  ob (X2_insert (k0 + 1) (σ21 (k0 + 1) 0) x2 r5 r11 r17 σ21) (fun σ23 =>
                    some (1, σ23)))))))))))))))
    else (
      ob2 (X7_fails k0 3 σ) (fun r24 σ25 =>
        gdb r24 (
        some (r24, σ25)))))))
def X7_readsPage (k0 : Nat) (k1 : Nat) (σ : Mem) : Option (Int32 × Mem) := X7_readsPage_b0 k0 k1 σ
def X7_reads_b48 (K25 : Nat → Nat → Int32 → Mem → Option (Int32 × Mem)) (k0 : Nat) (k1 : Nat) (v2 : Int32) (σ : Mem) : Option (Int32 × Mem) :=
  ob2 (X7_readsPage k0 k1 σ) (fun r1 σ2 =>
    if r1 = 0 then (
    some (0, σ2))
  else (
    K25 k0 k1 (v2 + 1) σ2))
def X7_reads_b25 (K25 : Nat → Nat → Int32 → Mem → Option (Int32 × Mem)) (k0 : Nat) (k1 : Nat) (v2 : Int32) (σ : Mem) : Option (Int32 × Mem) :=
  if 10 < v2 then (
    some (0, σ))
  else (
    if v2 ≤ 0 then (
      X7_reads_b48 K25 k0 k1 v2 σ)
    else (
      if (σ k0 1) = (σ k1 1) then (
        some (1, σ))
      else (
        X7_reads_b48 K25 k0 k1 v2 σ)))
def X7_reads_l25 : Nat → Nat → Nat → Int32 → Mem → Option (Int32 × Mem)
  | 0 => fun _ _ _ _ => none
  | n + 1 => X7_reads_b25 (X7_reads_l25 n)
def X7_reads_b0 (k0 : Nat) (k1 : Nat) (σ : Mem) : Option (Int32 × Mem) :=
  letv (wr σ k0 1 0) (fun σ1 =>
    ob2 (X7_readsLaw k0 k1 (wr σ1 (k0 + 1) 0 0)) (fun r2 σ3 =>
    if r2 = 0 then (
    some (0, σ3))
  else (
    X7_reads_l25 FU k0 k1 0 σ3)))
def X7_reads (k0 : Nat) (k1 : Nat) (σ : Mem) : Option (Int32 × Mem) := X7_reads_b0 k0 k1 σ
def X8_isMissing_b0 (k0 : Nat) (v1 : Int32) (σ : Mem) : Option Int32 :=
  gdx v1 8 (
    if (σ (k0 + 11) (nc v1)) = (-1) then (
    some 1)
  else (
    some 0))
def X8_isMissing (k0 : Nat) (v1 : Int32) (σ : Mem) : Option Int32 := X8_isMissing_b0 k0 v1 σ
def X8_holds_b0 (k0 : Nat) (v1 : Int32) (v2 : Int32) (v3 : Int32) (σ : Mem) : Option Int32 :=
  if v2 < 0 then (
    some 0)
  else (
    if v3 < 0 then (
      some 0)
    else (
      gdx v1 8 (
        if (σ (k0 + 11) (nc v1)) < v3 then (
        some 0)
      else (
        gdx v1 8 (
          if ((σ (k0 + 11) (nc v1)) - v3) < v2 then (
          some 0)
        else (
          some 1))))))
def X8_holds (k0 : Nat) (v1 : Int32) (v2 : Int32) (v3 : Int32) (σ : Mem) : Option Int32 := X8_holds_b0 k0 v1 v2 v3 σ
def X8_lay_b0 (k0 : Nat) (v1 : Int32) (v2 : Int32) (v3 : Int32) (σ : Mem) : Option Mem :=
  gdx v1 8 (
    ob (J7_fill_53178 40 ((k0 + 1) + 1 + nc v1) 0 σ) (fun σ2 =>
    gdx v1 8 (
    letv (wr σ2 (k0 + 10) (nc v1) v2) (fun σ4 =>
    gdx v1 8 (
    some (wr σ4 (k0 + 11) (nc v1) v3))))))
def X8_lay (k0 : Nat) (v1 : Int32) (v2 : Int32) (v3 : Int32) (σ : Mem) : Option Mem := X8_lay_b0 k0 v1 v2 v3 σ
def X8_lose_b0 (k0 : Nat) (v1 : Int32) (σ : Mem) : Option (Int32 × Mem) :=
  gdx v1 8 (
    letv (σ (k0 + 11) (nc v1)) (fun x2 =>
    gdx v1 8 (
    some (x2, wr σ (k0 + 11) (nc v1) (-1)))))
def X8_lose (k0 : Nat) (v1 : Int32) (σ : Mem) : Option (Int32 × Mem) := X8_lose_b0 k0 v1 σ
def X8_write_b33 (k0 : Nat) (v1 : Int32) (v2 : Int32) (v4 : Int32) (σ : Mem) : Option (Int32 × Mem) :=
  gdx v1 8 (
    gdx v2 40 (
    some (v4, wr σ ((k0 + 1) + 1 + nc v1) (nc v2) v4)))
def X8_write_b0 (k0 : Nat) (v1 : Int32) (v2 : Int32) (v3 : Int32) (σ : Mem) : Option (Int32 × Mem) :=
  gdx v1 8 (
    if (σ (k0 + 10) (nc v1)) = 0 then (
    letv (i2b v3) (fun x6 =>
      X8_write_b33 k0 v1 v2 x6 σ))
  else (
    gdx v1 8 (
      if (σ (k0 + 10) (nc v1)) = 1 then (
      letv (i2s v3) (fun x5 =>
        X8_write_b33 k0 v1 v2 x5 σ))
    else (
      X8_write_b33 k0 v1 v2 v3 σ))))
def X8_write (k0 : Nat) (v1 : Int32) (v2 : Int32) (v3 : Int32) (σ : Mem) : Option (Int32 × Mem) := X8_write_b0 k0 v1 v2 v3 σ
def X8_laid_b23 (K4 : Nat → Int32 → Int32 → Mem → Option Int32) (k0 : Nat) (v1 : Int32) (v2 : Int32) (σ : Mem) : Option Int32 :=
  K4 k0 v1 (v2 + 1) σ
def X8_laid_b4 (K4 : Nat → Int32 → Int32 → Mem → Option Int32) (k0 : Nat) (v1 : Int32) (v2 : Int32) (σ : Mem) : Option Int32 :=
  if 8 ≤ v2 then (
    some v1)
  else (
    gdx v2 8 (
      if (σ (k0 + 11) (nc v2)) = (-1) then (
      X8_laid_b23 K4 k0 v1 v2 σ)
    else (
      X8_laid_b23 K4 k0 (v1 + 1) v2 σ)))
def X8_laid_l4 : Nat → Nat → Int32 → Int32 → Mem → Option Int32
  | 0 => fun _ _ _ _ => none
  | n + 1 => X8_laid_b4 (X8_laid_l4 n)
def X8_laid_b0 (k0 : Nat) (σ : Mem) : Option Int32 :=
  X8_laid_l4 FU k0 0 0 σ
def X8_laid (k0 : Nat) (σ : Mem) : Option Int32 := X8_laid_b0 k0 σ
def X10_add_b0 (k0 : Nat) (v1 : Int32) (σ : Mem) : Option (Int32 × Mem) :=
  if 130 ≤ (σ k0 1) then (
    some (σ k0 1, σ))
  else (
    gdx (σ k0 1) 130 (
      letv (wr σ (k0 + 1) (nc (σ k0 1)) v1) (fun σ3 =>
      letv (wr σ3 k0 1 ((σ3 k0 1) + 1)) (fun σ4 =>
      some (σ4 k0 1, σ4)))))
def X10_add (k0 : Nat) (v1 : Int32) (σ : Mem) : Option (Int32 × Mem) := X10_add_b0 k0 v1 σ
def X10_spells_b15 (K15 : Nat → Nat → Int32 → Mem → Option Int32) (k0 : Nat) (k1 : Nat) (v2 : Int32) (σ : Mem) : Option Int32 :=
  if (σ k0 1) ≤ v2 then (
    some 1)
  else (
    gdx v2 130 (
      gdx v2 (stLN k1) (
      if (σ (k0 + 1) (nc v2)) = (stCh k1 (nc v2)) then (
      K15 k0 k1 (v2 + 1) σ)
    else (
      some 0))))
def X10_spells_l15 : Nat → Nat → Nat → Int32 → Mem → Option Int32
  | 0 => fun _ _ _ _ => none
  | n + 1 => X10_spells_b15 (X10_spells_l15 n)
def X10_spells_b0 (k0 : Nat) (k1 : Nat) (σ : Mem) : Option Int32 :=
  if (stLn k1) = (σ k0 1) then (
    X10_spells_l15 FU k0 k1 0 σ)
  else (
    some 0)
def X10_spells (k0 : Nat) (k1 : Nat) (σ : Mem) : Option Int32 := X10_spells_b0 k0 k1 σ
def X10_asks_b0 (k0 : Nat) (σ : Mem) : Option Int32 :=
  ob (X10_spells k0 0 σ) (fun r1 =>
    if r1 = 0 then (
    ob (X10_spells k0 1 σ) (fun r3 =>
      if r3 = 0 then (
      ob (X10_spells k0 2 σ) (fun r5 =>
        if r5 = 0 then (
        ob (X10_spells k0 3 σ) (fun r7 =>
          if r7 = 0 then (
          ob (X10_spells k0 4 σ) (fun r9 =>
            if r9 = 0 then (
            ob (X10_spells k0 5 σ) (fun r11 =>
              if r11 = 0 then (
              ob (X10_spells k0 6 σ) (fun r13 =>
                if r13 = 0 then (
                ob (X10_spells k0 7 σ) (fun r15 =>
                  if r15 = 0 then (
                  ob (X10_spells k0 8 σ) (fun r17 =>
                    if r17 = 0 then (
                    some (-1000000))
                  else (
                    some 9)))
                else (
                  some 7)))
              else (
                some 6)))
            else (
              some 5)))
          else (
            some 4)))
        else (
          some 3)))
      else (
        some 2)))
    else (
      some 1)))
  else (
    some 0))
def X10_asks (k0 : Nat) (σ : Mem) : Option Int32 := X10_asks_b0 k0 σ
def X11_finds_b0 (k0 : Nat) (v1 : Int32) (σ : Mem) : Option (Int32 × Mem) :=
  some ((-1000010) - v1, wr σ k0 11 v1)
def X11_finds (k0 : Nat) (v1 : Int32) (σ : Mem) : Option (Int32 × Mem) := X11_finds_b0 k0 v1 σ
def X11_isRow_b0 (v0 : Int32) : Int32 :=
  if v0 < 0 then (
    0)
  else (
    if 8 ≤ v0 then (
      0)
    else (
      1))
def X11_isRow (v0 : Int32) : Int32 := X11_isRow_b0 v0
def X11_row_b0 (k0 : Nat) (v1 : Int32) (v2 : Int32) (v3 : Int32) (σ : Mem) : Option (Int32 × Mem) :=
  if (X11_isRow v1) = 0 then (
    some ((-1000001), σ))
  else (
    if v2 < 0 then (
      some ((-1000001), σ))
    else (
      if 2 < v2 then (
        some ((-1000001), σ))
      else (
        if v3 ≤ 40 then (
          if 0 ≤ v3 then (
            ob (X8_lay (k0 + 1) v1 v2 v3 (wr σ k0 11 0)) (fun σ6 =>
              some (v3, σ6)))
          else (
            ob2 (X11_finds k0 4 σ) (fun r7 σ8 =>
              some (r7, σ8))))
        else (
          some ((-1000001), σ)))))
def X11_row (k0 : Nat) (v1 : Int32) (v2 : Int32) (v3 : Int32) (σ : Mem) : Option (Int32 × Mem) := X11_row_b0 k0 v1 v2 v3 σ
def X11_set_b0 (k0 : Nat) (v1 : Int32) (v2 : Int32) (v3 : Int32) (σ : Mem) : Option (Int32 × Mem) :=
  if (X11_isRow v1) = 0 then (
    some ((-1000001), σ))
  else (
    ob (X8_isMissing (k0 + 1) v1 σ) (fun r2 =>
      if r2 = 0 then (
      ob (X8_holds (k0 + 1) v1 v2 1 σ) (fun r4 =>
        if r4 = 0 then (
        ob2 (X11_finds k0 2 σ) (fun r8 σ9 =>
          some (r8, σ9)))
      else (
        ob2 (X8_write (k0 + 1) v1 v2 v3 (wr σ k0 11 0)) (fun r6 σ7 =>
          some (r6, σ7)))))
    else (
      ob2 (X11_finds k0 1 σ) (fun r10 σ11 =>
        some (r10, σ11)))))
def X11_set (k0 : Nat) (v1 : Int32) (v2 : Int32) (v3 : Int32) (σ : Mem) : Option (Int32 × Mem) := X11_set_b0 k0 v1 v2 v3 σ
def X11_copy_b39 (k0 : Nat) (σ : Mem) : Option (Int32 × Mem) :=
  ob2 (X11_finds k0 1 σ) (fun r1 σ2 =>
    some (r1, σ2))
def X11_copy_b101 (k0 : Nat) (σ : Mem) : Option (Int32 × Mem) :=
  ob2 (X11_finds k0 2 σ) (fun r1 σ2 =>
    some (r1, σ2))
def X11_copy_b0 (k0 : Nat) (v1 : Int32) (v2 : Int32) (v3 : Int32) (v4 : Int32) (v5 : Int32) (σ : Mem) : Option (Int32 × Mem) :=
  if (X11_isRow v1) = 0 then (
    some ((-1000001), σ))
  else (
    if (X11_isRow v3) = 0 then (
      some ((-1000001), σ))
    else (
      ob (X8_isMissing (k0 + 1) v1 σ) (fun r3 =>
        if r3 = 0 then (
        ob (X8_isMissing (k0 + 1) v3 σ) (fun r5 =>
          if r5 = 0 then (
          gdx v1 8 (
            gdx v3 8 (
            if (σ ((k0 + 1) + 10) (nc v1)) = (σ ((k0 + 1) + 10) (nc v3)) then (
            ob (X8_holds (k0 + 1) v1 v2 v5 σ) (fun r10 =>
              if r10 = 0 then (
              X11_copy_b101 k0 σ)
            else (
              ob (X8_holds (k0 + 1) v3 v4 v5 σ) (fun r12 =>
                if r12 = 0 then (
                X11_copy_b101 k0 σ)
              else (
                gdx v1 8 (
                  gdx v3 8 (
                  letv (wr σ k0 11 0) (fun σ16 =>
                  gdc v2 v4 v5 40 40 (
                  some (v5, wrF σ16 (((k0 + 1) + 1) + 1 + nc v3) (va_cpy (σ16 (((k0 + 1) + 1) + 1 + nc v1)) (σ16 (((k0 + 1) + 1) + 1 + nc v3)) (nc v2) (nc v4) (nc v5))))))))))))
          else (
            ob2 (X11_finds k0 5 σ) (fun r18 σ19 =>
              some (r18, σ19))))))
        else (
          X11_copy_b39 k0 σ)))
      else (
        X11_copy_b39 k0 σ))))
def X11_copy (k0 : Nat) (v1 : Int32) (v2 : Int32) (v3 : Int32) (v4 : Int32) (v5 : Int32) (σ : Mem) : Option (Int32 × Mem) := X11_copy_b0 k0 v1 v2 v3 v4 v5 σ
def X11_drop_b0 (k0 : Nat) (v1 : Int32) (σ : Mem) : Option (Int32 × Mem) :=
  if (X11_isRow v1) = 0 then (
    some ((-1000001), σ))
  else (
    ob (X8_isMissing (k0 + 1) v1 σ) (fun r2 =>
      if r2 = 0 then (
      ob2 (X8_lose (k0 + 1) v1 (wr σ k0 11 0)) (fun r4 σ5 =>
        some (r4, σ5)))
    else (
      ob2 (X11_finds k0 1 σ) (fun r6 σ7 =>
        some (r6, σ7)))))
def X11_drop (k0 : Nat) (v1 : Int32) (σ : Mem) : Option (Int32 × Mem) := X11_drop_b0 k0 v1 σ
def X11_feed_b0 (k0 : Nat) (v1 : Int32) (σ : Mem) : Option (Int32 × Mem) :=
  if v1 < 0 then (
    some ((-1000001), σ))
  else (
    if v1 ≤ 255 then (
      if (σ (k0 + 13) 1) < 130 then (
        ob2 (X10_add (k0 + 13) v1 σ) (fun r4 σ5 =>
          some (r4, σ5)))
      else (
        some ((-1000003), σ)))
    else (
      some ((-1000001), σ)))
def X11_feed (k0 : Nat) (v1 : Int32) (σ : Mem) : Option (Int32 × Mem) := X11_feed_b0 k0 v1 σ
def X11_begin_b0 (k0 : Nat) (k1 : Nat) (σ : Mem) : Option Mem :=
  ob (X2_becomeLike (k0 + 22) k1 σ) (fun σ1 =>
    ob (X0_forgetAll (k0 + 28) σ1) (fun σ2 =>
    some (wr σ2 k0 9 0)))
def X11_begin (k0 : Nat) (k1 : Nat) (σ : Mem) : Option Mem := X11_begin_b0 k0 k1 σ
def X11_book_b0 (k0 : Nat) (σ : Mem) : Option (Int32 × Mem) :=
  ob2 (X7_reads (k0 + 15) (k0 + 13) σ) (fun r1 σ2 =>
    if r1 = 0 then (
    letv (wr σ2 (k0 + 13) 1 0) (fun σ5 =>
      letv (wr σ5 k0 10 (σ5 (k0 + 15) 2)) (fun σ6 =>
      some ((-1000100) - (σ6 (k0 + 15) 1), σ6))))
  else (
    ob (X11_begin k0 ((k0 + 15) + 1) (wr σ2 (k0 + 13) 1 0)) (fun σ4 =>
      some (σ4 (k0 + 22) 0, σ4))))
def X11_book (k0 : Nat) (σ : Mem) : Option (Int32 × Mem) := X11_book_b0 k0 σ
def X11_fault_b0 (k0 : Nat) (σ : Mem) : Int32 :=
  σ k0 10
def X11_fault (k0 : Nat) (σ : Mem) : Int32 := X11_fault_b0 k0 σ
def X11_undo_b0 (k0 : Nat) (σ : Mem) : Option (Int32 × Mem) :=
  if (σ (k0 + 28) 2) = 0 then (
    some ((-1000002), σ))
  else (
    ob (X0_goBack (k0 + 28) (k0 + 22) σ) (fun σ2 =>
      letv (wr σ2 k0 9 0) (fun σ3 =>
      some (σ3 (k0 + 28) 2, σ3))))
def X11_undo (k0 : Nat) (σ : Mem) : Option (Int32 × Mem) := X11_undo_b0 k0 σ
def X11_beginAct_b0 (k0 : Nat) (σ : Mem) : Option Mem :=
  ob (X0_keep (k0 + 28) (k0 + 22) σ) (fun σ1 =>
    some (wr σ1 k0 9 0))
def X11_beginAct (k0 : Nat) (σ : Mem) : Option Mem := X11_beginAct_b0 k0 σ
def X11_isKindOfPage_b0 (v0 : Int32) : Int32 :=
  if v0 < 1 then (
    0)
  else (
    if 5 < v0 then (
      0)
    else (
      1))
def X11_isKindOfPage (v0 : Int32) : Int32 := X11_isKindOfPage_b0 v0
def X11_isMeasure_b0 (v0 : Int32) : Int32 :=
  if v0 < 0 then (
    0)
  else (
    if 30 < v0 then (
      0)
    else (
      1))
def X11_isMeasure (v0 : Int32) : Int32 := X11_isMeasure_b0 v0
def X11_isWithoutBook_b0 (k0 : Nat) (σ : Mem) : Int32 :=
  if (σ (k0 + 22) 0) = 0 then (
    1)
  else (
    0)
def X11_isWithoutBook (k0 : Nat) (σ : Mem) : Int32 := X11_isWithoutBook_b0 k0 σ
def X11_put_b0 (k0 : Nat) (v1 : Int32) (v2 : Int32) (v3 : Int32) (v4 : Int32) (v5 : Int32) (σ : Mem) : Option (Int32 × Mem) :=
  if (X11_isWithoutBook k0 σ) = 0 then (
    if v1 < 0 then (
      some ((-1000001), σ))
    else (
      if (σ (k0 + 22) 0) < v1 then (
        some ((-1000001), σ))
      else (
        if (X11_isKindOfPage v2) = 0 then (
          some ((-1000001), σ))
        else (
          if (X11_isMeasure v3) = 0 then (
            some ((-1000001), σ))
          else (
            if (X11_isMeasure v4) = 0 then (
              some ((-1000001), σ))
            else (
              if (X11_isMeasure v5) = 0 then (
                some ((-1000001), σ))
              else (
                if (σ (k0 + 22) 0) < 10 then (
                  ob (X11_beginAct k0 σ) (fun σ9 =>
                    ob (X2_insert (k0 + 22) v1 v2 v3 v4 v5 σ9) (fun σ10 =>
                    some (σ10 (k0 + 22) 0, σ10))))
                else (
                  some ((-1000003), σ)))))))))
  else (
    some ((-1000002), σ))
def X11_put (k0 : Nat) (v1 : Int32) (v2 : Int32) (v3 : Int32) (v4 : Int32) (v5 : Int32) (σ : Mem) : Option (Int32 × Mem) := X11_put_b0 k0 v1 v2 v3 v4 v5 σ
def X11_isPage_b0 (k0 : Nat) (v1 : Int32) (σ : Mem) : Int32 :=
  if v1 < 0 then (
    0)
  else (
    if (σ (k0 + 22) 0) ≤ v1 then (
      0)
    else (
      1))
def X11_isPage (k0 : Nat) (v1 : Int32) (σ : Mem) : Int32 := X11_isPage_b0 k0 v1 σ
def X11_take_b0 (k0 : Nat) (v1 : Int32) (σ : Mem) : Option (Int32 × Mem) :=
  if (X11_isPage k0 v1 σ) = 0 then (
    some ((-1000001), σ))
  else (
    if (σ (k0 + 22) 0) = 1 then (
      some ((-1000002), σ))
    else (
      ob (X11_beginAct k0 σ) (fun σ3 =>
        ob (X2_cut (k0 + 22) v1 σ3) (fun σ4 =>
        some (σ4 (k0 + 22) 0, σ4)))))
def X11_take (k0 : Nat) (v1 : Int32) (σ : Mem) : Option (Int32 × Mem) := X11_take_b0 k0 v1 σ
def X11_move_b0 (k0 : Nat) (v1 : Int32) (v2 : Int32) (σ : Mem) : Option (Int32 × Mem) :=
  if (X11_isPage k0 v1 σ) = 0 then (
    some ((-1000001), σ))
  else (
    if (X11_isPage k0 v2 σ) = 0 then (
      some ((-1000001), σ))
    else (
      if v1 = v2 then (
        some ((-1000002), σ))
      else (
        ob (X11_beginAct k0 σ) (fun σ4 =>
          ob (X2_carry (k0 + 22) v1 v2 σ4) (fun σ5 =>
          gdx v2 10 (
          some (σ5 ((k0 + 22) + 1) (nc v2), σ5)))))))
def X11_move (k0 : Nat) (v1 : Int32) (v2 : Int32) (σ : Mem) : Option (Int32 × Mem) := X11_move_b0 k0 v1 v2 σ
def X11_measure_b0 (k0 : Nat) (v1 : Int32) (v2 : Int32) (v3 : Int32) (σ : Mem) : Option (Int32 × Mem) :=
  if (X11_isPage k0 v1 σ) = 0 then (
    some ((-1000001), σ))
  else (
    if v2 < 0 then (
      some ((-1000001), σ))
    else (
      if 2 < v2 then (
        some ((-1000001), σ))
      else (
        if (X11_isMeasure v3) = 0 then (
          some ((-1000001), σ))
        else (
          ob (X11_beginAct k0 σ) (fun σ5 =>
            gdx v2 3 (
            gdx v1 10 (
            letv (σ5 (((k0 + 22) + 2) + 1 + nc v2) (nc v1)) (fun x8 =>
            gdx v2 3 (
            gdx v1 10 (
            some (x8, wr σ5 (((k0 + 22) + 2) + 1 + nc v2) (nc v1) v3)))))))))))
def X11_measure (k0 : Nat) (v1 : Int32) (v2 : Int32) (v3 : Int32) (σ : Mem) : Option (Int32 × Mem) := X11_measure_b0 k0 v1 v2 v3 σ
def X11_become_b0 (k0 : Nat) (v1 : Int32) (v2 : Int32) (σ : Mem) : Option (Int32 × Mem) :=
  if (X11_isPage k0 v1 σ) = 0 then (
    some ((-1000001), σ))
  else (
    if (X11_isKindOfPage v2) = 0 then (
      some ((-1000001), σ))
    else (
      gdx v1 10 (
        letv (σ ((k0 + 22) + 1) (nc v1)) (fun x4 =>
        if x4 = v2 then (
        some ((-1000002), σ))
      else (
        ob (X11_beginAct k0 σ) (fun σ6 =>
          gdx v1 10 (
          some (x4, wr σ6 ((k0 + 22) + 1) (nc v1) v2))))))))
def X11_become (k0 : Nat) (v1 : Int32) (v2 : Int32) (σ : Mem) : Option (Int32 × Mem) := X11_become_b0 k0 v1 v2 σ
def X11_law_b66 (k0 : Nat) (v1 : Int32) (v2 : Int32) (s0 : Int32) (σ : Mem) : Option (Int32 × Mem) :=
  if v1 = 0 then (
    some (s0, wr σ (k0 + 22) 1 v2))
  else (
    some (s0, wr σ (k0 + 22) 2 v2))
def X11_law_b35 (k0 : Nat) (v1 : Int32) (v2 : Int32) (s0 : Int32) (s1 : Int32) (σ : Mem) : Option (Int32 × Mem) :=
  if s0 ≤ s1 then (
    ob (X11_beginAct k0 σ) (fun σ2 =>
      if v1 = 0 then (
      X11_law_b66 k0 v1 v2 (σ2 (k0 + 22) 1) σ2)
    else (
      X11_law_b66 k0 v1 v2 (σ2 (k0 + 22) 2) σ2)))
  else (
    some ((-1000001), σ))
def X11_law_b0 (k0 : Nat) (v1 : Int32) (v2 : Int32) (σ : Mem) : Option (Int32 × Mem) :=
  if (X11_isWithoutBook k0 σ) = 0 then (
    if v1 < 0 then (
      some ((-1000001), σ))
    else (
      if 1 < v1 then (
        some ((-1000001), σ))
      else (
        if v2 < 0 then (
          some ((-1000001), σ))
        else (
          if v1 = 0 then (
            X11_law_b35 k0 v1 v2 v2 60 σ)
          else (
            X11_law_b35 k0 v1 v2 v2 20 σ)))))
  else (
    some ((-1000002), σ))
def X11_law (k0 : Nat) (v1 : Int32) (v2 : Int32) (σ : Mem) : Option (Int32 × Mem) := X11_law_b0 k0 v1 v2 σ
def X11_look_b0 (k0 : Nat) (σ : Mem) : Option Mem :=
  if (σ k0 9) = 0 then (
    ob (X4_lookAt (k0 + 175) (k0 + 22) σ) (fun σ2 =>
      some (wr σ2 k0 9 1)))
  else (
    some σ)
def X11_look (k0 : Nat) (σ : Mem) : Option Mem := X11_look_b0 k0 σ
def X11_page_b0 (k0 : Nat) (v1 : Int32) (v2 : Int32) (σ : Mem) : Option (Int32 × Mem) :=
  if (X11_isPage k0 v1 σ) = 0 then (
    some ((-1000001), σ))
  else (
    if v2 < 0 then (
      some ((-1000001), σ))
    else (
      if v2 ≤ 6 then (
        if 2 < v2 then (
          ob (X11_look k0 σ) (fun σ5 =>
            if v2 = 3 then (
            gdx v1 10 (
              some (σ5 ((k0 + 175) + 23) (nc v1), σ5)))
          else (
            if v2 = 4 then (
              gdx v1 10 (
                some (σ5 (((k0 + 175) + 1) + 14) (nc v1), σ5)))
            else (
              if v2 = 5 then (
                some ((shr (σ5 (k0 + 175) 5) v1) &&& 1, σ5))
              else (
                gdx v1 10 (
                  some (σ5 (((k0 + 175) + 17) + 5) (nc v1), σ5)))))))
        else (
          gdx v2 3 (
            gdx v1 10 (
            some (σ (((k0 + 22) + 2) + 1 + nc v2) (nc v1), σ)))))
      else (
        some ((-1000001), σ))))
def X11_page (k0 : Nat) (v1 : Int32) (v2 : Int32) (σ : Mem) : Option (Int32 × Mem) := X11_page_b0 k0 v1 v2 σ
def X11_apart_b0 (k0 : Nat) (v1 : Int32) (v2 : Int32) (σ : Mem) : Option (Int32 × Mem) :=
  if (X11_isPage k0 v1 σ) = 0 then (
    some ((-1000001), σ))
  else (
    if (X11_isPage k0 v2 σ) = 0 then (
      some ((-1000001), σ))
    else (
      if v1 = v2 then (
        some ((-1000001), σ))
      else (
        ob (X11_look k0 σ) (fun σ4 =>
          gdx v1 10 (
          gdx v2 10 (
          some (σ4 (((((k0 + 175) + 1) + 1) + 1) + 1 + nc v1) (nc v2), σ4)))))))
def X11_apart (k0 : Nat) (v1 : Int32) (v2 : Int32) (σ : Mem) : Option (Int32 × Mem) := X11_apart_b0 k0 v1 v2 σ
def X11_spread_b0 (k0 : Nat) (v1 : Int32) (σ : Mem) : Option (Int32 × Mem) :=
  if (X11_isWithoutBook k0 σ) = 0 then (
    if v1 < 1 then (
      some ((-1000001), σ))
    else (
      if v1 < (shl 1 (σ (k0 + 22) 0)) then (
        ob (X11_look k0 σ) (fun σ4 =>
          ob (X5_widest (((k0 + 175) + 1) + 1) v1 σ4) (fun r5 =>
          some (r5, σ4))))
      else (
        some ((-1000001), σ))))
  else (
    some ((-1000002), σ))
def X11_spread (k0 : Nat) (v1 : Int32) (σ : Mem) : Option (Int32 × Mem) := X11_spread_b0 k0 v1 σ
def X11_answer_b0 (k0 : Nat) (v1 : Int32) (σ : Mem) : Option Int32 :=
  if v1 = 0 then (
    some (σ ((k0 + 175) + 1) 3))
  else (
    if v1 = 1 then (
      some (J6_bitCount_0f7a4 (σ (k0 + 175) 5)))
    else (
      if v1 = 2 then (
        some (σ ((k0 + 175) + 17) 5))
      else (
        if v1 = 3 then (
          some (σ (((k0 + 175) + 17) + 1) (nc 0)))
        else (
          if v1 = 4 then (
            some (σ (k0 + 175) 4))
          else (
            if v1 = 5 then (
              ob (X5_widest (((k0 + 175) + 1) + 1) ((shl 1 (σ (k0 + 22) 0)) - 1) σ) (fun r7 =>
                some r7))
            else (
              if v1 = 6 then (
                some (σ (k0 + 22) 1))
              else (
                if v1 = 7 then (
                  some (σ (k0 + 22) 2))
                else (
                  if v1 = 8 then (
                    some (σ (k0 + 175) 7))
                  else (
                    some (σ (k0 + 22) 0))))))))))
def X11_answer (k0 : Nat) (v1 : Int32) (σ : Mem) : Option Int32 := X11_answer_b0 k0 v1 σ
def X11_whole_b0 (k0 : Nat) (v1 : Int32) (σ : Mem) : Option (Int32 × Mem) :=
  if (X11_isWithoutBook k0 σ) = 0 then (
    if v1 < 0 then (
      some ((-1000001), σ))
    else (
      if v1 ≤ 8 then (
        ob (X11_look k0 σ) (fun σ4 =>
          ob (X11_answer k0 v1 σ4) (fun r5 =>
          some (r5, σ4))))
      else (
        some ((-1000001), σ))))
  else (
    some ((-1000002), σ))
def X11_whole (k0 : Nat) (v1 : Int32) (σ : Mem) : Option (Int32 × Mem) := X11_whole_b0 k0 v1 σ
def X11_hand_b0 (k0 : Nat) (v1 : Int32) (v2 : Int32) (σ : Mem) : Option (Int32 × Mem) :=
  ob (X11_look k0 σ) (fun σ1 =>
    if v1 < 0 then (
    some ((-1000001), σ1))
  else (
    if (σ1 ((k0 + 175) + 1) 3) ≤ v1 then (
      some ((-1000001), σ1))
    else (
      if v2 < 0 then (
        some ((-1000001), σ1))
      else (
        if v2 ≤ 2 then (
          gdx v1 10 (
            letv (σ1 (((k0 + 175) + 1) + 15) (nc v1)) (fun x7 =>
            if v2 = 0 then (
            some (x7, σ1))
          else (
            if v2 = 1 then (
              ob (X5_widest (((k0 + 175) + 1) + 1) x7 σ1) (fun r10 =>
                some (r10, σ1)))
            else (
              ob (X5_middle (((k0 + 175) + 1) + 1) x7 σ1) (fun r11 =>
                some (r11, σ1)))))))
        else (
          some ((-1000001), σ1))))))
def X11_hand (k0 : Nat) (v1 : Int32) (v2 : Int32) (σ : Mem) : Option (Int32 × Mem) := X11_hand_b0 k0 v1 v2 σ
def X11_run_b0 (k0 : Nat) (v1 : Int32) (v2 : Int32) (σ : Mem) : Option (Int32 × Mem) :=
  ob (X11_look k0 σ) (fun σ1 =>
    if v1 < 0 then (
    some ((-1000001), σ1))
  else (
    if (σ1 ((k0 + 175) + 17) 5) ≤ v1 then (
      some ((-1000001), σ1))
    else (
      if v2 < 0 then (
        some ((-1000001), σ1))
      else (
        if v2 ≤ 2 then (
          gdx v1 11 (
            letv (σ1 (((k0 + 175) + 17) + 4) (nc v1)) (fun x7 =>
            gdx (v1 + 1) 11 (
            letv (σ1 (((k0 + 175) + 17) + 4) (nc (v1 + 1))) (fun x9 =>
            if v2 = 0 then (
            some (x7, σ1))
          else (
            if v2 = 1 then (
              some (x9 - x7, σ1))
            else (
              ob (X5_widest (((k0 + 175) + 1) + 1) ((shl 1 x9) - (shl 1 x7)) σ1) (fun r12 =>
                some (r12, σ1)))))))))
        else (
          some ((-1000001), σ1))))))
def X11_run (k0 : Nat) (v1 : Int32) (v2 : Int32) (σ : Mem) : Option (Int32 × Mem) := X11_run_b0 k0 v1 v2 σ
def X11_sign_b0 (k0 : Nat) (v1 : Int32) (σ : Mem) : Option (Int32 × Mem) :=
  if (X11_isWithoutBook k0 σ) = 0 then (
    if 0 ≤ v1 then (
      ob (X11_look k0 σ) (fun σ3 =>
        if (σ3 (k0 + 175) 7) ≤ v1 then (
        some ((-1000000), σ3))
      else (
        gdx v1 64 (
          some (σ3 ((k0 + 175) + 35) (nc v1), σ3)))))
    else (
      some ((-1000001), σ)))
  else (
    some ((-1000002), σ))
def X11_sign (k0 : Nat) (v1 : Int32) (σ : Mem) : Option (Int32 × Mem) := X11_sign_b0 k0 v1 σ
def X11_say_b19 (k0 : Nat) (s0 : Int32) (σ : Mem) : Option (Int32 × Mem) :=
  if 0 ≤ s0 then (
    ob (X11_look k0 (wr σ (k0 + 13) 1 0)) (fun σ2 =>
      ob (X11_answer k0 s0 σ2) (fun r3 =>
      some (r3, σ2))))
  else (
    some (s0, wr σ (k0 + 13) 1 0))
def X11_say_b0 (k0 : Nat) (σ : Mem) : Option (Int32 × Mem) :=
  if (X11_isWithoutBook k0 σ) = 0 then (
    ob (X10_asks (k0 + 13) σ) (fun r2 =>
      X11_say_b19 k0 r2 σ))
  else (
    X11_say_b19 k0 (-1000002) σ)
def X11_say (k0 : Nat) (σ : Mem) : Option (Int32 × Mem) := X11_say_b0 k0 σ
def X11_without_b0 (k0 : Nat) (v1 : Int32) (σ : Mem) : Option (Int32 × Mem) :=
  if (X11_isPage k0 v1 σ) = 0 then (
    some ((-1000001), σ))
  else (
    if (σ (k0 + 22) 0) = 1 then (
      some ((-1000002), σ))
    else (
      ob2 (X3_handsWithout (k0 + 211) (k0 + 22) v1 σ) (fun r3 σ4 =>
        some (r3, σ4))))
def X11_without (k0 : Nat) (v1 : Int32) (σ : Mem) : Option (Int32 × Mem) := X11_without_b0 k0 v1 σ
def X11_least_b0 (k0 : Nat) (v1 : Int32) (σ : Mem) : Option (Int32 × Mem) :=
  if (X11_isWithoutBook k0 σ) = 0 then (
    if v1 < 1 then (
      some ((-1000001), σ))
    else (
      if v1 ≤ 10 then (
        ob2 (X3_leastLimit (k0 + 211) (k0 + 22) v1 σ) (fun r4 σ5 =>
          some (r4, σ5)))
      else (
        some ((-1000001), σ))))
  else (
    some ((-1000002), σ))
def X11_least (k0 : Nat) (v1 : Int32) (σ : Mem) : Option (Int32 × Mem) := X11_least_b0 k0 v1 σ
def X11_pairs_b0 (k0 : Nat) (v1 : Int32) (σ : Mem) : Option (Int32 × Mem) :=
  if (X11_isPage k0 v1 σ) = 0 then (
    some ((-1000001), σ))
  else (
    ob (X11_look k0 σ) (fun σ2 =>
      gdx v1 10 (
      some ((σ2 ((((k0 + 175) + 1) + 1) + 12) (nc v1)) &&& ((shl 1 v1) ^^^ (-1)), σ2))))
def X11_pairs (k0 : Nat) (v1 : Int32) (σ : Mem) : Option (Int32 × Mem) := X11_pairs_b0 k0 v1 σ
def J13_bitCount_95d88_b0 (v0 : Int64) : Int32 :=
  letv (v0 - ((lushr v0 1) &&& 6148914691236517205)) (fun x1 =>
    letv ((x1 &&& 3689348814741910323) + ((lushr x1 2) &&& 3689348814741910323)) (fun x2 =>
    letv ((x2 + (lushr x2 4)) &&& 1085102592571150095) (fun x3 =>
    letv (x3 + (lushr x3 8)) (fun x4 =>
    letv (x4 + (lushr x4 16)) (fun x5 =>
    letv (x5 + (lushr x5 32)) (fun x6 =>
    (Int64.toInt32 x6) &&& 127))))))
def J13_bitCount_95d88 (v0 : Int64) : Int32 := J13_bitCount_95d88_b0 v0
def J13_numberOfTrailingZeros_95d88_b0 (v0 : Int64) : Int32 :=
  letv (Int64.toInt32 v0) (fun x1 =>
    if x1 = 0 then (
    32 + (J6_numberOfTrailingZeros_0f7a4 (Int64.toInt32 (lushr v0 32))))
  else (
    J6_numberOfTrailingZeros_0f7a4 x1))
def J13_numberOfTrailingZeros_95d88 (v0 : Int64) : Int32 := J13_numberOfTrailingZeros_95d88_b0 v0
def X11_who_b0 (k0 : Nat) (v1 : Int32) (v2 : Int32) (v3 : Int32) (v4 : Int32) (v5 : Int32) (σ : Mem) : Option (Int32 × Mem) :=
  if (X11_isPage k0 v1 σ) = 0 then (
    some ((-1000001), σ))
  else (
    if v2 < 0 then (
      some ((-1000001), σ))
    else (
      if 5 < v2 then (
        some ((-1000001), σ))
      else (
        if (X11_isRow v3) = 0 then (
          some ((-1000001), σ))
        else (
          if v5 < 1 then (
            some ((-1000001), σ))
          else (
            if v5 ≤ (σ (k0 + 22) 0) then (
              ob (X8_isMissing (k0 + 1) v3 σ) (fun r7 =>
                if r7 = 0 then (
                ob (X8_holds (k0 + 1) v3 v4 v5 σ) (fun r9 =>
                  if r9 = 0 then (
                  ob2 (X11_finds k0 2 σ) (fun r23 σ24 =>
                    some (r23, σ24)))
                else (
                  gdx v3 8 (
                    ob (X3_hear (k0 + 211) (((k0 + 1) + 1) + 1 + nc v3) v4 v5 (wr σ k0 11 0)) (fun σ12 =>
                    if v2 = 2 then (
                    ob2 (X3_kindsOf (k0 + 211) (k0 + 22) v1 σ12) (fun r21 σ22 =>
                      some (r21, σ22)))
                  else (
                    if v2 ≤ 2 then (
                      ob2 (X3_limitsOf (k0 + 211) (k0 + 22) σ12) (fun r15 σ16 =>
                        if v2 = 0 then (
                        some (J13_bitCount_95d88 r15, σ16))
                      else (
                        if (lg_cmp r15 0) = 0 then (
                          some ((-1000000), σ16))
                        else (
                          some (J13_numberOfTrailingZeros_95d88 r15, σ16)))))
                    else (
                      ob2 (X3_numbersOf (k0 + 211) (k0 + 22) v1 (v2 - 3) σ12) (fun r19 σ20 =>
                        some (r19, σ20)))))))))
              else (
                ob2 (X11_finds k0 1 σ) (fun r25 σ26 =>
                  some (r25, σ26)))))
            else (
              some ((-1000001), σ)))))))
def X11_who (k0 : Nat) (v1 : Int32) (v2 : Int32) (v3 : Int32) (v4 : Int32) (v5 : Int32) (σ : Mem) : Option (Int32 × Mem) := X11_who_b0 k0 v1 v2 v3 v4 v5 σ
def X11_sharedDivisor_b9 (K9 : Int64 → Int64 → Int32 → Option Int64) (v4 : Int64) (v6 : Int64) (v8 : Int32) : Option Int64 :=
  if 100 ≤ v8 then (
    some v4)
  else (
    if (lg_cmp v6 0) ≤ 0 then (
      some v4)
    else (
      gdl v6 (
        letv (lrm v4 v6) (fun x4 =>
        K9 v6 x4 (v8 + 1)))))
def X11_sharedDivisor_l9 : Nat → Int64 → Int64 → Int32 → Option Int64
  | 0 => fun _ _ _ => none
  | n + 1 => X11_sharedDivisor_b9 (X11_sharedDivisor_l9 n)
def X11_sharedDivisor_b0 (v0 : Int64) (v2 : Int64) : Option Int64 :=
  X11_sharedDivisor_l9 FU v2 v0 0
def X11_sharedDivisor (v0 : Int64) (v2 : Int64) : Option Int64 := X11_sharedDivisor_b0 v0 v2
def X11_lost_b0 (k0 : Nat) (v1 : Int32) (v2 : Int32) (v3 : Int32) (σ : Mem) : Option (Int64 × Mem) :=
  if (X11_isWithoutBook k0 σ) = 0 then (
    if v1 < 0 then (
      some ((-1000001), σ))
    else (
      if 10 < v1 then (
        some ((-1000001), σ))
      else (
        if v2 < 0 then (
          some ((-1000001), σ))
        else (
          if 10 < v2 then (
            some ((-1000001), σ))
          else (
            if v3 < 0 then (
              some ((-1000001), σ))
            else (
              if v3 ≤ 1 then (
                ob2 (X3_goodCases (k0 + 211) (k0 + 22) v1 v2 σ) (fun r8 σ9 =>
                  ob (X11_power 10 (σ9 (k0 + 22) 0)) (fun r10 =>
                  ob (X11_sharedDivisor r8 r10) (fun r11 =>
                  if 0 ≤ (lg_cmp r11 1) then (
                  if v3 = 0 then (
                    gdl r11 (
                      some (r8 / r11, σ9)))
                  else (
                    gdl r11 (
                      some (r10 / r11, σ9))))
                else (
                  some (Int32.toInt64 v3, σ9))))))
              else (
                some ((-1000001), σ))))))))
  else (
    some ((-1000002), σ))
def X11_lost (k0 : Nat) (v1 : Int32) (v2 : Int32) (v3 : Int32) (σ : Mem) : Option (Int64 × Mem) := X11_lost_b0 k0 v1 v2 v3 σ
def X11_drawn_b0 (k0 : Nat) (v1 : Int32) (v2 : Int32) (v3 : Int32) (σ : Mem) : Option (Int32 × Mem) :=
  if (X11_isWithoutBook k0 σ) = 0 then (
    if v1 < 0 then (
      some ((-1000001), σ))
    else (
      if 20 < v1 then (
        some ((-1000001), σ))
      else (
        if v2 < 1 then (
          some ((-1000001), σ))
        else (
          if 999999 < v2 then (
            some ((-1000001), σ))
          else (
            if v3 < 0 then (
              some ((-1000001), σ))
            else (
              if v3 ≤ 1 then (
                ob2 (X3_draw (k0 + 211) (k0 + 22) v1 v2 σ) (fun r8 σ9 =>
                  if v3 = 0 then (
                  some (r8, σ9))
                else (
                  ob (X3_spreadOfAll (k0 + 211) σ9) (fun r11 =>
                    some (r11, σ9)))))
              else (
                some ((-1000001), σ))))))))
  else (
    some ((-1000002), σ))
def X11_drawn (k0 : Nat) (v1 : Int32) (v2 : Int32) (v3 : Int32) (σ : Mem) : Option (Int32 × Mem) := X11_drawn_b0 k0 v1 v2 v3 σ
def X11_image_b0 (k0 : Nat) (v1 : Int32) (σ : Mem) : Option (Int32 × Mem) :=
  if v1 < 0 then (
    some ((-1000001), σ))
  else (
    if v1 < 2 then (
      if (X11_isWithoutBook k0 σ) = 0 then (
        gdx v1 2 (
          ob (X2_becomeLike ((k0 + 174) + 65 + 6 * nc v1) (k0 + 22) σ) (fun σ5 =>
          some (1, σ5))))
      else (
        some ((-1000002), σ)))
    else (
      some ((-1000001), σ)))
def X11_image (k0 : Nat) (v1 : Int32) (σ : Mem) : Option (Int32 × Mem) := X11_image_b0 k0 v1 σ
def X11_restore_b0 (k0 : Nat) (v1 : Int32) (σ : Mem) : Option (Int32 × Mem) :=
  if v1 < 0 then (
    some ((-1000001), σ))
  else (
    if v1 < 2 then (
      gdx v1 2 (
        if (σ ((k0 + 174) + 65 + 6 * nc v1) 0) = 0 then (
        some ((-1000002), σ))
      else (
        gdx v1 2 (
          ob (X11_begin k0 ((k0 + 174) + 65 + 6 * nc v1) σ) (fun σ6 =>
          some (1, σ6))))))
    else (
      some ((-1000001), σ)))
def X11_restore (k0 : Nat) (v1 : Int32) (σ : Mem) : Option (Int32 × Mem) := X11_restore_b0 k0 v1 σ
def X11_kind_b0 (k0 : Nat) (v1 : Int32) (σ : Mem) : Option Int32 :=
  if (X11_isPage k0 v1 σ) = 0 then (
    some (-1000001))
  else (
    gdx v1 10 (
      some (σ ((k0 + 22) + 1) (nc v1))))
def X11_kind (k0 : Nat) (v1 : Int32) (σ : Mem) : Option Int32 := X11_kind_b0 k0 v1 σ
def X11_isSuch_b4 (K4 : Int32 → Int32 → Int32 → Mem → Option Int32) (v1 : Int32) (v2 : Int32) (v3 : Int32) (σ : Mem) : Option Int32 :=
  if 5 < v3 then (
    some 0)
  else (
    if v2 < 0 then (
      some 0)
    else (
      if 5 < v2 then (
        some 0)
      else (
        if v2 = v1 then (
          some 1)
        else (
          gdx v2 6 (
            letv (nkF (nc v2)) (fun x6 =>
            K4 v1 x6 (v3 + 1) σ))))))
def X11_isSuch_l4 : Nat → Int32 → Int32 → Int32 → Mem → Option Int32
  | 0 => fun _ _ _ _ => none
  | n + 1 => X11_isSuch_b4 (X11_isSuch_l4 n)
def X11_isSuch_b0 (v0 : Int32) (v1 : Int32) (σ : Mem) : Option Int32 :=
  X11_isSuch_l4 FU v1 v0 0 σ
def X11_isSuch (v0 : Int32) (v1 : Int32) (σ : Mem) : Option Int32 := X11_isSuch_b0 v0 v1 σ
def X11_as_b0 (k0 : Nat) (v1 : Int32) (v2 : Int32) (σ : Mem) : Option (Int32 × Mem) :=
  if (X11_isPage k0 v1 σ) = 0 then (
    some ((-1000001), σ))
  else (
    if v2 < 0 then (
      some ((-1000001), σ))
    else (
      if v2 ≤ 5 then (
        gdx v1 10 (
          ob (X11_isSuch (σ ((k0 + 22) + 1) (nc v1)) v2 σ) (fun r5 =>
          if r5 = 0 then (
          ob2 (X11_finds k0 3 σ) (fun r7 σ8 =>
            some (r7, σ8)))
        else (
          some (v1, wr σ k0 11 0)))))
      else (
        some ((-1000001), σ))))
def X11_as (k0 : Nat) (v1 : Int32) (v2 : Int32) (σ : Mem) : Option (Int32 × Mem) := X11_as_b0 k0 v1 v2 σ
def X11_ask_b0 (k0 : Nat) (v1 : Int32) (v2 : Int32) (σ : Mem) : Option (Int32 × Mem) :=
  if (X11_isPage k0 v1 σ) = 0 then (
    some ((-1000001), σ))
  else (
    if v2 < 0 then (
      some ((-1000001), σ))
    else (
      if v2 ≤ 1 then (
        ob (X11_look k0 σ) (fun σ4 =>
          gdx v1 10 (
          ob (X1_begin (k0 + 237) (k0 + 22) v1 (σ4 (((k0 + 175) + 1) + 14) (nc v1)) σ4) (fun σ6 =>
          if v2 = 0 then (
          ob2 (X1_size (k0 + 237) σ6) (fun r10 σ11 =>
            some (r10, σ11)))
        else (
          ob2 (X1_mark (k0 + 237) σ6) (fun r8 σ9 =>
            some (r8, σ9)))))))
      else (
        some ((-1000001), σ))))
def X11_ask (k0 : Nat) (v1 : Int32) (v2 : Int32) (σ : Mem) : Option (Int32 × Mem) := X11_ask_b0 k0 v1 v2 σ
def X11_trace_b0 (k0 : Nat) (v1 : Int32) (σ : Mem) : Option Int32 :=
  if v1 < 0 then (
    some (-1000000))
  else (
    if (σ (k0 + 237) 1) ≤ v1 then (
      some (-1000000))
    else (
      gdx v1 16 (
        some (σ ((k0 + 237) + 1) (nc v1)))))
def X11_trace (k0 : Nat) (v1 : Int32) (σ : Mem) : Option Int32 := X11_trace_b0 k0 v1 σ
def X11_count_b60 (k0 : Nat) (v1 : Int32) (σ : Mem) : Option Int32 :=
  ob (X2_together (k0 + 22) (v1 - 2) σ) (fun r1 =>
    some r1)
def X11_count_b0 (k0 : Nat) (v1 : Int32) (σ : Mem) : Option Int32 :=
  if v1 = 0 then (
    ob (X8_laid (k0 + 1) σ) (fun r2 =>
      some r2))
  else (
    if v1 = 1 then (
      some (σ (k0 + 22) 0))
    else (
      if v1 = 2 then (
        X11_count_b60 k0 v1 σ)
      else (
        if v1 = 3 then (
          X11_count_b60 k0 v1 σ)
        else (
          if v1 = 4 then (
            X11_count_b60 k0 v1 σ)
          else (
            if v1 = 5 then (
              some (σ (k0 + 28) 2))
            else (
              if v1 = 6 then (
                some (σ (k0 + 13) 1))
              else (
                some (-1000001))))))))
def X11_count (k0 : Nat) (v1 : Int32) (σ : Mem) : Option Int32 := X11_count_b0 k0 v1 σ
def X11_status_b0 (k0 : Nat) (σ : Mem) : Int32 :=
  σ k0 11
def X11_status (k0 : Nat) (σ : Mem) : Int32 := X11_status_b0 k0 σ
def X12_in_b0 (v0 : Int64) (v2 : Int64) (v4 : Int64) : Int32 :=
  if (lg_cmp v0 v2) < 0 then (
    0)
  else (
    if 0 < (lg_cmp v0 v4) then (
      0)
    else (
      1))
def X12_in (v0 : Int64) (v2 : Int64) (v4 : Int64) : Int32 := X12_in_b0 v0 v2 v4
def X12_finding_b0 (k0 : Nat) (v1 : Int32) (σ : Mem) : Option (Int32 × Mem) :=
  some ((-1000010) - v1, wr σ k0 0 v1)
def X12_finding (k0 : Nat) (v1 : Int32) (σ : Mem) : Option (Int32 × Mem) := X12_finding_b0 k0 v1 σ
def X12_isRow_b0 (v0 : Int32) : Int32 :=
  X12_in (Int32.toInt64 v0) 0 7
def X12_isRow (v0 : Int32) : Int32 := X12_isRow_b0 v0
def X12_row_b60 (K60 : Nat → Int32 → Int32 → Int32 → Mem → Option (Int32 × Mem)) (k0 : Nat) (v1 : Int32) (v3 : Int32) (v4 : Int32) (σ : Mem) : Option (Int32 × Mem) :=
  if 40 ≤ v4 then (
    some (v3, σ))
  else (
    gdx ((40 * v1) + v4) 320 (
      K60 k0 v1 v3 (v4 + 1) (wr σ (k0 + 3) (nc ((40 * v1) + v4)) 0)))
def X12_row_l60 : Nat → Nat → Int32 → Int32 → Int32 → Mem → Option (Int32 × Mem)
  | 0 => fun _ _ _ _ _ => none
  | n + 1 => X12_row_b60 (X12_row_l60 n)
def X12_row_b0 (k0 : Nat) (v1 : Int32) (v2 : Int32) (v3 : Int32) (σ : Mem) : Option (Int32 × Mem) :=
  if (X12_isRow v1) = 0 then (
    some ((-1000001), σ))
  else (
    if (X12_in (Int32.toInt64 v2) 0 2) = 0 then (
      some ((-1000001), σ))
    else (
      if v3 ≤ 40 then (
        if 0 ≤ v3 then (
          letv (wr σ k0 0 0) (fun σ5 =>
            gdx v1 8 (
            letv (wr σ5 (k0 + 1) (nc v1) v2) (fun σ7 =>
            gdx v1 8 (
            X12_row_l60 FU k0 v1 v3 0 (wr σ7 (k0 + 2) (nc v1) v3))))))
        else (
          ob2 (X12_finding k0 4 (wr σ k0 0 0)) (fun r9 σ10 =>
            some (r9, σ10))))
      else (
        some ((-1000001), σ))))
def X12_row (k0 : Nat) (v1 : Int32) (v2 : Int32) (v3 : Int32) (σ : Mem) : Option (Int32 × Mem) := X12_row_b0 k0 v1 v2 v3 σ
def X12_set_b94 (k0 : Nat) (v1 : Int32) (v2 : Int32) (s0 : Nat) (s1 : Int32) (s2 : Int32) (σ : Mem) : Option (Int32 × Mem) :=
  gdx s1 320 (
    letv (wr σ s0 (nc s1) s2) (fun σ2 =>
    gdx ((40 * v1) + v2) 320 (
    some (σ2 (k0 + 3) (nc ((40 * v1) + v2)), σ2))))
def X12_set_b0 (k0 : Nat) (v1 : Int32) (v2 : Int32) (v3 : Int32) (σ : Mem) : Option (Int32 × Mem) :=
  if (X12_isRow v1) = 0 then (
    some ((-1000001), σ))
  else (
    letv (wr σ k0 0 0) (fun σ2 =>
      gdx v1 8 (
      if 0 ≤ (σ2 (k0 + 1) (nc v1)) then (
      gdx v1 8 (
        if (X12_in (Int32.toInt64 v2) 0 (Int32.toInt64 ((σ2 (k0 + 2) (nc v1)) - 1))) = 0 then (
        ob2 (X12_finding k0 2 σ2) (fun r11 σ12 =>
          some (r11, σ12)))
      else (
        gdx v1 8 (
          if (σ2 (k0 + 1) (nc v1)) = 0 then (
          X12_set_b94 k0 v1 v2 (k0 + 3) ((40 * v1) + v2) (i2b v3) σ2)
        else (
          gdx v1 8 (
            if (σ2 (k0 + 1) (nc v1)) = 1 then (
            X12_set_b94 k0 v1 v2 (k0 + 3) ((40 * v1) + v2) (i2s v3) σ2)
          else (
            X12_set_b94 k0 v1 v2 (k0 + 3) ((40 * v1) + v2) v3 σ2)))))))
    else (
      ob2 (X12_finding k0 1 σ2) (fun r13 σ14 =>
        some (r13, σ14))))))
def X12_set (k0 : Nat) (v1 : Int32) (v2 : Int32) (v3 : Int32) (σ : Mem) : Option (Int32 × Mem) := X12_set_b0 k0 v1 v2 v3 σ
def X12_copy_b40 (k0 : Nat) (σ : Mem) : Option (Int32 × Mem) :=
  ob2 (X12_finding k0 1 σ) (fun r1 σ2 =>
    some (r1, σ2))
def X12_copy_b116 (k0 : Nat) (σ : Mem) : Option (Int32 × Mem) :=
  ob2 (X12_finding k0 2 σ) (fun r1 σ2 =>
    some (r1, σ2))
def X12_copy_b162 (K138 : Nat → Int32 → Int32 → Int32 → Int32 → Int32 → Int32 → Int32 → Mem → Option (Int32 × Mem)) (k0 : Nat) (v1 : Int32) (v2 : Int32) (v3 : Int32) (v4 : Int32) (v5 : Int32) (v6 : Int32) (v7 : Int32) (s0 : Int32) (σ : Mem) : Option (Int32 × Mem) :=
  gdx (((40 * v1) + v2) + s0) 320 (
    gdx (((40 * v3) + v4) + s0) 320 (
    K138 k0 v1 v2 v3 v4 v5 v6 (v7 + 1) (wr σ (k0 + 3) (nc (((40 * v3) + v4) + s0)) (σ (k0 + 3) (nc (((40 * v1) + v2) + s0))))))
def X12_copy_b138 (K138 : Nat → Int32 → Int32 → Int32 → Int32 → Int32 → Int32 → Int32 → Mem → Option (Int32 × Mem)) (k0 : Nat) (v1 : Int32) (v2 : Int32) (v3 : Int32) (v4 : Int32) (v5 : Int32) (v6 : Int32) (v7 : Int32) (σ : Mem) : Option (Int32 × Mem) :=
  if v5 ≤ v7 then (
    some (v5, σ))
  else (
    if v6 = 0 then (
      X12_copy_b162 K138 k0 v1 v2 v3 v4 v5 v6 v7 ((v5 - 1) - v7) σ)
    else (
      X12_copy_b162 K138 k0 v1 v2 v3 v4 v5 v6 v7 v7 σ))
def X12_copy_l138 : Nat → Nat → Int32 → Int32 → Int32 → Int32 → Int32 → Int32 → Int32 → Mem → Option (Int32 × Mem)
  | 0 => fun _ _ _ _ _ _ _ _ _ => none
  | n + 1 => X12_copy_b138 (X12_copy_l138 n)
def X12_copy_b133 (k0 : Nat) (v1 : Int32) (v2 : Int32) (v3 : Int32) (v4 : Int32) (v5 : Int32) (s0 : Int32) (σ : Mem) : Option (Int32 × Mem) :=
  X12_copy_l138 FU k0 v1 v2 v3 v4 v5 s0 0 σ
def X12_copy_b0 (k0 : Nat) (v1 : Int32) (v2 : Int32) (v3 : Int32) (v4 : Int32) (v5 : Int32) (σ : Mem) : Option (Int32 × Mem) :=
  if (X12_isRow v1) = 0 then (
    some ((-1000001), σ))
  else (
    if (X12_isRow v3) = 0 then (
      some ((-1000001), σ))
    else (
      letv (wr σ k0 0 0) (fun σ3 =>
        gdx v1 8 (
        if (σ3 (k0 + 1) (nc v1)) < 0 then (
        X12_copy_b40 k0 σ3)
      else (
        gdx v3 8 (
          if 0 ≤ (σ3 (k0 + 1) (nc v3)) then (
          gdx v1 8 (
            gdx v3 8 (
            if (σ3 (k0 + 1) (nc v1)) = (σ3 (k0 + 1) (nc v3)) then (
            if v2 < 0 then (
              X12_copy_b116 k0 σ3)
            else (
              if v4 < 0 then (
                X12_copy_b116 k0 σ3)
              else (
                if v5 < 0 then (
                  X12_copy_b116 k0 σ3)
                else (
                  gdx v1 8 (
                    if 0 < (lg_cmp ((Int32.toInt64 v2) + (Int32.toInt64 v5)) (Int32.toInt64 (σ3 (k0 + 2) (nc v1)))) then (
                    X12_copy_b116 k0 σ3)
                  else (
                    gdx v3 8 (
                      if (lg_cmp ((Int32.toInt64 v4) + (Int32.toInt64 v5)) (Int32.toInt64 (σ3 (k0 + 2) (nc v3)))) ≤ 0 then (
                      if v2 < v4 then (
                        X12_copy_b133 k0 v1 v2 v3 v4 v5 0 σ3)
                      else (
                        X12_copy_b133 k0 v1 v2 v3 v4 v5 1 σ3))
                    else (
                      X12_copy_b116 k0 σ3))))))))
          else (
            ob2 (X12_finding k0 5 σ3) (fun r19 σ20 =>
              some (r19, σ20))))))
        else (
          X12_copy_b40 k0 σ3)))))))
def X12_copy (k0 : Nat) (v1 : Int32) (v2 : Int32) (v3 : Int32) (v4 : Int32) (v5 : Int32) (σ : Mem) : Option (Int32 × Mem) := X12_copy_b0 k0 v1 v2 v3 v4 v5 σ
def X12_drop_b0 (k0 : Nat) (v1 : Int32) (σ : Mem) : Option (Int32 × Mem) :=
  if (X12_isRow v1) = 0 then (
    some ((-1000001), σ))
  else (
    letv (wr σ k0 0 0) (fun σ2 =>
      gdx v1 8 (
      if 0 ≤ (σ2 (k0 + 1) (nc v1)) then (
      gdx v1 8 (
        letv (wr σ2 (k0 + 1) (nc v1) (-1)) (fun σ6 =>
        gdx v1 8 (
        some (σ6 (k0 + 2) (nc v1), σ6)))))
    else (
      ob2 (X12_finding k0 1 σ2) (fun r8 σ9 =>
        some (r8, σ9))))))
def X12_drop (k0 : Nat) (v1 : Int32) (σ : Mem) : Option (Int32 × Mem) := X12_drop_b0 k0 v1 σ
def X12_isThere_b0 (k0 : Nat) (σ : Mem) : Option Int32 :=
  if (σ (k0 + 4) (nc 0)) ≤ 0 then (
    some 0)
  else (
    some 1)
def X12_isThere (k0 : Nat) (σ : Mem) : Option Int32 := X12_isThere_b0 k0 σ
def X12_isPage_b0 (k0 : Nat) (v1 : Int32) (σ : Mem) : Option Int32 :=
  gdb (X12_in (Int32.toInt64 v1) 0 (Int32.toInt64 ((σ (k0 + 4) (nc 0)) - 1))) (
    some (X12_in (Int32.toInt64 v1) 0 (Int32.toInt64 ((σ (k0 + 4) (nc 0)) - 1))))
def X12_isPage (k0 : Nat) (v1 : Int32) (σ : Mem) : Option Int32 := X12_isPage_b0 k0 v1 σ
def X12_layThen_b2 (K2 : Nat → Int32 → Mem → Option Mem) (k0 : Nat) (v1 : Int32) (σ : Mem) : Option Mem :=
  if 43 ≤ v1 then (
    some σ)
  else (
    gdx v1 43 (
      gdx v1 43 (
      K2 k0 (v1 + 1) (wr σ (k0 + 6) (nc v1) (σ (k0 + 4) (nc v1))))))
def X12_layThen_l2 : Nat → Nat → Int32 → Mem → Option Mem
  | 0 => fun _ _ _ => none
  | n + 1 => X12_layThen_b2 (X12_layThen_l2 n)
def X12_layThen_b0 (k0 : Nat) (σ : Mem) : Option Mem :=
  X12_layThen_l2 FU k0 0 σ
def X12_layThen (k0 : Nat) (σ : Mem) : Option Mem := X12_layThen_b0 k0 σ
def X12_allOf_b0 (k0 : Nat) (σ : Mem) : Option Int32 :=
  some ((shl 1 (σ k0 (nc 0))) - 1)
def X12_allOf (k0 : Nat) (σ : Mem) : Option Int32 := X12_allOf_b0 k0 σ
def X12_has_b0 (v0 : Int32) (v1 : Int32) : Int32 :=
  if ((shr v0 v1) &&& 1) = 1 then (
    1)
  else (
    0)
def X12_has (v0 : Int32) (v1 : Int32) : Int32 := X12_has_b0 v0 v1
def X12_sizeOf_b24 (K4 : Int32 → Int32 → Int32 → Option Int32) (v0 : Int32) (v2 : Int32) (s0 : Int32) (s1 : Int32) : Option Int32 :=
  letv (s0 + s1) (fun x1 =>
    K4 v0 x1 (v2 + 1))
def X12_sizeOf_b4 (K4 : Int32 → Int32 → Int32 → Option Int32) (v0 : Int32) (v1 : Int32) (v2 : Int32) : Option Int32 :=
  if 10 ≤ v2 then (
    some v1)
  else (
    if (X12_has v0 v2) = 0 then (
      X12_sizeOf_b24 K4 v0 v2 v1 0)
    else (
      X12_sizeOf_b24 K4 v0 v2 v1 1))
def X12_sizeOf_l4 : Nat → Int32 → Int32 → Int32 → Option Int32
  | 0 => fun _ _ _ => none
  | n + 1 => X12_sizeOf_b4 (X12_sizeOf_l4 n)
def X12_sizeOf_b0 (v0 : Int32) : Option Int32 :=
  X12_sizeOf_l4 FU v0 0 0
def X12_sizeOf (v0 : Int32) : Option Int32 := X12_sizeOf_b0 v0
def X12_firstOf_b2 (K2 : Int32 → Int32 → Option Int32) (v0 : Int32) (v1 : Int32) : Option Int32 :=
  if 10 ≤ v1 then (
    some v1)
  else (
    if (X12_has v0 v1) = 0 then (
      K2 v0 (v1 + 1))
    else (
      some v1))
def X12_firstOf_l2 : Nat → Int32 → Int32 → Option Int32
  | 0 => fun _ _ => none
  | n + 1 => X12_firstOf_b2 (X12_firstOf_l2 n)
def X12_firstOf_b0 (v0 : Int32) : Option Int32 :=
  X12_firstOf_l2 FU v0 0
def X12_firstOf (v0 : Int32) : Option Int32 := X12_firstOf_b0 v0
def X12_feed_b0 (k0 : Nat) (v1 : Int32) (σ : Mem) : Option (Int32 × Mem) :=
  if (X12_in (Int32.toInt64 v1) 0 255) = 0 then (
    some ((-1000001), σ))
  else (
    if (σ k0 10) = 130 then (
      some ((-1000003), σ))
    else (
      gdx (σ k0 10) 130 (
        letv (wr σ (k0 + 8) (nc (σ k0 10)) v1) (fun σ4 =>
        letv (wr σ4 k0 10 ((σ4 k0 10) + 1)) (fun σ5 =>
        some (σ5 k0 10, σ5))))))
def X12_feed (k0 : Nat) (v1 : Int32) (σ : Mem) : Option (Int32 × Mem) := X12_feed_b0 k0 v1 σ
def X12_bad_b0 (k0 : Nat) (v1 : Int32) (σ : Mem) : Option Mem :=
  if (σ k0 15) = 0 then (
    letv (wr σ k0 15 v1) (fun σ2 =>
      some (wr σ2 k0 16 (σ2 k0 12))))
  else (
    some σ)
def X12_bad (k0 : Nat) (v1 : Int32) (σ : Mem) : Option Mem := X12_bad_b0 k0 v1 σ
def X12_nextToken_b255 (k0 : Nat) (σ : Mem) : Option Mem :=
  if ((σ k0 11) - (σ k0 12)) ≤ 2 then (
    some (wr σ k0 13 3))
  else (
    some (wr σ k0 13 0))
def X12_nextToken_b239 (K165 : Nat → Mem → Option Mem) (k0 : Nat) (s0 : Nat) (s1 : Int32) (σ : Mem) : Option Mem :=
  letv (wr σ s0 14 s1) (fun σ1 =>
    K165 k0 (wr σ1 k0 11 ((σ1 k0 11) + 1)))
def X12_nextToken_b165 (K165 : Nat → Mem → Option Mem) (k0 : Nat) (σ : Mem) : Option Mem :=
  if (σ k0 10) ≤ (σ k0 11) then (
    X12_nextToken_b255 k0 σ)
  else (
    gdx (σ k0 11) 130 (
      if (X12_in (Int32.toInt64 (σ (k0 + 8) (nc (σ k0 11)))) 48 57) = 0 then (
      X12_nextToken_b255 k0 σ)
    else (
      if 2 ≤ ((σ k0 11) - (σ k0 12)) then (
        X12_nextToken_b239 K165 k0 k0 (σ k0 14) σ)
      else (
        gdx (σ k0 11) 130 (
          X12_nextToken_b239 K165 k0 k0 (((10 * (σ k0 14)) + (σ (k0 + 8) (nc (σ k0 11)))) - 48) σ)))))
def X12_nextToken_l165 : Nat → Nat → Mem → Option Mem
  | 0 => fun _ _ => none
  | n + 1 => X12_nextToken_b165 (X12_nextToken_l165 n)
def X12_nextToken_b142 (k0 : Nat) (s0 : Nat) (s1 : Int32) (s2 : Int32) (σ : Mem) : Option Mem :=
  letv (wr σ s0 11 (s1 + s2)) (fun σ1 =>
    if (σ1 k0 13) = 3 then (
    X12_nextToken_l165 FU k0 (wr σ1 k0 14 ((σ1 k0 14) - 48)))
  else (
    some σ1))
def X12_nextToken_b118 (k0 : Nat) (s0 : Nat) (s1 : Int32) (σ : Mem) : Option Mem :=
  letv (wr σ s0 13 s1) (fun σ1 =>
    if (σ1 k0 10) ≤ (σ1 k0 11) then (
    X12_nextToken_b142 k0 k0 (σ1 k0 11) 0 σ1)
  else (
    X12_nextToken_b142 k0 k0 (σ1 k0 11) 1 σ1))
def X12_nextToken_b113 (k0 : Nat) (s0 : Nat) (σ : Mem) : Option Mem :=
  X12_nextToken_b118 k0 s0 4 σ
def X12_nextToken_b34 (k0 : Nat) (s0 : Nat) (s1 : Int32) (σ : Mem) : Option Mem :=
  letv (wr σ s0 14 s1) (fun σ1 =>
    if (σ1 k0 11) = (σ1 k0 10) then (
    X12_nextToken_b118 k0 k0 1 σ1)
  else (
    if (X12_in (Int32.toInt64 (σ1 k0 14)) 97 122) = 0 then (
      if (X12_in (Int32.toInt64 (σ1 k0 14)) 48 57) = 0 then (
        if (σ1 k0 14) = 44 then (
          X12_nextToken_b113 k0 k0 σ1)
        else (
          if (σ1 k0 14) = 59 then (
            X12_nextToken_b113 k0 k0 σ1)
          else (
            X12_nextToken_b118 k0 k0 0 σ1)))
      else (
        X12_nextToken_b118 k0 k0 3 σ1))
    else (
      X12_nextToken_b118 k0 k0 2 σ1)))
def X12_nextToken_b0 (k0 : Nat) (σ : Mem) : Option Mem :=
  letv (wr σ k0 12 (σ k0 11)) (fun σ1 =>
    if (σ1 k0 10) ≤ (σ1 k0 11) then (
    X12_nextToken_b34 k0 k0 (-1000000) σ1)
  else (
    gdx (σ1 k0 11) 130 (
      X12_nextToken_b34 k0 k0 (σ1 (k0 + 8) (nc (σ1 k0 11))) σ1)))
def X12_nextToken (k0 : Nat) (σ : Mem) : Option Mem := X12_nextToken_b0 k0 σ
def X12_must_b9 (k0 : Nat) (σ : Mem) : Option Mem :=
  if (σ k0 15) = 0 then (
    ob (X12_nextToken k0 σ) (fun σ2 =>
      some σ2))
  else (
    some σ)
def X12_must_b0 (k0 : Nat) (v1 : Int32) (σ : Mem) : Option Mem :=
  if v1 = 0 then (
    ob (X12_bad k0 1 σ) (fun σ2 =>
      X12_must_b9 k0 σ2))
  else (
    X12_must_b9 k0 σ)
def X12_must (k0 : Nat) (v1 : Int32) (σ : Mem) : Option Mem := X12_must_b0 k0 v1 σ
def X12_number_b62 (k0 : Nat) (s0 : Int32) (σ : Mem) : Option (Int32 × Mem) :=
  ob (X12_must k0 1 σ) (fun σ1 =>
    some (s0, σ1))
def X12_number_b47 (k0 : Nat) (v1 : Int32) (σ : Mem) : Option (Int32 × Mem) :=
  if (σ k0 15) = 0 then (
    X12_number_b62 k0 (σ k0 14) σ)
  else (
    X12_number_b62 k0 v1 σ)
def X12_number_b20 (k0 : Nat) (v1 : Int32) (v2 : Int32) (σ : Mem) : Option (Int32 × Mem) :=
  if (σ k0 15) = 0 then (
    if (X12_in (Int32.toInt64 (σ k0 14)) (Int32.toInt64 v1) (Int32.toInt64 v2)) = 0 then (
      ob (X12_bad k0 2 σ) (fun σ3 =>
        X12_number_b47 k0 v1 σ3))
    else (
      X12_number_b47 k0 v1 σ))
  else (
    X12_number_b47 k0 v1 σ)
def X12_number_b0 (k0 : Nat) (v1 : Int32) (v2 : Int32) (σ : Mem) : Option (Int32 × Mem) :=
  if (σ k0 15) = 0 then (
    if (σ k0 13) = 3 then (
      X12_number_b20 k0 v1 v2 σ)
    else (
      ob (X12_bad k0 1 σ) (fun σ3 =>
        X12_number_b20 k0 v1 v2 σ3)))
  else (
    X12_number_b20 k0 v1 v2 σ)
def X12_number (k0 : Nat) (v1 : Int32) (v2 : Int32) (σ : Mem) : Option (Int32 × Mem) := X12_number_b0 k0 v1 v2 σ
def X12_mustSign_b22 (s0 : Nat) (s1 : Int32) (σ : Mem) : Option Mem :=
  ob (X12_must s0 s1 σ) (fun σ1 =>
    some σ1)
def X12_mustSign_b21 (s0 : Nat) (σ : Mem) : Option Mem :=
  X12_mustSign_b22 s0 0 σ
def X12_mustSign_b0 (k0 : Nat) (v1 : Int32) (σ : Mem) : Option Mem :=
  if (σ k0 13) = 4 then (
    if (σ k0 14) = v1 then (
      X12_mustSign_b22 k0 1 σ)
    else (
      X12_mustSign_b21 k0 σ))
  else (
    X12_mustSign_b21 k0 σ)
def X12_mustSign (k0 : Nat) (v1 : Int32) (σ : Mem) : Option Mem := X12_mustSign_b0 k0 v1 σ
def X12_sortOf_b0 (v0 : Int32) : Int32 :=
  if v0 = 112 then (
    1)
  else (
    if v0 = 102 then (
      2)
    else (
      if v0 = 114 then (
        3)
      else (
        if v0 = 99 then (
          4)
        else (
          if v0 = 103 then (
            5)
          else (
            0)))))
def X12_sortOf (v0 : Int32) : Int32 := X12_sortOf_b0 v0
def X12_readPage_b48 (k0 : Nat) (v1 : Int32) (σ : Mem) : Option Mem :=
  if (σ k0 15) ≤ 0 then (
    letv (3 + (4 * (σ (k0 + 5) (nc 0)))) (fun x2 =>
      ob (X12_nextToken k0 σ) (fun σ3 =>
      gdx x2 43 (
      ob2 (X12_number k0 0 30 (wr σ3 (k0 + 5) (nc x2) v1)) (fun r5 σ6 =>
      gdx (x2 + 1) 43 (
      ob (X12_mustSign k0 44 (wr σ6 (k0 + 5) (nc (x2 + 1)) r5)) (fun σ8 =>
      ob2 (X12_number k0 0 30 σ8) (fun r9 σ10 =>
      gdx (x2 + 2) 43 (
      ob (X12_mustSign k0 44 (wr σ10 (k0 + 5) (nc (x2 + 2)) r9)) (fun σ12 =>
      ob2 (X12_number k0 0 30 σ12) (fun r13 σ14 =>
      gdx (x2 + 3) 43 (
      ob (X12_mustSign k0 59 (wr σ14 (k0 + 5) (nc (x2 + 3)) r13)) (fun σ16 =>
      some (wr σ16 (k0 + 5) (nc 0) ((σ16 (k0 + 5) (nc 0)) + 1)))))))))))))))
  else (
    some σ)
def X12_readPage_b19 (k0 : Nat) (s0 : Int32) (σ : Mem) : Option Mem :=
  if s0 = 0 then (
    ob (X12_bad k0 1 σ) (fun σ4 =>
      X12_readPage_b48 k0 s0 σ4))
  else (
    if (σ (k0 + 5) (nc 0)) = 10 then (
      ob (X12_bad k0 3 σ) (fun σ3 =>
        X12_readPage_b48 k0 s0 σ3))
    else (
      X12_readPage_b48 k0 s0 σ))
def X12_readPage_b0 (k0 : Nat) (σ : Mem) : Option Mem :=
  if (σ k0 13) = 2 then (
    X12_readPage_b19 k0 (X12_sortOf (σ k0 14)) σ)
  else (
    X12_readPage_b19 k0 0 σ)
def X12_readPage (k0 : Nat) (σ : Mem) : Option Mem := X12_readPage_b0 k0 σ
def X12_book_b171 (K171 : Nat → Int32 → Mem → Option (Int32 × Mem)) (k0 : Nat) (v1 : Int32) (σ : Mem) : Option (Int32 × Mem) :=
  if 43 ≤ v1 then (
    some (σ (k0 + 4) (nc 0), σ))
  else (
    gdx v1 43 (
      gdx v1 43 (
      K171 k0 (v1 + 1) (wr σ (k0 + 4) (nc v1) (σ (k0 + 5) (nc v1))))))
def X12_book_l171 : Nat → Nat → Int32 → Mem → Option (Int32 × Mem)
  | 0 => fun _ _ _ => none
  | n + 1 => X12_book_b171 (X12_book_l171 n)
def X12_book_b136 (k0 : Nat) (σ : Mem) : Option (Int32 × Mem) :=
  letv (wr σ k0 10 0) (fun σ1 =>
    if (σ1 k0 15) ≤ 0 then (
    X12_book_l171 FU k0 0 (wr σ1 k0 8 0))
  else (
    letv (wr σ1 k0 17 (σ1 k0 15)) (fun σ3 =>
      some ((-1000100) - (σ3 k0 16), σ3))))
def X12_book_b126 (K101 : Nat → Int32 → Mem → Option (Int32 × Mem)) (k0 : Nat) (v1 : Int32) (σ : Mem) : Option (Int32 × Mem) :=
  ob (X12_readPage k0 σ) (fun σ1 =>
    K101 k0 (v1 + 1) σ1)
def X12_book_b101 (K101 : Nat → Int32 → Mem → Option (Int32 × Mem)) (k0 : Nat) (v1 : Int32) (σ : Mem) : Option (Int32 × Mem) :=
  if 10 < v1 then (
    X12_book_b136 k0 σ)
  else (
    if (σ k0 15) = 0 then (
      if v1 = 0 then (
        X12_book_b126 K101 k0 v1 σ)
      else (
        if (σ k0 13) = 1 then (
          X12_book_b136 k0 σ)
        else (
          X12_book_b126 K101 k0 v1 σ)))
    else (
      X12_book_b136 k0 σ))
def X12_book_l101 : Nat → Nat → Int32 → Mem → Option (Int32 × Mem)
  | 0 => fun _ _ _ => none
  | n + 1 => X12_book_b101 (X12_book_l101 n)
def X12_book_b58 (k0 : Nat) (s0 : Nat) (s1 : Int32) (σ : Mem) : Option (Int32 × Mem) :=
  ob (X12_must s0 s1 σ) (fun σ1 =>
    ob2 (X12_number k0 0 60 σ1) (fun r2 σ3 =>
    ob (X12_mustSign k0 44 (wr σ3 (k0 + 5) (nc 1) r2)) (fun σ4 =>
    ob2 (X12_number k0 0 20 σ4) (fun r5 σ6 =>
    ob (X12_mustSign k0 59 (wr σ6 (k0 + 5) (nc 2) r5)) (fun σ7 =>
    X12_book_l101 FU k0 0 σ7)))))
def X12_book_b57 (k0 : Nat) (s0 : Nat) (σ : Mem) : Option (Int32 × Mem) :=
  X12_book_b58 k0 s0 0 σ
def X12_book_b16 (K16 : Nat → Int32 → Mem → Option (Int32 × Mem)) (k0 : Nat) (v1 : Int32) (σ : Mem) : Option (Int32 × Mem) :=
  if 43 ≤ v1 then (
    if (σ k0 13) = 2 then (
      if (σ k0 14) = 104 then (
        X12_book_b58 k0 k0 1 σ)
      else (
        X12_book_b57 k0 k0 σ))
    else (
      X12_book_b57 k0 k0 σ))
  else (
    gdx v1 43 (
      K16 k0 (v1 + 1) (wr σ (k0 + 5) (nc v1) 0)))
def X12_book_l16 : Nat → Nat → Int32 → Mem → Option (Int32 × Mem)
  | 0 => fun _ _ _ => none
  | n + 1 => X12_book_b16 (X12_book_l16 n)
def X12_book_b0 (k0 : Nat) (σ : Mem) : Option (Int32 × Mem) :=
  letv (wr σ k0 11 0) (fun σ1 =>
    ob (X12_nextToken k0 (wr σ1 k0 15 0)) (fun σ2 =>
    X12_book_l16 FU k0 0 σ2))
def X12_book (k0 : Nat) (σ : Mem) : Option (Int32 × Mem) := X12_book_b0 k0 σ
def X12_fault_b0 (k0 : Nat) (σ : Mem) : Int32 :=
  σ k0 17
def X12_fault (k0 : Nat) (σ : Mem) : Int32 := X12_fault_b0 k0 σ
def X12_keeps_b51 (K51 : Nat → Int32 → Mem → Option Mem) (k0 : Nat) (v1 : Int32) (σ : Mem) : Option Mem :=
  if 43 ≤ v1 then (
    some (wr σ k0 8 ((σ k0 8) + 1)))
  else (
    gdx v1 43 (
      gdx ((43 * (σ k0 8)) + v1) 1032 (
      K51 k0 (v1 + 1) (wr σ (k0 + 7) (nc ((43 * (σ k0 8)) + v1)) (σ (k0 + 4) (nc v1))))))
def X12_keeps_l51 : Nat → Nat → Int32 → Mem → Option Mem
  | 0 => fun _ _ _ => none
  | n + 1 => X12_keeps_b51 (X12_keeps_l51 n)
def X12_keeps_b49 (k0 : Nat) (σ : Mem) : Option Mem :=
  X12_keeps_l51 FU k0 0 σ
def X12_keeps_b11 (K11 : Nat → Int32 → Mem → Option Mem) (k0 : Nat) (v1 : Int32) (σ : Mem) : Option Mem :=
  if 989 ≤ v1 then (
    X12_keeps_b49 k0 (wr σ k0 8 ((σ k0 8) - 1)))
  else (
    gdx (v1 + 43) 1032 (
      gdx v1 1032 (
      K11 k0 (v1 + 1) (wr σ (k0 + 7) (nc v1) (σ (k0 + 7) (nc (v1 + 43)))))))
def X12_keeps_l11 : Nat → Nat → Int32 → Mem → Option Mem
  | 0 => fun _ _ _ => none
  | n + 1 => X12_keeps_b11 (X12_keeps_l11 n)
def X12_keeps_b0 (k0 : Nat) (σ : Mem) : Option Mem :=
  if (σ k0 8) = 24 then (
    X12_keeps_l11 FU k0 0 σ)
  else (
    X12_keeps_b49 k0 σ)
def X12_keeps (k0 : Nat) (σ : Mem) : Option Mem := X12_keeps_b0 k0 σ
def X12_undo_b22 (K22 : Nat → Int32 → Mem → Option (Int32 × Mem)) (k0 : Nat) (v1 : Int32) (σ : Mem) : Option (Int32 × Mem) :=
  if 43 ≤ v1 then (
    some (σ k0 8, σ))
  else (
    gdx ((43 * (σ k0 8)) + v1) 1032 (
      gdx v1 43 (
      K22 k0 (v1 + 1) (wr σ (k0 + 4) (nc v1) (σ (k0 + 7) (nc ((43 * (σ k0 8)) + v1)))))))
def X12_undo_l22 : Nat → Nat → Int32 → Mem → Option (Int32 × Mem)
  | 0 => fun _ _ _ => none
  | n + 1 => X12_undo_b22 (X12_undo_l22 n)
def X12_undo_b0 (k0 : Nat) (σ : Mem) : Option (Int32 × Mem) :=
  if (σ k0 8) = 0 then (
    some ((-1000002), σ))
  else (
    X12_undo_l22 FU k0 0 (wr σ k0 8 ((σ k0 8) - 1)))
def X12_undo (k0 : Nat) (σ : Mem) : Option (Int32 × Mem) := X12_undo_b0 k0 σ
def X12_opens_b10 (K10 : Nat → Int32 → Int32 → Mem → Option Mem) (k0 : Nat) (v1 : Int32) (v2 : Int32) (σ : Mem) : Option Mem :=
  if v2 < (3 + (4 * v1)) then (
    some (wr σ k0 (nc 0) ((σ k0 (nc 0)) + 1)))
  else (
    gdx v2 43 (
      gdx (v2 + 4) 43 (
      K10 k0 v1 (v2 + (-1)) (wr σ k0 (nc (v2 + 4)) (σ k0 (nc v2))))))
def X12_opens_l10 : Nat → Nat → Int32 → Int32 → Mem → Option Mem
  | 0 => fun _ _ _ _ => none
  | n + 1 => X12_opens_b10 (X12_opens_l10 n)
def X12_opens_b0 (k0 : Nat) (v1 : Int32) (σ : Mem) : Option Mem :=
  letv ((3 + (4 * (σ k0 (nc 0)))) - 1) (fun x1 =>
    X12_opens_l10 FU k0 v1 x1 σ)
def X12_opens (k0 : Nat) (v1 : Int32) (σ : Mem) : Option Mem := X12_opens_b0 k0 v1 σ
def X12_closes_b6 (K6 : Nat → Int32 → Mem → Option Mem) (k0 : Nat) (v2 : Int32) (σ : Mem) : Option Mem :=
  if ((3 + (4 * (σ k0 (nc 0)))) - 4) ≤ v2 then (
    some (wr σ k0 (nc 0) ((σ k0 (nc 0)) - 1)))
  else (
    gdx (v2 + 4) 43 (
      gdx v2 43 (
      K6 k0 (v2 + 1) (wr σ k0 (nc v2) (σ k0 (nc (v2 + 4)))))))
def X12_closes_l6 : Nat → Nat → Int32 → Mem → Option Mem
  | 0 => fun _ _ _ => none
  | n + 1 => X12_closes_b6 (X12_closes_l6 n)
def X12_closes_b0 (k0 : Nat) (v1 : Int32) (σ : Mem) : Option Mem :=
  letv (3 + (4 * v1)) (fun x1 =>
    X12_closes_l6 FU k0 x1 σ)
def X12_closes (k0 : Nat) (v1 : Int32) (σ : Mem) : Option Mem := X12_closes_b0 k0 v1 σ
def X12_lays_b0 (k0 : Nat) (v1 : Int32) (v2 : Int32) (v3 : Int32) (v4 : Int32) (v5 : Int32) (σ : Mem) : Option Mem :=
  letv (3 + (4 * v1)) (fun x1 =>
    gdx x1 43 (
    letv (wr σ k0 (nc x1) v2) (fun σ3 =>
    gdx (x1 + 1) 43 (
    letv (wr σ3 k0 (nc (x1 + 1)) v3) (fun σ5 =>
    gdx (x1 + 2) 43 (
    letv (wr σ5 k0 (nc (x1 + 2)) v4) (fun σ7 =>
    gdx (x1 + 3) 43 (
    some (wr σ7 k0 (nc (x1 + 3)) v5)))))))))
def X12_lays (k0 : Nat) (v1 : Int32) (v2 : Int32) (v3 : Int32) (v4 : Int32) (v5 : Int32) (σ : Mem) : Option Mem := X12_lays_b0 k0 v1 v2 v3 v4 v5 σ
def X12_put_b0 (k0 : Nat) (v1 : Int32) (v2 : Int32) (v3 : Int32) (v4 : Int32) (v5 : Int32) (σ : Mem) : Option (Int32 × Mem) :=
  ob (X12_isThere k0 σ) (fun r1 =>
    if r1 = 0 then (
    some ((-1000002), σ))
  else (
    if (X12_in (Int32.toInt64 v1) 0 (Int32.toInt64 (σ (k0 + 4) (nc 0)))) = 0 then (
      some ((-1000001), σ))
    else (
      if (X12_in (Int32.toInt64 v2) 1 5) = 0 then (
        some ((-1000001), σ))
      else (
        if (X12_in (Int32.toInt64 v3) 0 30) = 0 then (
          some ((-1000001), σ))
        else (
          if (X12_in (Int32.toInt64 v4) 0 30) = 0 then (
            some ((-1000001), σ))
          else (
            if (X12_in (Int32.toInt64 v5) 0 30) = 0 then (
              some ((-1000001), σ))
            else (
              if (σ (k0 + 4) (nc 0)) = 10 then (
                some ((-1000003), σ))
              else (
                ob (X12_keeps k0 σ) (fun σ9 =>
                  ob (X12_opens (k0 + 4) v1 σ9) (fun σ10 =>
                  ob (X12_lays (k0 + 4) v1 v2 v3 v4 v5 σ10) (fun σ11 =>
                  some (σ11 (k0 + 4) (nc 0), σ11))))))))))))
def X12_put (k0 : Nat) (v1 : Int32) (v2 : Int32) (v3 : Int32) (v4 : Int32) (v5 : Int32) (σ : Mem) : Option (Int32 × Mem) := X12_put_b0 k0 v1 v2 v3 v4 v5 σ
def X12_take_b0 (k0 : Nat) (v1 : Int32) (σ : Mem) : Option (Int32 × Mem) :=
  ob (X12_isPage k0 v1 σ) (fun r1 =>
    if r1 = 0 then (
    some ((-1000001), σ))
  else (
    if (σ (k0 + 4) (nc 0)) = 1 then (
      some ((-1000002), σ))
    else (
      ob (X12_keeps k0 σ) (fun σ4 =>
        ob (X12_closes (k0 + 4) v1 σ4) (fun σ5 =>
        some (σ5 (k0 + 4) (nc 0), σ5))))))
def X12_take (k0 : Nat) (v1 : Int32) (σ : Mem) : Option (Int32 × Mem) := X12_take_b0 k0 v1 σ
def X12_move_b0 (k0 : Nat) (v1 : Int32) (v2 : Int32) (σ : Mem) : Option (Int32 × Mem) :=
  ob (X12_isPage k0 v1 σ) (fun r1 =>
    if r1 = 0 then (
    some ((-1000001), σ))
  else (
    ob (X12_isPage k0 v2 σ) (fun r3 =>
      if r3 = 0 then (
      some ((-1000001), σ))
    else (
      if v1 = v2 then (
        some ((-1000002), σ))
      else (
        ob (X12_keeps k0 σ) (fun σ6 =>
          letv (3 + (4 * v1)) (fun x7 =>
          gdx x7 43 (
          letv (σ6 (k0 + 4) (nc x7)) (fun x9 =>
          gdx (x7 + 1) 43 (
          letv (σ6 (k0 + 4) (nc (x7 + 1))) (fun x11 =>
          gdx (x7 + 2) 43 (
          letv (σ6 (k0 + 4) (nc (x7 + 2))) (fun x13 =>
          gdx (x7 + 3) 43 (
          letv (σ6 (k0 + 4) (nc (x7 + 3))) (fun x15 =>
          ob (X12_closes (k0 + 4) v1 σ6) (fun σ16 =>
          ob (X12_opens (k0 + 4) v2 σ16) (fun σ17 =>
          ob (X12_lays (k0 + 4) v2 x9 x11 x13 x15 σ17) (fun σ18 =>
          some (x9, σ18)))))))))))))))))))
def X12_move (k0 : Nat) (v1 : Int32) (v2 : Int32) (σ : Mem) : Option (Int32 × Mem) := X12_move_b0 k0 v1 v2 σ
def X12_measure_b0 (k0 : Nat) (v1 : Int32) (v2 : Int32) (v3 : Int32) (σ : Mem) : Option (Int32 × Mem) :=
  ob (X12_isPage k0 v1 σ) (fun r1 =>
    if r1 = 0 then (
    some ((-1000001), σ))
  else (
    if (X12_in (Int32.toInt64 v2) 0 2) = 0 then (
      some ((-1000001), σ))
    else (
      if (X12_in (Int32.toInt64 v3) 0 30) = 0 then (
        some ((-1000001), σ))
      else (
        letv (((3 + (4 * v1)) + 1) + v2) (fun x5 =>
          gdx x5 43 (
          letv (σ (k0 + 4) (nc x5)) (fun x7 =>
          ob (X12_keeps k0 σ) (fun σ8 =>
          gdx x5 43 (
          some (x7, wr σ8 (k0 + 4) (nc x5) v3))))))))))
def X12_measure (k0 : Nat) (v1 : Int32) (v2 : Int32) (v3 : Int32) (σ : Mem) : Option (Int32 × Mem) := X12_measure_b0 k0 v1 v2 v3 σ
def X12_kindOf_b0 (k0 : Nat) (v1 : Int32) (σ : Mem) : Option Int32 :=
  gdx (3 + (4 * v1)) 43 (
    some (σ k0 (nc (3 + (4 * v1)))))
def X12_kindOf (k0 : Nat) (v1 : Int32) (σ : Mem) : Option Int32 := X12_kindOf_b0 k0 v1 σ
def X12_become_b0 (k0 : Nat) (v1 : Int32) (v2 : Int32) (σ : Mem) : Option (Int32 × Mem) :=
  ob (X12_isPage k0 v1 σ) (fun r1 =>
    if r1 = 0 then (
    some ((-1000001), σ))
  else (
    if (X12_in (Int32.toInt64 v2) 1 5) = 0 then (
      some ((-1000001), σ))
    else (
      ob (X12_kindOf (k0 + 4) v1 σ) (fun r4 =>
        if r4 = v2 then (
        some ((-1000002), σ))
      else (
        ob (X12_keeps k0 σ) (fun σ6 =>
          gdx (3 + (4 * v1)) 43 (
          some (r4, wr σ6 (k0 + 4) (nc (3 + (4 * v1))) v2))))))))
def X12_become (k0 : Nat) (v1 : Int32) (v2 : Int32) (σ : Mem) : Option (Int32 × Mem) := X12_become_b0 k0 v1 v2 σ
def X12_law_b36 (k0 : Nat) (v1 : Int32) (v2 : Int32) (s0 : Int64) (s1 : Int64) (s2 : Int64) (σ : Mem) : Option (Int32 × Mem) :=
  if (X12_in s0 s1 s2) = 0 then (
    some ((-1000001), σ))
  else (
    gdx (1 + v1) 43 (
      letv (σ (k0 + 4) (nc (1 + v1))) (fun x3 =>
      ob (X12_keeps k0 σ) (fun σ4 =>
      gdx (1 + v1) 43 (
      some (x3, wr σ4 (k0 + 4) (nc (1 + v1)) v2))))))
def X12_law_b0 (k0 : Nat) (v1 : Int32) (v2 : Int32) (σ : Mem) : Option (Int32 × Mem) :=
  ob (X12_isThere k0 σ) (fun r1 =>
    if r1 = 0 then (
    some ((-1000002), σ))
  else (
    if (X12_in (Int32.toInt64 v1) 0 1) = 0 then (
      some ((-1000001), σ))
    else (
      if v1 = 0 then (
        X12_law_b36 k0 v1 v2 (Int32.toInt64 v2) 0 60 σ)
      else (
        X12_law_b36 k0 v1 v2 (Int32.toInt64 v2) 0 20 σ))))
def X12_law (k0 : Nat) (v1 : Int32) (v2 : Int32) (σ : Mem) : Option (Int32 × Mem) := X12_law_b0 k0 v1 v2 σ
def X12_awayBy_b0 (k0 : Nat) (v1 : Int32) (v2 : Int32) (v3 : Int32) (σ : Mem) : Option Int32 :=
  gdx (((3 + (4 * v1)) + 1) + v3) 43 (
    gdx (((3 + (4 * v2)) + 1) + v3) 43 (
    letv ((σ k0 (nc (((3 + (4 * v1)) + 1) + v3))) - (σ k0 (nc (((3 + (4 * v2)) + 1) + v3)))) (fun x3 =>
    if 0 ≤ x3 then (
    some x3)
  else (
    some (-x3)))))
def X12_awayBy (k0 : Nat) (v1 : Int32) (v2 : Int32) (v3 : Int32) (σ : Mem) : Option Int32 := X12_awayBy_b0 k0 v1 v2 v3 σ
def X12_givenBy_b24 (v0 : Int32) (v1 : Int32) (v2 : Int32) (v3 : Int32) (s0 : Int32) : Int32 :=
  if v0 = 1 then (
    (v1 + v2) + v3)
  else (
    if v0 = 2 then (
      v1 + v2)
    else (
      if v0 = 3 then (
        (v1 + (v2 / 2)) + v3)
      else (
        if v0 = 4 then (
          s0)
        else (
          s0 + 5))))
def X12_givenBy_b10 (v0 : Int32) (v1 : Int32) (v2 : Int32) (v3 : Int32) (s0 : Int32) : Int32 :=
  if s0 ≤ v3 then (
    X12_givenBy_b24 v0 v1 v2 v3 v3)
  else (
    X12_givenBy_b24 v0 v1 v2 v3 s0)
def X12_givenBy_b0 (v0 : Int32) (v1 : Int32) (v2 : Int32) (v3 : Int32) : Int32 :=
  if v1 ≤ v2 then (
    X12_givenBy_b10 v0 v1 v2 v3 v2)
  else (
    X12_givenBy_b10 v0 v1 v2 v3 v1)
def X12_givenBy (v0 : Int32) (v1 : Int32) (v2 : Int32) (v3 : Int32) : Int32 := X12_givenBy_b0 v0 v1 v2 v3
def X12_farOf_b0 (k0 : Nat) (v1 : Int32) (v2 : Int32) (σ : Mem) : Option Int32 :=
  ob (X12_awayBy k0 v1 v2 0 σ) (fun r1 =>
    ob (X12_awayBy k0 v1 v2 1 σ) (fun r2 =>
    ob (X12_awayBy k0 v1 v2 2 σ) (fun r3 =>
    ob (X12_kindOf k0 v1 σ) (fun r4 =>
    letv (X12_givenBy r4 r1 r2 r3) (fun x5 =>
    ob (X12_kindOf k0 v2 σ) (fun r6 =>
    letv (X12_givenBy r6 r1 r2 r3) (fun x7 =>
    if x7 ≤ x5 then (
    some x7)
  else (
    some x5))))))))
def X12_farOf (k0 : Nat) (v1 : Int32) (v2 : Int32) (σ : Mem) : Option Int32 := X12_farOf_b0 k0 v1 v2 σ
def X12_spreadOf_b73 (K4 : Nat → Int32 → Int32 → Int32 → Mem → Option Int32) (k0 : Nat) (v1 : Int32) (v2 : Int32) (v3 : Int32) (σ : Mem) : Option Int32 :=
  K4 k0 v1 v2 (v3 + 1) σ
def X12_spreadOf_b66 (K4 : Nat → Int32 → Int32 → Int32 → Mem → Option Int32) (K16 : Nat → Int32 → Int32 → Int32 → Int32 → Mem → Option Int32) (k0 : Nat) (v1 : Int32) (v3 : Int32) (v4 : Int32) (s0 : Int32) (σ : Mem) : Option Int32 :=
  K16 k0 v1 s0 v3 (v4 + 1) σ
def X12_spreadOf_b52 (K4 : Nat → Int32 → Int32 → Int32 → Mem → Option Int32) (K16 : Nat → Int32 → Int32 → Int32 → Int32 → Mem → Option Int32) (k0 : Nat) (v1 : Int32) (v2 : Int32) (v3 : Int32) (v4 : Int32) (s0 : Int32) (σ : Mem) : Option Int32 :=
  if s0 ≤ v2 then (
    X12_spreadOf_b66 K4 K16 k0 v1 v3 v4 v2 σ)
  else (
    X12_spreadOf_b66 K4 K16 k0 v1 v3 v4 s0 σ)
def X12_spreadOf_b16 (K4 : Nat → Int32 → Int32 → Int32 → Mem → Option Int32) (K16 : Nat → Int32 → Int32 → Int32 → Int32 → Mem → Option Int32) (k0 : Nat) (v1 : Int32) (v2 : Int32) (v3 : Int32) (v4 : Int32) (σ : Mem) : Option Int32 :=
  if (σ k0 (nc 0)) ≤ v4 then (
    X12_spreadOf_b73 K4 k0 v1 v2 v3 σ)
  else (
    if (X12_has v1 v3) = 0 then (
      X12_spreadOf_b73 K4 k0 v1 v2 v3 σ)
    else (
      if (X12_has v1 v4) = 0 then (
        X12_spreadOf_b52 K4 K16 k0 v1 v2 v3 v4 0 σ)
      else (
        ob (X12_farOf k0 v3 v4 σ) (fun r4 =>
          X12_spreadOf_b52 K4 K16 k0 v1 v2 v3 v4 r4 σ))))
def X12_spreadOf_l16 (K4 : Nat → Int32 → Int32 → Int32 → Mem → Option Int32) : Nat → Nat → Int32 → Int32 → Int32 → Int32 → Mem → Option Int32
  | 0 => fun _ _ _ _ _ _ => none
  | n + 1 => X12_spreadOf_b16 K4 (X12_spreadOf_l16 K4 n)
def X12_spreadOf_b4 (K4 : Nat → Int32 → Int32 → Int32 → Mem → Option Int32) (k0 : Nat) (v1 : Int32) (v2 : Int32) (v3 : Int32) (σ : Mem) : Option Int32 :=
  if (σ k0 (nc 0)) ≤ v3 then (
    some v2)
  else (
    letv (v3 + 1) (fun x2 =>
      X12_spreadOf_l16 K4 FU k0 v1 v2 v3 x2 σ))
def X12_spreadOf_l4 : Nat → Nat → Int32 → Int32 → Int32 → Mem → Option Int32
  | 0 => fun _ _ _ _ _ => none
  | n + 1 => X12_spreadOf_b4 (X12_spreadOf_l4 n)
def X12_spreadOf_b0 (k0 : Nat) (v1 : Int32) (σ : Mem) : Option Int32 :=
  X12_spreadOf_l4 FU k0 v1 0 0 σ
def X12_spreadOf (k0 : Nat) (v1 : Int32) (σ : Mem) : Option Int32 := X12_spreadOf_b0 k0 v1 σ
def X12_apart_b0 (k0 : Nat) (v1 : Int32) (v2 : Int32) (σ : Mem) : Option Int32 :=
  ob (X12_isPage k0 v1 σ) (fun r1 =>
    if r1 = 0 then (
    some (-1000001))
  else (
    ob (X12_isPage k0 v2 σ) (fun r3 =>
      if r3 = 0 then (
      some (-1000001))
    else (
      if v1 = v2 then (
        some (-1000001))
      else (
        ob (X12_farOf (k0 + 4) v1 v2 σ) (fun r6 =>
          some r6))))))
def X12_apart (k0 : Nat) (v1 : Int32) (v2 : Int32) (σ : Mem) : Option Int32 := X12_apart_b0 k0 v1 v2 σ
def X12_spread_b0 (k0 : Nat) (v1 : Int32) (σ : Mem) : Option Int32 :=
  ob (X12_isThere k0 σ) (fun r1 =>
    if r1 = 0 then (
    some (-1000002))
  else (
    ob (X12_allOf (k0 + 4) σ) (fun r3 =>
      if (X12_in (Int32.toInt64 v1) 1 (Int32.toInt64 r3)) = 0 then (
      some (-1000001))
    else (
      ob (X12_spreadOf (k0 + 4) v1 σ) (fun r5 =>
        some r5)))))
def X12_spread (k0 : Nat) (v1 : Int32) (σ : Mem) : Option Int32 := X12_spread_b0 k0 v1 σ
def X12_nextJoin_b103 (K14 : Nat → Int32 → Int32 → Int32 → Mem → Option Int32) (K29 : Nat → Int32 → Int32 → Int32 → Int32 → Mem → Option Int32) (k0 : Nat) (v1 : Int32) (v2 : Int32) (v3 : Int32) (v4 : Int32) (σ : Mem) : Option Int32 :=
  K29 k0 v1 v2 v3 (v4 + 1) σ
def X12_nextJoin_b84 (K14 : Nat → Int32 → Int32 → Int32 → Mem → Option Int32) (K29 : Nat → Int32 → Int32 → Int32 → Int32 → Mem → Option Int32) (k0 : Nat) (v1 : Int32) (v2 : Int32) (v3 : Int32) (v4 : Int32) (s0 : Int32) (σ : Mem) : Option Int32 :=
  if v2 ≤ s0 then (
    X12_nextJoin_b103 K14 K29 k0 v1 v2 v3 v4 σ)
  else (
    letv ((10 * v3) + v4) (fun x2 =>
      X12_nextJoin_b103 K14 K29 k0 x2 s0 v3 v4 σ))
def X12_nextJoin_b83 (K14 : Nat → Int32 → Int32 → Int32 → Mem → Option Int32) (K29 : Nat → Int32 → Int32 → Int32 → Int32 → Mem → Option Int32) (k0 : Nat) (v1 : Int32) (v2 : Int32) (v3 : Int32) (v4 : Int32) (σ : Mem) : Option Int32 :=
  X12_nextJoin_b84 K14 K29 k0 v1 v2 v3 v4 v2 σ
def X12_nextJoin_b29 (K14 : Nat → Int32 → Int32 → Int32 → Mem → Option Int32) (K29 : Nat → Int32 → Int32 → Int32 → Int32 → Mem → Option Int32) (k0 : Nat) (v1 : Int32) (v2 : Int32) (v3 : Int32) (v4 : Int32) (σ : Mem) : Option Int32 :=
  if (σ (k0 + 4) (nc 0)) ≤ v4 then (
    K14 k0 v1 v2 (v3 + 1) σ)
  else (
    gdx v3 10 (
      if (σ (k0 + 9) (nc v3)) ≤ 0 then (
      X12_nextJoin_b83 K14 K29 k0 v1 v2 v3 v4 σ)
    else (
      gdx v4 10 (
        if (σ (k0 + 9) (nc v4)) ≤ 0 then (
        X12_nextJoin_b83 K14 K29 k0 v1 v2 v3 v4 σ)
      else (
        gdx v3 10 (
          gdx v4 10 (
          ob (X12_spreadOf (k0 + 4) ((σ (k0 + 9) (nc v3)) ||| (σ (k0 + 9) (nc v4))) σ) (fun r8 =>
          X12_nextJoin_b84 K14 K29 k0 v1 v2 v3 v4 r8 σ))))))))
def X12_nextJoin_l29 (K14 : Nat → Int32 → Int32 → Int32 → Mem → Option Int32) : Nat → Nat → Int32 → Int32 → Int32 → Int32 → Mem → Option Int32
  | 0 => fun _ _ _ _ _ _ => none
  | n + 1 => X12_nextJoin_b29 K14 (X12_nextJoin_l29 K14 n)
def X12_nextJoin_b14 (K14 : Nat → Int32 → Int32 → Int32 → Mem → Option Int32) (k0 : Nat) (v1 : Int32) (v2 : Int32) (v3 : Int32) (σ : Mem) : Option Int32 :=
  if (σ (k0 + 4) (nc 0)) ≤ v3 then (
    some v1)
  else (
    letv (v3 + 1) (fun x2 =>
      X12_nextJoin_l29 K14 FU k0 v1 v2 v3 x2 σ))
def X12_nextJoin_l14 : Nat → Nat → Int32 → Int32 → Int32 → Mem → Option Int32
  | 0 => fun _ _ _ _ _ => none
  | n + 1 => X12_nextJoin_b14 (X12_nextJoin_l14 n)
def X12_nextJoin_b0 (k0 : Nat) (σ : Mem) : Option Int32 :=
  letv ((σ (k0 + 4) (nc 1)) + 1) (fun x1 =>
    X12_nextJoin_l14 FU k0 (-1000000) x1 0 σ)
def X12_nextJoin (k0 : Nat) (σ : Mem) : Option Int32 := X12_nextJoin_b0 k0 σ
def X12_layGroups_b49 (K49 : Nat → Int32 → Int32 → Mem → Option (Int32 × Mem)) (k0 : Nat) (v1 : Int32) (v2 : Int32) (σ : Mem) : Option (Int32 × Mem) :=
  if v2 = (-1000000) then (
    some (v1, σ))
  else (
    if v1 ≤ 1 then (
      some (v1, σ))
    else (
      gdx (v2 / 10) 10 (
        gdx (irm v2 10) 10 (
        gdx (v2 / 10) 10 (
        letv (wr σ (k0 + 9) (nc (v2 / 10)) ((σ (k0 + 9) (nc (v2 / 10))) ||| (σ (k0 + 9) (nc (irm v2 10))))) (fun σ6 =>
        gdx (irm v2 10) 10 (
        ob (X12_nextJoin k0 (wr σ6 (k0 + 9) (nc (irm v2 10)) 0)) (fun r8 =>
        K49 k0 (v1 + (-1)) r8 (wr σ6 (k0 + 9) (nc (irm v2 10)) 0)))))))))
def X12_layGroups_l49 : Nat → Nat → Int32 → Int32 → Mem → Option (Int32 × Mem)
  | 0 => fun _ _ _ _ => none
  | n + 1 => X12_layGroups_b49 (X12_layGroups_l49 n)
def X12_layGroups_b30 (K2 : Nat → Int32 → Mem → Option (Int32 × Mem)) (k0 : Nat) (v1 : Int32) (s0 : Nat) (s1 : Int32) (s2 : Int32) (σ : Mem) : Option (Int32 × Mem) :=
  gdx s1 10 (
    K2 k0 (v1 + 1) (wr σ s0 (nc s1) s2))
def X12_layGroups_b2 (K2 : Nat → Int32 → Mem → Option (Int32 × Mem)) (k0 : Nat) (v1 : Int32) (σ : Mem) : Option (Int32 × Mem) :=
  if 10 ≤ v1 then (
    letv (σ (k0 + 4) (nc 0)) (fun x2 =>
      ob (X12_nextJoin k0 σ) (fun r3 =>
      X12_layGroups_l49 FU k0 x2 r3 σ)))
  else (
    if (σ (k0 + 4) (nc 0)) ≤ v1 then (
      X12_layGroups_b30 K2 k0 v1 (k0 + 9) v1 0 σ)
    else (
      X12_layGroups_b30 K2 k0 v1 (k0 + 9) v1 (shl 1 v1) σ))
def X12_layGroups_l2 : Nat → Nat → Int32 → Mem → Option (Int32 × Mem)
  | 0 => fun _ _ _ => none
  | n + 1 => X12_layGroups_b2 (X12_layGroups_l2 n)
def X12_layGroups_b0 (k0 : Nat) (σ : Mem) : Option (Int32 × Mem) :=
  X12_layGroups_l2 FU k0 0 σ
def X12_layGroups (k0 : Nat) (σ : Mem) : Option (Int32 × Mem) := X12_layGroups_b0 k0 σ
def X12_groupOf_b32 (K4 : Nat → Int32 → Int32 → Int32 → Mem → Option Int32) (k0 : Nat) (v1 : Int32) (v3 : Int32) (s0 : Int32) (σ : Mem) : Option Int32 :=
  K4 k0 v1 s0 (v3 + 1) σ
def X12_groupOf_b4 (K4 : Nat → Int32 → Int32 → Int32 → Mem → Option Int32) (k0 : Nat) (v1 : Int32) (v2 : Int32) (v3 : Int32) (σ : Mem) : Option Int32 :=
  if (σ (k0 + 4) (nc 0)) ≤ v3 then (
    some v2)
  else (
    gdx v3 10 (
      if (X12_has (σ (k0 + 9) (nc v3)) v1) = 0 then (
      X12_groupOf_b32 K4 k0 v1 v3 v2 σ)
    else (
      X12_groupOf_b32 K4 k0 v1 v3 v3 σ)))
def X12_groupOf_l4 : Nat → Nat → Int32 → Int32 → Int32 → Mem → Option Int32
  | 0 => fun _ _ _ _ _ => none
  | n + 1 => X12_groupOf_b4 (X12_groupOf_l4 n)
def X12_groupOf_b0 (k0 : Nat) (v1 : Int32) (σ : Mem) : Option Int32 :=
  X12_groupOf_l4 FU k0 v1 0 0 σ
def X12_groupOf (k0 : Nat) (v1 : Int32) (σ : Mem) : Option Int32 := X12_groupOf_b0 k0 v1 σ
def X12_layNear_b75 (K2 : Nat → Nat → Int32 → Int32 → Mem → Option Mem) (k0 : Nat) (k1 : Nat) (v2 : Int32) (v3 : Int32) (σ : Mem) : Option Mem :=
  K2 k0 k1 v2 (v3 + 1) σ
def X12_layNear_b67 (K2 : Nat → Nat → Int32 → Int32 → Mem → Option Mem) (K20 : Nat → Nat → Int32 → Int32 → Int32 → Mem → Option Mem) (k0 : Nat) (k1 : Nat) (v2 : Int32) (v3 : Int32) (v4 : Int32) (s0 : Nat) (s1 : Int32) (s2 : Int32) (s3 : Int32) (σ : Mem) : Option Mem :=
  gdx s1 10 (
    K20 k0 k1 v2 v3 (v4 + 1) (wr σ s0 (nc s1) (s2 ||| s3)))
def X12_layNear_b66 (K2 : Nat → Nat → Int32 → Int32 → Mem → Option Mem) (K20 : Nat → Nat → Int32 → Int32 → Int32 → Mem → Option Mem) (k0 : Nat) (k1 : Nat) (v2 : Int32) (v3 : Int32) (v4 : Int32) (s0 : Nat) (s1 : Int32) (s2 : Int32) (σ : Mem) : Option Mem :=
  X12_layNear_b67 K2 K20 k0 k1 v2 v3 v4 s0 s1 s2 0 σ
def X12_layNear_b20 (K2 : Nat → Nat → Int32 → Int32 → Mem → Option Mem) (K20 : Nat → Nat → Int32 → Int32 → Int32 → Mem → Option Mem) (k0 : Nat) (k1 : Nat) (v2 : Int32) (v3 : Int32) (v4 : Int32) (σ : Mem) : Option Mem :=
  if (σ k1 (nc 0)) ≤ v4 then (
    X12_layNear_b75 K2 k0 k1 v2 v3 σ)
  else (
    if (σ k1 (nc 0)) ≤ v3 then (
      X12_layNear_b75 K2 k0 k1 v2 v3 σ)
    else (
      gdx v3 10 (
        if v4 = v3 then (
        X12_layNear_b66 K2 K20 k0 k1 v2 v3 v4 (k0 + 10) v3 (σ (k0 + 10) (nc v3)) σ)
      else (
        ob (X12_farOf k1 v3 v4 σ) (fun r5 =>
          if v2 < r5 then (
          X12_layNear_b66 K2 K20 k0 k1 v2 v3 v4 (k0 + 10) v3 (σ (k0 + 10) (nc v3)) σ)
        else (
          X12_layNear_b67 K2 K20 k0 k1 v2 v3 v4 (k0 + 10) v3 (σ (k0 + 10) (nc v3)) (shl 1 v4) σ))))))
def X12_layNear_l20 (K2 : Nat → Nat → Int32 → Int32 → Mem → Option Mem) : Nat → Nat → Nat → Int32 → Int32 → Int32 → Mem → Option Mem
  | 0 => fun _ _ _ _ _ _ => none
  | n + 1 => X12_layNear_b20 K2 (X12_layNear_l20 K2 n)
def X12_layNear_b2 (K2 : Nat → Nat → Int32 → Int32 → Mem → Option Mem) (k0 : Nat) (k1 : Nat) (v2 : Int32) (v3 : Int32) (σ : Mem) : Option Mem :=
  if 10 ≤ v3 then (
    some σ)
  else (
    gdx v3 10 (
      X12_layNear_l20 K2 FU k0 k1 v2 v3 0 (wr σ (k0 + 10) (nc v3) (shl 1 v3))))
def X12_layNear_l2 : Nat → Nat → Nat → Int32 → Int32 → Mem → Option Mem
  | 0 => fun _ _ _ _ _ => none
  | n + 1 => X12_layNear_b2 (X12_layNear_l2 n)
def X12_layNear_b0 (k0 : Nat) (k1 : Nat) (v2 : Int32) (σ : Mem) : Option Mem :=
  X12_layNear_l2 FU k0 k1 v2 0 σ
def X12_layNear (k0 : Nat) (k1 : Nat) (v2 : Int32) (σ : Mem) : Option Mem := X12_layNear_b0 k0 k1 v2 σ
def X12_isNear_b40 (K4 : Nat → Int32 → Int32 → Int32 → Mem → Option Int32) (k0 : Nat) (v1 : Int32) (v3 : Int32) (s0 : Int32) (σ : Mem) : Option Int32 :=
  K4 k0 v1 s0 (v3 + 1) σ
def X12_isNear_b39 (K4 : Nat → Int32 → Int32 → Int32 → Mem → Option Int32) (k0 : Nat) (v1 : Int32) (v3 : Int32) (σ : Mem) : Option Int32 :=
  X12_isNear_b40 K4 k0 v1 v3 0 σ
def X12_isNear_b35 (K4 : Nat → Int32 → Int32 → Int32 → Mem → Option Int32) (k0 : Nat) (v1 : Int32) (v3 : Int32) (σ : Mem) : Option Int32 :=
  X12_isNear_b40 K4 k0 v1 v3 1 σ
def X12_isNear_b4 (K4 : Nat → Int32 → Int32 → Int32 → Mem → Option Int32) (k0 : Nat) (v1 : Int32) (v2 : Int32) (v3 : Int32) (σ : Mem) : Option Int32 :=
  if 10 ≤ v3 then (
    gdb v2 (
      some v2))
  else (
    if v2 = 0 then (
      X12_isNear_b39 K4 k0 v1 v3 σ)
    else (
      if (X12_has v1 v3) = 0 then (
        X12_isNear_b35 K4 k0 v1 v3 σ)
      else (
        gdx v3 10 (
          if (v1 &&& ((σ (k0 + 10) (nc v3)) ^^^ (-1))) = 0 then (
          X12_isNear_b35 K4 k0 v1 v3 σ)
        else (
          X12_isNear_b39 K4 k0 v1 v3 σ)))))
def X12_isNear_l4 : Nat → Nat → Int32 → Int32 → Int32 → Mem → Option Int32
  | 0 => fun _ _ _ _ _ => none
  | n + 1 => X12_isNear_b4 (X12_isNear_l4 n)
def X12_isNear_b0 (k0 : Nat) (v1 : Int32) (σ : Mem) : Option Int32 :=
  X12_isNear_l4 FU k0 v1 1 0 σ
def X12_isNear (k0 : Nat) (v1 : Int32) (σ : Mem) : Option Int32 := X12_isNear_b0 k0 v1 σ
def X12_oneOf_b0 (k0 : Nat) (v1 : Int32) (σ : Mem) : Option Int32 :=
  gdx v1 11 (
    ob (X12_firstOf (σ (k0 + 11) (nc v1))) (fun r2 =>
    some (shl 1 r2)))
def X12_oneOf (k0 : Nat) (v1 : Int32) (σ : Mem) : Option Int32 := X12_oneOf_b0 k0 v1 σ
def X12_turns_b36 (s0 : Nat) (s1 : Int32) (σ : Mem) : Option Mem :=
  gdx s1 11 (
    some (wr σ s0 (nc s1) (-1)))
def X12_turns_b0 (k0 : Nat) (v1 : Int32) (v2 : Int32) (σ : Mem) : Option Mem :=
  gdx v1 11 (
    ob (X12_oneOf k0 v1 σ) (fun r2 =>
    letv ((σ (k0 + 11) (nc v1)) &&& (r2 ^^^ (-1))) (fun x3 =>
    if v1 = (v2 - 1) then (
    X12_turns_b36 (k0 + 12) v1 σ)
  else (
    gdx v1 11 (
      if (σ (k0 + 12) (nc v1)) = 0 then (
      X12_turns_b36 (k0 + 12) v1 σ)
    else (
      gdx v1 11 (
        gdx v1 11 (
        some (wr σ (k0 + 12) (nc v1) (((σ (k0 + 12) (nc v1)) - 1) &&& x3))))))))))
def X12_turns (k0 : Nat) (v1 : Int32) (v2 : Int32) (σ : Mem) : Option Mem := X12_turns_b0 k0 v1 v2 σ
def X12_opensSet_b0 (k0 : Nat) (v1 : Int32) (v2 : Int32) (σ : Mem) : Option Mem :=
  gdx v1 11 (
    ob (X12_oneOf k0 v1 (wr σ (k0 + 11) (nc v1) v2)) (fun r2 =>
    letv (wr σ (k0 + 11) (nc v1) v2) (fun σ3 =>
    gdx v1 11 (
    some (wr σ3 (k0 + 12) (nc v1) (v2 &&& (r2 ^^^ (-1))))))))
def X12_opensSet (k0 : Nat) (v1 : Int32) (v2 : Int32) (σ : Mem) : Option Mem := X12_opensSet_b0 k0 v1 v2 σ
def X12_tells_b128 (K113 : Nat → Int32 → Int32 → Int32 → Mem → Option Mem) (k0 : Nat) (v2 : Int32) (v3 : Int32) (v4 : Int32) (σ : Mem) : Option Mem :=
  gdx v4 10 (
    gdx v4 10 (
    K113 k0 v2 v3 (v4 + 1) (wr σ (k0 + 13) (nc v4) (σ (k0 + 14) (nc v4)))))
def X12_tells_b113 (K113 : Nat → Int32 → Int32 → Int32 → Mem → Option Mem) (k0 : Nat) (v2 : Int32) (v3 : Int32) (v4 : Int32) (σ : Mem) : Option Mem :=
  if 10 ≤ v4 then (
    some σ)
  else (
    if v2 = 0 then (
      if 0 ≤ v3 then (
        some σ)
      else (
        X12_tells_b128 K113 k0 v2 v3 v4 σ))
    else (
      X12_tells_b128 K113 k0 v2 v3 v4 σ))
def X12_tells_l113 : Nat → Nat → Int32 → Int32 → Int32 → Mem → Option Mem
  | 0 => fun _ _ _ _ _ => none
  | n + 1 => X12_tells_b113 (X12_tells_l113 n)
def X12_tells_b103 (K5 : Nat → Int32 → Int32 → Int32 → Int32 → Mem → Option Mem) (k0 : Nat) (v1 : Int32) (v2 : Int32) (v4 : Int32) (s0 : Int32) (σ : Mem) : Option Mem :=
  K5 k0 v1 v2 s0 (v4 + 1) σ
def X12_tells_b102 (K5 : Nat → Int32 → Int32 → Int32 → Int32 → Mem → Option Mem) (k0 : Nat) (v1 : Int32) (v2 : Int32) (v3 : Int32) (v4 : Int32) (σ : Mem) : Option Mem :=
  X12_tells_b103 K5 k0 v1 v2 v4 v3 σ
def X12_tells_b69 (K5 : Nat → Int32 → Int32 → Int32 → Int32 → Mem → Option Mem) (K23 : Nat → Int32 → Int32 → Int32 → Int32 → Int32 → Mem → Option Mem) (k0 : Nat) (v1 : Int32) (v2 : Int32) (v3 : Int32) (v4 : Int32) (v5 : Int32) (s0 : Nat) (s1 : Int32) (s2 : Int32) (σ : Mem) : Option Mem :=
  gdx s1 10 (
    K23 k0 v1 v2 v3 v4 (v5 + 1) (wr σ s0 (nc s1) s2))
def X12_tells_b23 (K5 : Nat → Int32 → Int32 → Int32 → Int32 → Mem → Option Mem) (K23 : Nat → Int32 → Int32 → Int32 → Int32 → Int32 → Mem → Option Mem) (k0 : Nat) (v1 : Int32) (v2 : Int32) (v3 : Int32) (v4 : Int32) (v5 : Int32) (σ : Mem) : Option Mem :=
  if v1 < v5 then (
    if v3 = 0 then (
      if v2 = 0 then (
        gdx v4 10 (
          gdx v4 10 (
          X12_tells_b103 K5 k0 v1 v2 v4 ((σ (k0 + 14) (nc v4)) - (σ (k0 + 13) (nc v4))) σ)))
      else (
        X12_tells_b102 K5 k0 v1 v2 v3 v4 σ))
    else (
      X12_tells_b102 K5 k0 v1 v2 v3 v4 σ))
  else (
    ob (X12_oneOf k0 v5 σ) (fun r6 =>
      gdx v5 11 (
      if (X12_has (r6 ||| (σ (k0 + 12) (nc v5))) v4) = 0 then (
      gdx v4 10 (
        X12_tells_b69 K5 K23 k0 v1 v2 v3 v4 v5 (k0 + 14) v4 (σ (k0 + 14) (nc v4)) σ))
    else (
      X12_tells_b69 K5 K23 k0 v1 v2 v3 v4 v5 (k0 + 14) v4 v5 σ))))
def X12_tells_l23 (K5 : Nat → Int32 → Int32 → Int32 → Int32 → Mem → Option Mem) : Nat → Nat → Int32 → Int32 → Int32 → Int32 → Int32 → Mem → Option Mem
  | 0 => fun _ _ _ _ _ _ _ => none
  | n + 1 => X12_tells_b23 K5 (X12_tells_l23 K5 n)
def X12_tells_b5 (K5 : Nat → Int32 → Int32 → Int32 → Int32 → Mem → Option Mem) (k0 : Nat) (v1 : Int32) (v2 : Int32) (v3 : Int32) (v4 : Int32) (σ : Mem) : Option Mem :=
  if 10 ≤ v4 then (
    X12_tells_l113 FU k0 v2 v3 0 σ)
  else (
    gdx v4 10 (
      X12_tells_l23 K5 FU k0 v1 v2 v3 v4 0 (wr σ (k0 + 14) (nc v4) 0)))
def X12_tells_l5 : Nat → Nat → Int32 → Int32 → Int32 → Int32 → Mem → Option Mem
  | 0 => fun _ _ _ _ _ _ => none
  | n + 1 => X12_tells_b5 (X12_tells_l5 n)
def X12_tells_b0 (k0 : Nat) (v1 : Int32) (v2 : Int32) (σ : Mem) : Option Mem :=
  X12_tells_l5 FU k0 v1 v2 0 0 σ
def X12_tells (k0 : Nat) (v1 : Int32) (v2 : Int32) (σ : Mem) : Option Mem := X12_tells_b0 k0 v1 v2 σ
def X12_parts_b185 (K15 : Nat → Int32 → Int32 → Int32 → Int32 → Int32 → Mem → Option (Int32 × Mem)) (k0 : Nat) (v2 : Int32) (v3 : Int32) (v4 : Int32) (v5 : Int32) (v6 : Int32) (σ : Mem) : Option (Int32 × Mem) :=
  K15 k0 v2 v3 v4 v5 (v6 + 1) σ
def X12_parts_b130 (K15 : Nat → Int32 → Int32 → Int32 → Int32 → Int32 → Mem → Option (Int32 × Mem)) (k0 : Nat) (v2 : Int32) (v3 : Int32) (v4 : Int32) (v5 : Int32) (v6 : Int32) (σ : Mem) : Option (Int32 × Mem) :=
  ob (X12_turns k0 v5 v2 σ) (fun σ1 =>
    X12_parts_b185 K15 k0 v2 v3 v4 v5 v6 σ1)
def X12_parts_b172 (K15 : Nat → Int32 → Int32 → Int32 → Int32 → Int32 → Mem → Option (Int32 × Mem)) (k0 : Nat) (v2 : Int32) (v3 : Int32) (v5 : Int32) (v6 : Int32) (s0 : Nat) (s1 : Int32) (s2 : Int32) (σ : Mem) : Option (Int32 × Mem) :=
  ob (X12_tells s0 s1 s2 σ) (fun σ1 =>
    ob (X12_turns k0 v5 v2 σ1) (fun σ2 =>
    X12_parts_b185 K15 k0 v2 v3 1 v5 v6 σ2))
def X12_parts_b140 (K15 : Nat → Int32 → Int32 → Int32 → Int32 → Int32 → Mem → Option (Int32 × Mem)) (k0 : Nat) (v2 : Int32) (v3 : Int32) (v4 : Int32) (v5 : Int32) (v6 : Int32) (v8 : Int32) (σ : Mem) : Option (Int32 × Mem) :=
  if v8 ≤ 0 then (
    if v4 = 0 then (
      X12_parts_b172 K15 k0 v2 v3 v5 v6 k0 v5 1 σ)
    else (
      X12_parts_b172 K15 k0 v2 v3 v5 v6 k0 v5 0 σ))
  else (
    ob (X12_opensSet k0 (v5 + 1) v8 σ) (fun σ3 =>
      X12_parts_b185 K15 k0 v2 v3 v4 (v5 + 1) v6 σ3))
def X12_parts_b64 (K15 : Nat → Int32 → Int32 → Int32 → Int32 → Int32 → Mem → Option (Int32 × Mem)) (k0 : Nat) (v2 : Int32) (v3 : Int32) (v4 : Int32) (v5 : Int32) (v6 : Int32) (s0 : Int32) (σ : Mem) : Option (Int32 × Mem) :=
  gdx v5 11 (
    letv ((σ (k0 + 11) (nc v5)) &&& (s0 ^^^ (-1))) (fun x2 =>
    gdx v5 11 (
    if 0 ≤ (σ (k0 + 12) (nc v5)) then (
    ob (X12_isNear k0 s0 σ) (fun r5 =>
      if r5 = 0 then (
      X12_parts_b130 K15 k0 v2 v3 v4 v5 v6 σ)
    else (
      if x2 ≤ 0 then (
        X12_parts_b140 K15 k0 v2 v3 v4 v5 v6 x2 σ)
      else (
        if (v5 + 1) = v2 then (
          X12_parts_b130 K15 k0 v2 v3 v4 v5 v6 σ)
        else (
          X12_parts_b140 K15 k0 v2 v3 v4 v5 v6 x2 σ)))))
  else (
    if (v5 + (-1)) < 0 then (
      X12_parts_b185 K15 k0 v2 v3 v4 (v5 + (-1)) v6 σ)
    else (
      ob (X12_turns k0 (v5 + (-1)) v2 σ) (fun σ10 =>
        X12_parts_b185 K15 k0 v2 v3 v4 (v5 + (-1)) v6 σ10))))))
def X12_parts_b36 (K15 : Nat → Int32 → Int32 → Int32 → Int32 → Int32 → Mem → Option (Int32 × Mem)) (k0 : Nat) (v2 : Int32) (v3 : Int32) (v4 : Int32) (v5 : Int32) (v6 : Int32) (σ : Mem) : Option (Int32 × Mem) :=
  gdx v5 11 (
    if 0 ≤ (σ (k0 + 12) (nc v5)) then (
    ob (X12_oneOf k0 v5 σ) (fun r3 =>
      gdx v5 11 (
      X12_parts_b64 K15 k0 v2 v3 v4 v5 v6 (r3 ||| (σ (k0 + 12) (nc v5))) σ)))
  else (
    X12_parts_b64 K15 k0 v2 v3 v4 v5 v6 0 σ))
def X12_parts_b15 (K15 : Nat → Int32 → Int32 → Int32 → Int32 → Int32 → Mem → Option (Int32 × Mem)) (k0 : Nat) (v2 : Int32) (v3 : Int32) (v4 : Int32) (v5 : Int32) (v6 : Int32) (σ : Mem) : Option (Int32 × Mem) :=
  if 600000000 ≤ v6 then (
    gdb v4 (
      some (v4, σ)))
  else (
    if v5 < 0 then (
      gdb v4 (
        some (v4, σ)))
    else (
      if v3 = 0 then (
        if v4 = 0 then (
          X12_parts_b36 K15 k0 v2 v3 v4 v5 v6 σ)
        else (
          gdb v4 (
            some (v4, σ))))
      else (
        X12_parts_b36 K15 k0 v2 v3 v4 v5 v6 σ)))
def X12_parts_l15 : Nat → Nat → Int32 → Int32 → Int32 → Int32 → Int32 → Mem → Option (Int32 × Mem)
  | 0 => fun _ _ _ _ _ _ _ => none
  | n + 1 => X12_parts_b15 (X12_parts_l15 n)
def X12_parts_b0 (k0 : Nat) (v1 : Int32) (v2 : Int32) (v3 : Int32) (σ : Mem) : Option (Int32 × Mem) :=
  ob (X12_opensSet k0 0 v1 σ) (fun σ1 =>
    X12_parts_l15 FU k0 v2 v3 0 0 0 σ1)
def X12_parts (k0 : Nat) (v1 : Int32) (v2 : Int32) (v3 : Int32) (σ : Mem) : Option (Int32 × Mem) := X12_parts_b0 k0 v1 v2 v3 σ
def X12_layHands_b38 (K38 : Nat → Nat → Int32 → Int32 → Mem → Option (Int32 × Mem)) (k0 : Nat) (k1 : Nat) (v2 : Int32) (v3 : Int32) (σ : Mem) : Option (Int32 × Mem) :=
  if 10 ≤ v3 then (
    some (v2, σ))
  else (
    if v2 = (σ k1 (nc 0)) then (
      gdx v3 10 (
        K38 k0 k1 v2 (v3 + 1) (wr σ (k0 + 13) (nc v3) v3)))
    else (
      some (v2, σ)))
def X12_layHands_l38 : Nat → Nat → Nat → Int32 → Int32 → Mem → Option (Int32 × Mem)
  | 0 => fun _ _ _ _ _ => none
  | n + 1 => X12_layHands_b38 (X12_layHands_l38 n)
def X12_layHands_b36 (k0 : Nat) (k1 : Nat) (v2 : Int32) (σ : Mem) : Option (Int32 × Mem) :=
  X12_layHands_l38 FU k0 k1 v2 0 σ
def X12_layHands_b10 (K10 : Nat → Nat → Int32 → Mem → Option (Int32 × Mem)) (k0 : Nat) (k1 : Nat) (v2 : Int32) (σ : Mem) : Option (Int32 × Mem) :=
  if (σ k1 (nc 0)) ≤ v2 then (
    X12_layHands_b36 k0 k1 v2 σ)
  else (
    ob (X12_allOf k1 σ) (fun r2 =>
      ob2 (X12_parts k0 r2 v2 1 σ) (fun r3 σ4 =>
      if r3 = 0 then (
      K10 k0 k1 (v2 + 1) σ4)
    else (
      X12_layHands_b36 k0 k1 v2 σ4))))
def X12_layHands_l10 : Nat → Nat → Nat → Int32 → Mem → Option (Int32 × Mem)
  | 0 => fun _ _ _ _ => none
  | n + 1 => X12_layHands_b10 (X12_layHands_l10 n)
def X12_layHands_b0 (k0 : Nat) (k1 : Nat) (σ : Mem) : Option (Int32 × Mem) :=
  ob (X12_layNear k0 k1 (σ k1 (nc 1)) σ) (fun σ1 =>
    X12_layHands_l10 FU k0 k1 1 σ1)
def X12_layHands (k0 : Nat) (k1 : Nat) (σ : Mem) : Option (Int32 × Mem) := X12_layHands_b0 k0 k1 σ
def X12_pagesOf_b32 (K4 : Nat → Int32 → Int32 → Int32 → Mem → Option Int32) (k0 : Nat) (v1 : Int32) (v3 : Int32) (s0 : Int32) (s1 : Int32) (σ : Mem) : Option Int32 :=
  letv (s0 ||| s1) (fun x1 =>
    K4 k0 v1 x1 (v3 + 1) σ)
def X12_pagesOf_b4 (K4 : Nat → Int32 → Int32 → Int32 → Mem → Option Int32) (k0 : Nat) (v1 : Int32) (v2 : Int32) (v3 : Int32) (σ : Mem) : Option Int32 :=
  if (σ (k0 + 4) (nc 0)) ≤ v3 then (
    some v2)
  else (
    gdx v3 10 (
      if (σ (k0 + 13) (nc v3)) = v1 then (
      X12_pagesOf_b32 K4 k0 v1 v3 v2 (shl 1 v3) σ)
    else (
      X12_pagesOf_b32 K4 k0 v1 v3 v2 0 σ)))
def X12_pagesOf_l4 : Nat → Nat → Int32 → Int32 → Int32 → Mem → Option Int32
  | 0 => fun _ _ _ _ _ => none
  | n + 1 => X12_pagesOf_b4 (X12_pagesOf_l4 n)
def X12_pagesOf_b0 (k0 : Nat) (v1 : Int32) (σ : Mem) : Option Int32 :=
  X12_pagesOf_l4 FU k0 v1 0 0 σ
def X12_pagesOf (k0 : Nat) (v1 : Int32) (σ : Mem) : Option Int32 := X12_pagesOf_b0 k0 v1 σ
def X12_isInDoubt_b49 (K5 : Nat → Int32 → Int32 → Int32 → Int32 → Mem → Option Int32) (k0 : Nat) (v1 : Int32) (v2 : Int32) (v4 : Int32) (s0 : Int32) (σ : Mem) : Option Int32 :=
  K5 k0 v1 v2 s0 (v4 + 1) σ
def X12_isInDoubt_b44 (K5 : Nat → Int32 → Int32 → Int32 → Int32 → Mem → Option Int32) (k0 : Nat) (v1 : Int32) (v2 : Int32) (v4 : Int32) (σ : Mem) : Option Int32 :=
  X12_isInDoubt_b49 K5 k0 v1 v2 v4 1 σ
def X12_isInDoubt_b48 (K5 : Nat → Int32 → Int32 → Int32 → Int32 → Mem → Option Int32) (k0 : Nat) (v1 : Int32) (v2 : Int32) (v4 : Int32) (σ : Mem) : Option Int32 :=
  X12_isInDoubt_b49 K5 k0 v1 v2 v4 0 σ
def X12_isInDoubt_b5 (K5 : Nat → Int32 → Int32 → Int32 → Int32 → Mem → Option Int32) (k0 : Nat) (v1 : Int32) (v2 : Int32) (v3 : Int32) (v4 : Int32) (σ : Mem) : Option Int32 :=
  if v2 ≤ v4 then (
    gdb v3 (
      some v3))
  else (
    if v3 = 0 then (
      gdx v1 10 (
        if v4 = (σ (k0 + 13) (nc v1)) then (
        X12_isInDoubt_b48 K5 k0 v1 v2 v4 σ)
      else (
        ob (X12_pagesOf k0 v4 σ) (fun r6 =>
          gdx v1 10 (
          if (r6 &&& ((σ (k0 + 10) (nc v1)) ^^^ (-1))) = 0 then (
          X12_isInDoubt_b44 K5 k0 v1 v2 v4 σ)
        else (
          X12_isInDoubt_b48 K5 k0 v1 v2 v4 σ))))))
    else (
      X12_isInDoubt_b44 K5 k0 v1 v2 v4 σ))
def X12_isInDoubt_l5 : Nat → Nat → Int32 → Int32 → Int32 → Int32 → Mem → Option Int32
  | 0 => fun _ _ _ _ _ _ => none
  | n + 1 => X12_isInDoubt_b5 (X12_isInDoubt_l5 n)
def X12_isInDoubt_b0 (k0 : Nat) (v1 : Int32) (v2 : Int32) (σ : Mem) : Option Int32 :=
  X12_isInDoubt_l5 FU k0 v1 v2 0 0 σ
def X12_isInDoubt (k0 : Nat) (v1 : Int32) (v2 : Int32) (σ : Mem) : Option Int32 := X12_isInDoubt_b0 k0 v1 v2 σ
def X12_doubts_b29 (K4 : Nat → Int32 → Int32 → Int32 → Mem → Option Int32) (k0 : Nat) (v1 : Int32) (v3 : Int32) (s0 : Int32) (s1 : Int32) (σ : Mem) : Option Int32 :=
  letv (s0 + s1) (fun x1 =>
    K4 k0 v1 x1 (v3 + 1) σ)
def X12_doubts_b4 (K4 : Nat → Int32 → Int32 → Int32 → Mem → Option Int32) (k0 : Nat) (v1 : Int32) (v2 : Int32) (v3 : Int32) (σ : Mem) : Option Int32 :=
  if (σ (k0 + 4) (nc 0)) ≤ v3 then (
    some v2)
  else (
    ob (X12_isInDoubt k0 v3 v1 σ) (fun r2 =>
      if r2 = 0 then (
      X12_doubts_b29 K4 k0 v1 v3 v2 0 σ)
    else (
      X12_doubts_b29 K4 k0 v1 v3 v2 1 σ)))
def X12_doubts_l4 : Nat → Nat → Int32 → Int32 → Int32 → Mem → Option Int32
  | 0 => fun _ _ _ _ _ => none
  | n + 1 => X12_doubts_b4 (X12_doubts_l4 n)
def X12_doubts_b0 (k0 : Nat) (v1 : Int32) (σ : Mem) : Option Int32 :=
  X12_doubts_l4 FU k0 v1 0 0 σ
def X12_doubts (k0 : Nat) (v1 : Int32) (σ : Mem) : Option Int32 := X12_doubts_b0 k0 v1 σ
def X12_middleOf_b127 (K8 : Nat → Int32 → Int32 → Int32 → Int32 → Mem → Option Int32) (k0 : Nat) (v1 : Int32) (v2 : Int32) (v3 : Int32) (v4 : Int32) (σ : Mem) : Option Int32 :=
  K8 k0 v1 v2 v3 (v4 + 1) σ
def X12_middleOf_b121 (K8 : Nat → Int32 → Int32 → Int32 → Int32 → Mem → Option Int32) (k0 : Nat) (v1 : Int32) (v4 : Int32) (v5 : Int32) (σ : Mem) : Option Int32 :=
  X12_middleOf_b127 K8 k0 v1 v4 v5 v4 σ
def X12_middleOf_b92 (K8 : Nat → Int32 → Int32 → Int32 → Int32 → Mem → Option Int32) (K25 : Nat → Int32 → Int32 → Int32 → Int32 → Int32 → Int32 → Mem → Option Int32) (k0 : Nat) (v1 : Int32) (v2 : Int32) (v3 : Int32) (v4 : Int32) (v6 : Int32) (s0 : Int32) (σ : Mem) : Option Int32 :=
  K25 k0 v1 v2 v3 v4 s0 (v6 + 1) σ
def X12_middleOf_b76 (K8 : Nat → Int32 → Int32 → Int32 → Int32 → Mem → Option Int32) (K25 : Nat → Int32 → Int32 → Int32 → Int32 → Int32 → Int32 → Mem → Option Int32) (k0 : Nat) (v1 : Int32) (v2 : Int32) (v3 : Int32) (v4 : Int32) (v5 : Int32) (v6 : Int32) (s0 : Int32) (σ : Mem) : Option Int32 :=
  if s0 ≤ v5 then (
    X12_middleOf_b92 K8 K25 k0 v1 v2 v3 v4 v6 v5 σ)
  else (
    X12_middleOf_b92 K8 K25 k0 v1 v2 v3 v4 v6 s0 σ)
def X12_middleOf_b75 (K8 : Nat → Int32 → Int32 → Int32 → Int32 → Mem → Option Int32) (K25 : Nat → Int32 → Int32 → Int32 → Int32 → Int32 → Int32 → Mem → Option Int32) (k0 : Nat) (v1 : Int32) (v2 : Int32) (v3 : Int32) (v4 : Int32) (v5 : Int32) (v6 : Int32) (σ : Mem) : Option Int32 :=
  X12_middleOf_b76 K8 K25 k0 v1 v2 v3 v4 v5 v6 0 σ
def X12_middleOf_b25 (K8 : Nat → Int32 → Int32 → Int32 → Int32 → Mem → Option Int32) (K25 : Nat → Int32 → Int32 → Int32 → Int32 → Int32 → Int32 → Mem → Option Int32) (k0 : Nat) (v1 : Int32) (v2 : Int32) (v3 : Int32) (v4 : Int32) (v5 : Int32) (v6 : Int32) (σ : Mem) : Option Int32 :=
  if (σ (k0 + 4) (nc 0)) ≤ v6 then (
    if (X12_has v1 v4) = 0 then (
      X12_middleOf_b127 K8 k0 v1 v2 v3 v4 σ)
    else (
      if v3 = (-1000000) then (
        X12_middleOf_b121 K8 k0 v1 v4 v5 σ)
      else (
        if v3 ≤ v5 then (
          X12_middleOf_b127 K8 k0 v1 v2 v3 v4 σ)
        else (
          X12_middleOf_b121 K8 k0 v1 v4 v5 σ))))
  else (
    if v4 = v6 then (
      X12_middleOf_b75 K8 K25 k0 v1 v2 v3 v4 v5 v6 σ)
    else (
      if (X12_has v1 v4) = 0 then (
        X12_middleOf_b75 K8 K25 k0 v1 v2 v3 v4 v5 v6 σ)
      else (
        if (X12_has v1 v6) = 0 then (
          X12_middleOf_b75 K8 K25 k0 v1 v2 v3 v4 v5 v6 σ)
        else (
          ob (X12_farOf (k0 + 4) v4 v6 σ) (fun r8 =>
            X12_middleOf_b76 K8 K25 k0 v1 v2 v3 v4 v5 v6 r8 σ)))))
def X12_middleOf_l25 (K8 : Nat → Int32 → Int32 → Int32 → Int32 → Mem → Option Int32) : Nat → Nat → Int32 → Int32 → Int32 → Int32 → Int32 → Int32 → Mem → Option Int32
  | 0 => fun _ _ _ _ _ _ _ _ => none
  | n + 1 => X12_middleOf_b25 K8 (X12_middleOf_l25 K8 n)
def X12_middleOf_b8 (K8 : Nat → Int32 → Int32 → Int32 → Int32 → Mem → Option Int32) (k0 : Nat) (v1 : Int32) (v2 : Int32) (v3 : Int32) (v4 : Int32) (σ : Mem) : Option Int32 :=
  if (σ (k0 + 4) (nc 0)) ≤ v4 then (
    some v2)
  else (
    X12_middleOf_l25 K8 FU k0 v1 v2 v3 v4 0 0 σ)
def X12_middleOf_l8 : Nat → Nat → Int32 → Int32 → Int32 → Int32 → Mem → Option Int32
  | 0 => fun _ _ _ _ _ _ => none
  | n + 1 => X12_middleOf_b8 (X12_middleOf_l8 n)
def X12_middleOf_b0 (k0 : Nat) (v1 : Int32) (σ : Mem) : Option Int32 :=
  X12_middleOf_l8 FU k0 v1 0 (-1000000) 0 σ
def X12_middleOf (k0 : Nat) (v1 : Int32) (σ : Mem) : Option Int32 := X12_middleOf_b0 k0 v1 σ
def X12_hand_b19 (k0 : Nat) (v1 : Int32) (v2 : Int32) (s0 : Int32) (σ : Mem) : Option (Int32 × Mem) :=
  if (X12_in (Int32.toInt64 v1) 0 (Int32.toInt64 (s0 - 1))) = 0 then (
    some ((-1000001), σ))
  else (
    if v2 = 0 then (
      ob (X12_pagesOf k0 v1 σ) (fun r3 =>
        some (r3, σ)))
    else (
      if v2 = 1 then (
        ob (X12_pagesOf k0 v1 σ) (fun r5 =>
          ob (X12_spreadOf (k0 + 4) r5 σ) (fun r6 =>
          some (r6, σ))))
      else (
        if v2 = 2 then (
          ob (X12_pagesOf k0 v1 σ) (fun r8 =>
            ob (X12_middleOf k0 r8 σ) (fun r9 =>
            some (r9, σ))))
        else (
          some ((-1000001), σ)))))
def X12_hand_b0 (k0 : Nat) (v1 : Int32) (v2 : Int32) (σ : Mem) : Option (Int32 × Mem) :=
  ob (X12_isThere k0 σ) (fun r1 =>
    if r1 = 0 then (
    X12_hand_b19 k0 v1 v2 0 σ)
  else (
    ob2 (X12_layHands k0 (k0 + 4) σ) (fun r3 σ4 =>
      X12_hand_b19 k0 v1 v2 r3 σ4)))
def X12_hand (k0 : Nat) (v1 : Int32) (v2 : Int32) (σ : Mem) : Option (Int32 × Mem) := X12_hand_b0 k0 v1 v2 σ
def X12_cutsAt_b0 (v0 : Int32) (v1 : Int32) (v2 : Int32) : Int32 :=
  X12_has v0 ((v2 - 1) - v1)
def X12_cutsAt (v0 : Int32) (v1 : Int32) (v2 : Int32) : Int32 := X12_cutsAt_b0 v0 v1 v2
def X12_weightOf_b44 (K12 : Nat → Int32 → Int32 → Int32 → Int32 → Int32 → Mem → Option Int32) (k0 : Nat) (v1 : Int32) (v2 : Int32) (v3 : Int32) (v4 : Int32) (v5 : Int32) (σ : Mem) : Option Int32 :=
  letv (v4 ||| (shl 1 v5)) (fun x1 =>
    K12 k0 v1 v2 v3 x1 (v5 + 1) σ)
def X12_weightOf_b12 (K12 : Nat → Int32 → Int32 → Int32 → Int32 → Int32 → Mem → Option Int32) (k0 : Nat) (v1 : Int32) (v2 : Int32) (v3 : Int32) (v4 : Int32) (v5 : Int32) (σ : Mem) : Option Int32 :=
  if v2 ≤ v5 then (
    ob (X12_spreadOf k0 v4 σ) (fun r2 =>
      some (v3 + r2)))
  else (
    if (X12_cutsAt v1 v5 v2) = 0 then (
      X12_weightOf_b44 K12 k0 v1 v2 v3 v4 v5 σ)
    else (
      ob (X12_spreadOf k0 v4 σ) (fun r4 =>
        letv (v3 + (r4 + (σ k0 (nc 2)))) (fun x5 =>
        X12_weightOf_b44 K12 k0 v1 v2 x5 0 v5 σ))))
def X12_weightOf_l12 : Nat → Nat → Int32 → Int32 → Int32 → Int32 → Int32 → Mem → Option Int32
  | 0 => fun _ _ _ _ _ _ _ => none
  | n + 1 => X12_weightOf_b12 (X12_weightOf_l12 n)
def X12_weightOf_b0 (k0 : Nat) (v1 : Int32) (σ : Mem) : Option Int32 :=
  letv (σ k0 (nc 0)) (fun x1 =>
    X12_weightOf_l12 FU k0 v1 x1 0 1 1 σ)
def X12_weightOf (k0 : Nat) (v1 : Int32) (σ : Mem) : Option Int32 := X12_weightOf_b0 k0 v1 σ
def X12_layRuns_b125 (K97 : Nat → Int32 → Int32 → Int32 → Int32 → Mem → Option (Int32 × Mem)) (k0 : Nat) (v1 : Int32) (v2 : Int32) (v4 : Int32) (v5 : Int32) (σ : Mem) : Option (Int32 × Mem) :=
  K97 k0 v1 v2 v4 (v5 + 1) σ
def X12_layRuns_b97 (K97 : Nat → Int32 → Int32 → Int32 → Int32 → Mem → Option (Int32 × Mem)) (k0 : Nat) (v1 : Int32) (v2 : Int32) (v4 : Int32) (v5 : Int32) (σ : Mem) : Option (Int32 × Mem) :=
  if v1 ≤ v5 then (
    gdx v4 11 (
      some (v4, wr σ (k0 + 15) (nc v4) v1)))
  else (
    if (X12_cutsAt v2 v5 v1) = 0 then (
      X12_layRuns_b125 K97 k0 v1 v2 v4 v5 σ)
    else (
      gdx v4 11 (
        X12_layRuns_b125 K97 k0 v1 v2 (v4 + 1) v5 (wr σ (k0 + 15) (nc v4) v5))))
def X12_layRuns_l97 : Nat → Nat → Int32 → Int32 → Int32 → Int32 → Mem → Option (Int32 × Mem)
  | 0 => fun _ _ _ _ _ _ => none
  | n + 1 => X12_layRuns_b97 (X12_layRuns_l97 n)
def X12_layRuns_b73 (K21 : Nat → Int32 → Int32 → Int32 → Int32 → Mem → Option (Int32 × Mem)) (k0 : Nat) (v1 : Int32) (v2 : Int32) (v3 : Int32) (v4 : Int32) (σ : Mem) : Option (Int32 × Mem) :=
  K21 k0 v1 v2 v3 (v4 + (-1)) σ
def X12_layRuns_b67 (K21 : Nat → Int32 → Int32 → Int32 → Int32 → Mem → Option (Int32 × Mem)) (k0 : Nat) (v1 : Int32) (v4 : Int32) (v5 : Int32) (σ : Mem) : Option (Int32 × Mem) :=
  X12_layRuns_b73 K21 k0 v1 v4 v5 v4 σ
def X12_layRuns_b21 (K21 : Nat → Int32 → Int32 → Int32 → Int32 → Mem → Option (Int32 × Mem)) (k0 : Nat) (v1 : Int32) (v2 : Int32) (v3 : Int32) (v4 : Int32) (σ : Mem) : Option (Int32 × Mem) :=
  if v4 < 0 then (
    letv (wr σ k0 25 v3) (fun σ2 =>
      X12_layRuns_l97 FU k0 v1 v2 1 1 (wr σ2 (k0 + 15) (nc 0) 0)))
  else (
    ob (X12_weightOf (k0 + 4) v4 σ) (fun r3 =>
      if v3 = (-1000000) then (
      X12_layRuns_b67 K21 k0 v1 v4 r3 σ)
    else (
      if r3 < v3 then (
        X12_layRuns_b67 K21 k0 v1 v4 r3 σ)
      else (
        if r3 = v3 then (
          ob (X12_sizeOf v4) (fun r7 =>
            ob (X12_sizeOf v2) (fun r8 =>
            if r8 ≤ r7 then (
            X12_layRuns_b73 K21 k0 v1 v2 v3 v4 σ)
          else (
            X12_layRuns_b67 K21 k0 v1 v4 r3 σ))))
        else (
          X12_layRuns_b73 K21 k0 v1 v2 v3 v4 σ)))))
def X12_layRuns_l21 : Nat → Nat → Int32 → Int32 → Int32 → Int32 → Mem → Option (Int32 × Mem)
  | 0 => fun _ _ _ _ _ _ => none
  | n + 1 => X12_layRuns_b21 (X12_layRuns_l21 n)
def X12_layRuns_b0 (k0 : Nat) (σ : Mem) : Option (Int32 × Mem) :=
  letv (σ (k0 + 4) (nc 0)) (fun x1 =>
    letv ((shl 1 (x1 - 1)) - 1) (fun x2 =>
    X12_layRuns_l21 FU k0 x1 0 (-1000000) x2 σ))
def X12_layRuns (k0 : Nat) (σ : Mem) : Option (Int32 × Mem) := X12_layRuns_b0 k0 σ
def X12_runOf_b2 (K2 : Nat → Int32 → Int32 → Int32 → Mem → Option Int32) (k0 : Nat) (v1 : Int32) (v2 : Int32) (v3 : Int32) (σ : Mem) : Option Int32 :=
  if (v2 - 1) ≤ v3 then (
    some v3)
  else (
    gdx (v3 + 1) 11 (
      if v1 < (σ (k0 + 15) (nc (v3 + 1))) then (
      some v3)
    else (
      K2 k0 v1 v2 (v3 + 1) σ)))
def X12_runOf_l2 : Nat → Nat → Int32 → Int32 → Int32 → Mem → Option Int32
  | 0 => fun _ _ _ _ _ => none
  | n + 1 => X12_runOf_b2 (X12_runOf_l2 n)
def X12_runOf_b0 (k0 : Nat) (v1 : Int32) (v2 : Int32) (σ : Mem) : Option Int32 :=
  X12_runOf_l2 FU k0 v1 v2 0 σ
def X12_runOf (k0 : Nat) (v1 : Int32) (v2 : Int32) (σ : Mem) : Option Int32 := X12_runOf_b0 k0 v1 v2 σ
def X12_run_b15 (k0 : Nat) (v1 : Int32) (v2 : Int32) (s0 : Int32) (σ : Mem) : Option (Int32 × Mem) :=
  if (X12_in (Int32.toInt64 v1) 0 (Int32.toInt64 (s0 - 1))) = 0 then (
    some ((-1000001), σ))
  else (
    gdx (v1 + 1) 11 (
      gdx v1 11 (
      letv ((σ (k0 + 15) (nc (v1 + 1))) - (σ (k0 + 15) (nc v1))) (fun x4 =>
      if v2 = 0 then (
      gdx v1 11 (
        some (σ (k0 + 15) (nc v1), σ)))
    else (
      if v2 = 1 then (
        some (x4, σ))
      else (
        if v2 = 2 then (
          gdx v1 11 (
            ob (X12_spreadOf (k0 + 4) (shl ((shl 1 x4) - 1) (σ (k0 + 15) (nc v1))) σ) (fun r10 =>
            some (r10, σ))))
        else (
          some ((-1000001), σ))))))))
def X12_run_b0 (k0 : Nat) (v1 : Int32) (v2 : Int32) (σ : Mem) : Option (Int32 × Mem) :=
  ob (X12_isThere k0 σ) (fun r1 =>
    if r1 = 0 then (
    X12_run_b15 k0 v1 v2 0 σ)
  else (
    ob2 (X12_layRuns k0 σ) (fun r3 σ4 =>
      X12_run_b15 k0 v1 v2 r3 σ4)))
def X12_run (k0 : Nat) (v1 : Int32) (v2 : Int32) (σ : Mem) : Option (Int32 × Mem) := X12_run_b0 k0 v1 v2 σ
def X12_writes_b0 (k0 : Nat) (v1 : Int32) (σ : Mem) : Option Mem :=
  gdx (σ k0 27) 64 (
    letv (wr σ (k0 + 16) (nc (σ k0 27)) v1) (fun σ2 =>
    some (wr σ2 k0 27 ((σ2 k0 27) + 1))))
def X12_writes (k0 : Nat) (v1 : Int32) (σ : Mem) : Option Mem := X12_writes_b0 k0 v1 σ
def X12_layWritten_b149 (K133 : Nat → Int32 → Int32 → Mem → Option Mem) (k0 : Nat) (v2 : Int32) (v3 : Int32) (σ : Mem) : Option Mem :=
  gdx v3 11 (
    ob (X12_writes k0 (48 + (σ (k0 + 15) (nc v3))) σ) (fun σ2 =>
    K133 k0 v2 (v3 + 1) σ2))
def X12_layWritten_b133 (K133 : Nat → Int32 → Int32 → Mem → Option Mem) (k0 : Nat) (v2 : Int32) (v3 : Int32) (σ : Mem) : Option Mem :=
  if v2 ≤ v3 then (
    some σ)
  else (
    if v3 ≤ 1 then (
      X12_layWritten_b149 K133 k0 v2 v3 σ)
    else (
      ob (X12_writes k0 44 σ) (fun σ3 =>
        X12_layWritten_b149 K133 k0 v2 v3 σ3)))
def X12_layWritten_l133 : Nat → Nat → Int32 → Int32 → Mem → Option Mem
  | 0 => fun _ _ _ _ => none
  | n + 1 => X12_layWritten_b133 (X12_layWritten_l133 n)
def X12_layWritten_b108 (K16 : Nat → Int32 → Int32 → Mem → Option Mem) (K48 : Nat → Int32 → Int32 → Int32 → Int32 → Mem → Option Mem) (k0 : Nat) (v1 : Int32) (v2 : Int32) (v3 : Int32) (v4 : Int32) (σ : Mem) : Option Mem :=
  K48 k0 v1 v2 v3 (v4 + 1) σ
def X12_layWritten_b83 (K16 : Nat → Int32 → Int32 → Mem → Option Mem) (K48 : Nat → Int32 → Int32 → Int32 → Int32 → Mem → Option Mem) (k0 : Nat) (v1 : Int32) (v2 : Int32) (v3 : Int32) (v4 : Int32) (σ : Mem) : Option Mem :=
  ob (X12_writes k0 (48 + v4) σ) (fun σ1 =>
    ob (X12_isInDoubt k0 v4 v1 σ1) (fun r2 =>
    if r2 = 0 then (
    X12_layWritten_b108 K16 K48 k0 v1 v2 v3 v4 σ1)
  else (
    ob (X12_writes k0 63 σ1) (fun σ4 =>
      X12_layWritten_b108 K16 K48 k0 v1 v2 v3 v4 σ4))))
def X12_layWritten_b48 (K16 : Nat → Int32 → Int32 → Mem → Option Mem) (K48 : Nat → Int32 → Int32 → Int32 → Int32 → Mem → Option Mem) (k0 : Nat) (v1 : Int32) (v2 : Int32) (v3 : Int32) (v4 : Int32) (σ : Mem) : Option Mem :=
  if (σ (k0 + 4) (nc 0)) ≤ v4 then (
    K16 k0 v1 (v2 + 1) σ)
  else (
    if (X12_has v3 v4) = 0 then (
      X12_layWritten_b108 K16 K48 k0 v1 v2 v3 v4 σ)
    else (
      ob (X12_firstOf v3) (fun r3 =>
        if v4 ≤ r3 then (
        X12_layWritten_b83 K16 K48 k0 v1 v2 v3 v4 σ)
      else (
        ob (X12_writes k0 44 σ) (fun σ5 =>
          X12_layWritten_b83 K16 K48 k0 v1 v2 v3 v4 σ5)))))
def X12_layWritten_l48 (K16 : Nat → Int32 → Int32 → Mem → Option Mem) : Nat → Nat → Int32 → Int32 → Int32 → Int32 → Mem → Option Mem
  | 0 => fun _ _ _ _ _ _ => none
  | n + 1 => X12_layWritten_b48 K16 (X12_layWritten_l48 K16 n)
def X12_layWritten_b31 (K16 : Nat → Int32 → Int32 → Mem → Option Mem) (k0 : Nat) (v1 : Int32) (v2 : Int32) (σ : Mem) : Option Mem :=
  ob (X12_writes k0 (65 + v2) σ) (fun σ1 =>
    ob (X12_pagesOf k0 v2 σ1) (fun r2 =>
    X12_layWritten_l48 K16 FU k0 v1 v2 r2 0 σ1))
def X12_layWritten_b16 (K16 : Nat → Int32 → Int32 → Mem → Option Mem) (k0 : Nat) (v1 : Int32) (v2 : Int32) (σ : Mem) : Option Mem :=
  if v1 ≤ v2 then (
    ob (X12_writes k0 47 σ) (fun σ2 =>
      ob2 (X12_layRuns k0 σ2) (fun r3 σ4 =>
      X12_layWritten_l133 FU k0 r3 1 σ4)))
  else (
    if v2 ≤ 0 then (
      X12_layWritten_b31 K16 k0 v1 v2 σ)
    else (
      ob (X12_writes k0 59 σ) (fun σ6 =>
        X12_layWritten_b31 K16 k0 v1 v2 σ6)))
def X12_layWritten_l16 : Nat → Nat → Int32 → Int32 → Mem → Option Mem
  | 0 => fun _ _ _ _ => none
  | n + 1 => X12_layWritten_b16 (X12_layWritten_l16 n)
def X12_layWritten_b0 (k0 : Nat) (σ : Mem) : Option Mem :=
  ob2 (X12_layHands k0 (k0 + 4) σ) (fun r1 σ2 =>
    X12_layWritten_l16 FU k0 r1 0 (wr σ2 k0 27 0))
def X12_layWritten (k0 : Nat) (σ : Mem) : Option Mem := X12_layWritten_b0 k0 σ
def X12_sign_b0 (k0 : Nat) (v1 : Int32) (σ : Mem) : Option (Int32 × Mem) :=
  ob (X12_isThere k0 σ) (fun r1 =>
    if r1 = 0 then (
    some ((-1000002), σ))
  else (
    if 0 ≤ v1 then (
      ob (X12_layWritten k0 σ) (fun σ4 =>
        if (σ4 k0 27) ≤ v1 then (
        some ((-1000000), σ4))
      else (
        gdx v1 64 (
          some (σ4 (k0 + 16) (nc v1), σ4)))))
    else (
      some ((-1000001), σ))))
def X12_sign (k0 : Nat) (v1 : Int32) (σ : Mem) : Option (Int32 × Mem) := X12_sign_b0 k0 v1 σ
def X12_page_b56 (k0 : Nat) (v1 : Int32) (v2 : Int32) (σ : Mem) : Option (Int32 × Mem) :=
  gdx (((3 + (4 * v1)) + 1) + v2) 43 (
    some (σ (k0 + 4) (nc (((3 + (4 * v1)) + 1) + v2)), σ))
def X12_page_b0 (k0 : Nat) (v1 : Int32) (v2 : Int32) (σ : Mem) : Option (Int32 × Mem) :=
  ob (X12_isPage k0 v1 σ) (fun r1 =>
    if r1 = 0 then (
    some ((-1000001), σ))
  else (
    if v2 = 0 then (
      X12_page_b56 k0 v1 v2 σ)
    else (
      if v2 = 1 then (
        X12_page_b56 k0 v1 v2 σ)
      else (
        if v2 = 2 then (
          X12_page_b56 k0 v1 v2 σ)
        else (
          if v2 = 3 then (
            ob2 (X12_layGroups k0 σ) (fun r7 σ8 =>
              ob (X12_groupOf k0 v1 σ8) (fun r9 =>
              some (r9, σ8))))
          else (
            if v2 = 4 then (
              ob2 (X12_layHands k0 (k0 + 4) σ) (fun r11 σ12 =>
                gdx v1 10 (
                some (σ12 (k0 + 13) (nc v1), σ12))))
            else (
              if v2 = 5 then (
                ob2 (X12_layHands k0 (k0 + 4) σ) (fun r15 σ16 =>
                  ob (X12_isInDoubt k0 v1 r15 σ16) (fun r17 =>
                  if r17 = 0 then (
                  some (0, σ16))
                else (
                  some (1, σ16)))))
              else (
                if v2 = 6 then (
                  ob2 (X12_layRuns k0 σ) (fun r20 σ21 =>
                    ob (X12_runOf k0 v1 r20 σ21) (fun r22 =>
                    some (r22, σ21))))
                else (
                  some ((-1000001), σ))))))))))
def X12_page (k0 : Nat) (v1 : Int32) (v2 : Int32) (σ : Mem) : Option (Int32 × Mem) := X12_page_b0 k0 v1 v2 σ
def X12_whole_b123 (k0 : Nat) (v1 : Int32) (σ : Mem) : Option (Int32 × Mem) :=
  gdx ((1 + v1) - 6) 43 (
    some (σ (k0 + 4) (nc ((1 + v1) - 6)), σ))
def X12_whole_b0 (k0 : Nat) (v1 : Int32) (σ : Mem) : Option (Int32 × Mem) :=
  ob (X12_isThere k0 σ) (fun r1 =>
    if r1 = 0 then (
    some ((-1000002), σ))
  else (
    if v1 = 0 then (
      ob2 (X12_layHands k0 (k0 + 4) σ) (fun r4 σ5 =>
        some (r4, σ5)))
    else (
      if v1 = 1 then (
        ob2 (X12_layHands k0 (k0 + 4) σ) (fun r7 σ8 =>
          ob (X12_doubts k0 r7 σ8) (fun r9 =>
          some (r9, σ8))))
      else (
        if v1 = 2 then (
          ob2 (X12_layRuns k0 σ) (fun r11 σ12 =>
            some (r11, σ12)))
        else (
          if v1 = 3 then (
            ob2 (X12_layRuns k0 σ) (fun r14 σ15 =>
              some (σ15 k0 25, σ15)))
          else (
            if v1 = 4 then (
              ob2 (X12_layGroups k0 σ) (fun r17 σ18 =>
                some (r17, σ18)))
            else (
              if v1 = 5 then (
                ob (X12_allOf (k0 + 4) σ) (fun r20 =>
                  ob (X12_spreadOf (k0 + 4) r20 σ) (fun r21 =>
                  some (r21, σ))))
              else (
                if v1 = 6 then (
                  X12_whole_b123 k0 v1 σ)
                else (
                  if v1 = 7 then (
                    X12_whole_b123 k0 v1 σ)
                  else (
                    if v1 = 8 then (
                      ob (X12_layWritten k0 σ) (fun σ25 =>
                        some (σ25 k0 27, σ25)))
                    else (
                      some ((-1000001), σ))))))))))))
def X12_whole (k0 : Nat) (v1 : Int32) (σ : Mem) : Option (Int32 × Mem) := X12_whole_b0 k0 v1 σ
def X12_isAt_b0 (k0 : Nat) (v1 : Int32) (v2 : Int32) (σ : Mem) : Option Int32 :=
  if v2 = 0 then (
    if v1 < (σ k0 10) then (
      some 0)
    else (
      some 1))
  else (
    if (σ k0 10) ≤ v1 then (
      some 0)
    else (
      gdx v1 130 (
        if (σ (k0 + 8) (nc v1)) = v2 then (
        some 1)
      else (
        some 0))))
def X12_isAt (k0 : Nat) (v1 : Int32) (v2 : Int32) (σ : Mem) : Option Int32 := X12_isAt_b0 k0 v1 v2 σ
def X12_isTold_b0 (k0 : Nat) (v1 : Int32) (v2 : Int32) (v3 : Int32) (v4 : Int32) (v5 : Int32) (v6 : Int32) (σ : Mem) : Option Int32 :=
  ob (X12_isAt k0 0 v1 σ) (fun r1 =>
    if r1 = 0 then (
    some 0)
  else (
    ob (X12_isAt k0 1 v2 σ) (fun r3 =>
      if r3 = 0 then (
      some 0)
    else (
      ob (X12_isAt k0 2 v3 σ) (fun r5 =>
        if r5 = 0 then (
        some 0)
      else (
        ob (X12_isAt k0 3 v4 σ) (fun r7 =>
          if r7 = 0 then (
          some 0)
        else (
          ob (X12_isAt k0 4 v5 σ) (fun r9 =>
            if r9 = 0 then (
            some 0)
          else (
            ob (X12_isAt k0 5 v6 σ) (fun r11 =>
              if r11 = 0 then (
              some 0)
            else (
              if 6 < (σ k0 10) then (
                some 0)
              else (
                some 1)))))))))))))
def X12_isTold (k0 : Nat) (v1 : Int32) (v2 : Int32) (v3 : Int32) (v4 : Int32) (v5 : Int32) (v6 : Int32) (σ : Mem) : Option Int32 := X12_isTold_b0 k0 v1 v2 v3 v4 v5 v6 σ
def X12_askedLater_b0 (k0 : Nat) (σ : Mem) : Option Int32 :=
  ob (X12_isTold k0 115 112 114 101 97 100 σ) (fun r1 =>
    if r1 = 0 then (
    ob (X12_isTold k0 108 105 109 105 116 0 σ) (fun r3 =>
      if r3 = 0 then (
      ob (X12_isTold k0 99 104 97 110 103 101 σ) (fun r5 =>
        if r5 = 0 then (
        ob (X12_isTold k0 112 97 103 101 115 0 σ) (fun r7 =>
          if r7 = 0 then (
          some (-1))
        else (
          some 9)))
      else (
        some 7)))
    else (
      some 6)))
  else (
    some 5))
def X12_askedLater (k0 : Nat) (σ : Mem) : Option Int32 := X12_askedLater_b0 k0 σ
def X12_asked_b0 (k0 : Nat) (σ : Mem) : Option Int32 :=
  ob (X12_isTold k0 104 97 110 100 115 0 σ) (fun r1 =>
    if r1 = 0 then (
    ob (X12_isTold k0 100 111 117 98 116 115 σ) (fun r3 =>
      if r3 = 0 then (
      ob (X12_isTold k0 114 117 110 115 0 0 σ) (fun r5 =>
        if r5 = 0 then (
        ob (X12_isTold k0 119 101 105 103 104 116 σ) (fun r7 =>
          if r7 = 0 then (
          ob (X12_isTold k0 103 114 111 117 112 115 σ) (fun r9 =>
            if r9 = 0 then (
            ob (X12_askedLater k0 σ) (fun r11 =>
              some r11))
          else (
            some 4)))
        else (
          some 3)))
      else (
        some 2)))
    else (
      some 1)))
  else (
    some 0))
def X12_asked (k0 : Nat) (σ : Mem) : Option Int32 := X12_asked_b0 k0 σ
def X12_say_b0 (k0 : Nat) (σ : Mem) : Option (Int32 × Mem) :=
  ob (X12_asked k0 σ) (fun r1 =>
    ob (X12_isThere k0 (wr σ k0 10 0)) (fun r2 =>
    if r2 = 0 then (
    some ((-1000002), wr σ k0 10 0))
  else (
    if 0 ≤ r1 then (
      if r1 = 9 then (
        letv (wr σ k0 10 0) (fun σ8 =>
          some (σ8 (k0 + 4) (nc 0), σ8)))
      else (
        ob2 (X12_whole k0 r1 (wr σ k0 10 0)) (fun r6 σ7 =>
          some (r6, σ7))))
    else (
      some ((-1000000), wr σ k0 10 0)))))
def X12_say (k0 : Nat) (σ : Mem) : Option (Int32 × Mem) := X12_say_b0 k0 σ
def X12_without_b0 (k0 : Nat) (v1 : Int32) (σ : Mem) : Option (Int32 × Mem) :=
  ob (X12_isPage k0 v1 σ) (fun r1 =>
    if r1 = 0 then (
    some ((-1000001), σ))
  else (
    if (σ (k0 + 4) (nc 0)) = 1 then (
      some ((-1000002), σ))
    else (
      ob (X12_layThen k0 σ) (fun σ4 =>
        ob (X12_closes (k0 + 6) v1 σ4) (fun σ5 =>
        ob2 (X12_layHands k0 (k0 + 6) σ5) (fun r6 σ7 =>
        some (r6, σ7)))))))
def X12_without (k0 : Nat) (v1 : Int32) (σ : Mem) : Option (Int32 × Mem) := X12_without_b0 k0 v1 σ
def X12_least_b36 (K36 : Nat → Int32 → Int32 → Mem → Option (Int32 × Mem)) (k0 : Nat) (v1 : Int32) (v2 : Int32) (σ : Mem) : Option (Int32 × Mem) :=
  if 200 ≤ v2 then (
    some (v2, σ))
  else (
    ob (X12_allOf (k0 + 4) σ) (fun r2 =>
      ob2 (X12_parts k0 r2 v1 0 σ) (fun r3 σ4 =>
      if r3 = 0 then (
      ob (X12_layNear k0 (k0 + 4) (v2 + 1) σ4) (fun σ6 =>
        K36 k0 v1 (v2 + 1) σ6))
    else (
      some (v2, σ4)))))
def X12_least_l36 : Nat → Nat → Int32 → Int32 → Mem → Option (Int32 × Mem)
  | 0 => fun _ _ _ _ => none
  | n + 1 => X12_least_b36 (X12_least_l36 n)
def X12_least_b0 (k0 : Nat) (v1 : Int32) (σ : Mem) : Option (Int32 × Mem) :=
  ob (X12_isThere k0 σ) (fun r1 =>
    if r1 = 0 then (
    some ((-1000002), σ))
  else (
    if (X12_in (Int32.toInt64 v1) 1 10) = 0 then (
      some ((-1000001), σ))
    else (
      ob (X12_layNear k0 (k0 + 4) 0 σ) (fun σ4 =>
        X12_least_l36 FU k0 v1 0 σ4))))
def X12_least (k0 : Nat) (v1 : Int32) (σ : Mem) : Option (Int32 × Mem) := X12_least_b0 k0 v1 σ
def X12_pairs_b0 (k0 : Nat) (v1 : Int32) (σ : Mem) : Option (Int32 × Mem) :=
  ob (X12_isPage k0 v1 σ) (fun r1 =>
    if r1 = 0 then (
    some ((-1000001), σ))
  else (
    ob (X12_layNear k0 (k0 + 4) (σ (k0 + 4) (nc 1)) σ) (fun σ3 =>
      gdx v1 10 (
      some ((σ3 (k0 + 10) (nc v1)) &&& ((shl 1 v1) ^^^ (-1)), σ3)))))
def X12_pairs (k0 : Nat) (v1 : Int32) (σ : Mem) : Option (Int32 × Mem) := X12_pairs_b0 k0 v1 σ
def X12_areHandsSo_b58 (K23 : Nat → Int32 → Int32 → Int32 → Int32 → Mem → Option (Int32 × Mem)) (k0 : Nat) (v1 : Int32) (v2 : Int32) (v5 : Int32) (s0 : Int32) (σ : Mem) : Option (Int32 × Mem) :=
  K23 k0 v1 v2 s0 (v5 + 1) σ
def X12_areHandsSo_b57 (K23 : Nat → Int32 → Int32 → Int32 → Int32 → Mem → Option (Int32 × Mem)) (k0 : Nat) (v1 : Int32) (v2 : Int32) (v5 : Int32) (σ : Mem) : Option (Int32 × Mem) :=
  X12_areHandsSo_b58 K23 k0 v1 v2 v5 0 σ
def X12_areHandsSo_b23 (K23 : Nat → Int32 → Int32 → Int32 → Int32 → Mem → Option (Int32 × Mem)) (k0 : Nat) (v1 : Int32) (v2 : Int32) (v4 : Int32) (v5 : Int32) (σ : Mem) : Option (Int32 × Mem) :=
  if v2 ≤ v5 then (
    gdb v4 (
      some (v4, σ)))
  else (
    if v4 = 0 then (
      X12_areHandsSo_b57 K23 k0 v1 v2 v5 σ)
    else (
      gdx v5 10 (
        gdx (v1 + v5) 320 (
        if (σ (k0 + 13) (nc v5)) = (σ (k0 + 3) (nc (v1 + v5))) then (
        X12_areHandsSo_b58 K23 k0 v1 v2 v5 1 σ)
      else (
        X12_areHandsSo_b57 K23 k0 v1 v2 v5 σ)))))
def X12_areHandsSo_l23 : Nat → Nat → Int32 → Int32 → Int32 → Int32 → Mem → Option (Int32 × Mem)
  | 0 => fun _ _ _ _ _ _ => none
  | n + 1 => X12_areHandsSo_b23 (X12_areHandsSo_l23 n)
def X12_areHandsSo_b18 (k0 : Nat) (v1 : Int32) (v2 : Int32) (s0 : Int32) (σ : Mem) : Option (Int32 × Mem) :=
  X12_areHandsSo_l23 FU k0 v1 v2 s0 0 σ
def X12_areHandsSo_b0 (k0 : Nat) (v1 : Int32) (v2 : Int32) (σ : Mem) : Option (Int32 × Mem) :=
  ob2 (X12_layHands k0 (k0 + 6) σ) (fun r1 σ2 =>
    if r1 ≤ 0 then (
    X12_areHandsSo_b18 k0 v1 v2 0 σ2)
  else (
    X12_areHandsSo_b18 k0 v1 v2 1 σ2))
def X12_areHandsSo (k0 : Nat) (v1 : Int32) (v2 : Int32) (σ : Mem) : Option (Int32 × Mem) := X12_areHandsSo_b0 k0 v1 v2 σ
def X12_fitting_b45 (K6 : Nat → Int32 → Int32 → Int32 → Int32 → Int32 → Int32 → Mem → Option (Int32 × Mem)) (k0 : Nat) (v1 : Int32) (v3 : Int32) (v4 : Int32) (v5 : Int32) (v7 : Int32) (s0 : Int32) (s1 : Int32) (σ : Mem) : Option (Int32 × Mem) :=
  letv (s0 ||| s1) (fun x1 =>
    K6 k0 v1 v3 v4 v5 x1 (v7 + 1) σ)
def X12_fitting_b6 (K6 : Nat → Int32 → Int32 → Int32 → Int32 → Int32 → Int32 → Mem → Option (Int32 × Mem)) (k0 : Nat) (v1 : Int32) (v3 : Int32) (v4 : Int32) (v5 : Int32) (v6 : Int32) (v7 : Int32) (σ : Mem) : Option (Int32 × Mem) :=
  if v3 < v7 then (
    some (v6, σ))
  else (
    ob (X12_layThen k0 σ) (fun σ2 =>
      gdx v1 43 (
      ob2 (X12_areHandsSo k0 v4 v5 (wr σ2 (k0 + 6) (nc v1) v7)) (fun r4 σ5 =>
      if r4 = 0 then (
      X12_fitting_b45 K6 k0 v1 v3 v4 v5 v7 v6 0 σ5)
    else (
      X12_fitting_b45 K6 k0 v1 v3 v4 v5 v7 v6 (shl 1 v7) σ5)))))
def X12_fitting_l6 : Nat → Nat → Int32 → Int32 → Int32 → Int32 → Int32 → Int32 → Mem → Option (Int32 × Mem)
  | 0 => fun _ _ _ _ _ _ _ _ => none
  | n + 1 => X12_fitting_b6 (X12_fitting_l6 n)
def X12_fitting_b0 (k0 : Nat) (v1 : Int32) (v2 : Int32) (v3 : Int32) (v4 : Int32) (v5 : Int32) (σ : Mem) : Option (Int32 × Mem) :=
  X12_fitting_l6 FU k0 v1 v3 v4 v5 0 v2 σ
def X12_fitting (k0 : Nat) (v1 : Int32) (v2 : Int32) (v3 : Int32) (v4 : Int32) (v5 : Int32) (σ : Mem) : Option (Int32 × Mem) := X12_fitting_b0 k0 v1 v2 v3 v4 v5 σ
def X12_fittingLimits_b57 (K14 : Nat → Int32 → Int32 → Int32 → Int32 → Int32 → Int32 → Mem → Option (Int32 × Mem)) (k0 : Nat) (v1 : Int32) (v2 : Int32) (v3 : Int32) (v4 : Int32) (v5 : Int32) (v6 : Int32) (σ : Mem) : Option (Int32 × Mem) :=
  K14 k0 v1 v2 v3 v4 v5 (v6 + 1) σ
def X12_fittingLimits_b55 (K14 : Nat → Int32 → Int32 → Int32 → Int32 → Int32 → Int32 → Mem → Option (Int32 × Mem)) (k0 : Nat) (v1 : Int32) (v2 : Int32) (v3 : Int32) (v4 : Int32) (v6 : Int32) (s0 : Int32) (σ : Mem) : Option (Int32 × Mem) :=
  X12_fittingLimits_b57 K14 k0 v1 v2 v3 v4 s0 v6 σ
def X12_fittingLimits_b14 (K14 : Nat → Int32 → Int32 → Int32 → Int32 → Int32 → Int32 → Mem → Option (Int32 × Mem)) (k0 : Nat) (v1 : Int32) (v2 : Int32) (v3 : Int32) (v4 : Int32) (v5 : Int32) (v6 : Int32) (σ : Mem) : Option (Int32 × Mem) :=
  if 60 < v6 then (
    if v1 = 0 then (
      some (v4, σ))
    else (
      some (v5, σ)))
  else (
    ob2 (X12_areHandsSo k0 v2 v3 (wr σ (k0 + 6) (nc 1) v6)) (fun r3 σ4 =>
      if r3 = 0 then (
      X12_fittingLimits_b57 K14 k0 v1 v2 v3 v4 v5 v6 σ4)
    else (
      if v5 = (-1000000) then (
        X12_fittingLimits_b55 K14 k0 v1 v2 v3 (v4 + 1) v6 v6 σ4)
      else (
        X12_fittingLimits_b55 K14 k0 v1 v2 v3 (v4 + 1) v6 v5 σ4))))
def X12_fittingLimits_l14 : Nat → Nat → Int32 → Int32 → Int32 → Int32 → Int32 → Int32 → Mem → Option (Int32 × Mem)
  | 0 => fun _ _ _ _ _ _ _ _ => none
  | n + 1 => X12_fittingLimits_b14 (X12_fittingLimits_l14 n)
def X12_fittingLimits_b0 (k0 : Nat) (v1 : Int32) (v2 : Int32) (v3 : Int32) (σ : Mem) : Option (Int32 × Mem) :=
  ob (X12_layThen k0 σ) (fun σ1 =>
    X12_fittingLimits_l14 FU k0 v1 v2 v3 0 (-1000000) 0 σ1)
def X12_fittingLimits (k0 : Nat) (v1 : Int32) (v2 : Int32) (v3 : Int32) (σ : Mem) : Option (Int32 × Mem) := X12_fittingLimits_b0 k0 v1 v2 v3 σ
def X12_who_b90 (k0 : Nat) (σ : Mem) : Option (Int32 × Mem) :=
  ob2 (X12_finding k0 2 σ) (fun r1 σ2 =>
    some (r1, σ2))
def X12_who_b0 (k0 : Nat) (v1 : Int32) (v2 : Int32) (v3 : Int32) (v4 : Int32) (v5 : Int32) (σ : Mem) : Option (Int32 × Mem) :=
  ob (X12_isPage k0 v1 σ) (fun r1 =>
    if r1 = 0 then (
    some ((-1000001), σ))
  else (
    if (X12_in (Int32.toInt64 v2) 0 5) = 0 then (
      some ((-1000001), σ))
    else (
      if (X12_isRow v3) = 0 then (
        some ((-1000001), σ))
      else (
        if (X12_in (Int32.toInt64 v5) 1 (Int32.toInt64 (σ (k0 + 4) (nc 0)))) = 0 then (
          some ((-1000001), σ))
        else (
          letv (wr σ k0 0 0) (fun σ6 =>
            gdx v3 8 (
            if 0 ≤ (σ6 (k0 + 1) (nc v3)) then (
            if v4 < 0 then (
              X12_who_b90 k0 σ6)
            else (
              gdx v3 8 (
                if (lg_cmp ((Int32.toInt64 v4) + (Int32.toInt64 v5)) (Int32.toInt64 (σ6 (k0 + 2) (nc v3)))) ≤ 0 then (
                letv ((40 * v3) + v4) (fun x12 =>
                  letv (3 + (4 * v1)) (fun x13 =>
                  if 2 ≤ v2 then (
                  if v2 = 2 then (
                    ob2 (X12_fitting k0 x13 1 5 x12 v5 σ6) (fun r18 σ19 =>
                      some (r18, σ19)))
                  else (
                    ob2 (X12_fitting k0 ((x13 + v2) - 2) 0 30 x12 v5 σ6) (fun r16 σ17 =>
                      some (r16, σ17))))
                else (
                  ob2 (X12_fittingLimits k0 v2 x12 v5 σ6) (fun r20 σ21 =>
                    some (r20, σ21))))))
              else (
                X12_who_b90 k0 σ6))))
          else (
            ob2 (X12_finding k0 1 σ6) (fun r22 σ23 =>
              some (r22, σ23))))))))))
def X12_who (k0 : Nat) (v1 : Int32) (v2 : Int32) (v3 : Int32) (v4 : Int32) (v5 : Int32) (σ : Mem) : Option (Int32 × Mem) := X12_who_b0 k0 v1 v2 v3 v4 v5 σ
def X12_lost_b203 (K203 : Int32 → Int64 → Int64 → Int64 → Int64 → Mem → Option (Int64 × Mem)) (v3 : Int32) (v4 : Int64) (v6 : Int64) (v8 : Int64) (v10 : Int64) (σ : Mem) : Option (Int64 × Mem) :=
  if (lg_cmp v10 0) = 0 then (
    if v3 = 0 then (
      gdl v8 (
        some (v4 / v8, σ)))
    else (
      gdl v8 (
        some (v6 / v8, σ))))
  else (
    gdl v10 (
      letv (lrm v8 v10) (fun x6 =>
      K203 v3 v4 v6 v10 x6 σ)))
def X12_lost_l203 : Nat → Int32 → Int64 → Int64 → Int64 → Int64 → Mem → Option (Int64 × Mem)
  | 0 => fun _ _ _ _ _ _ => none
  | n + 1 => X12_lost_b203 (X12_lost_l203 n)
def X12_lost_b186 (K72 : Nat → Int32 → Int32 → Int32 → Int64 → Int64 → Int32 → Mem → Option (Int64 × Mem)) (k0 : Nat) (v1 : Int32) (v2 : Int32) (v3 : Int32) (v6 : Int64) (v8 : Int32) (s0 : Int64) (s1 : Int64) (σ : Mem) : Option (Int64 × Mem) :=
  letv (s0 + s1) (fun x1 =>
    K72 k0 v1 v2 v3 x1 v6 (v8 + 1) σ)
def X12_lost_b171 (K72 : Nat → Int32 → Int32 → Int32 → Int64 → Int64 → Int32 → Mem → Option (Int64 × Mem)) (k0 : Nat) (v1 : Int32) (v2 : Int32) (v3 : Int32) (v4 : Int64) (v6 : Int64) (v8 : Int32) (v9 : Int64) (s0 : Int32) (σ : Mem) : Option (Int64 × Mem) :=
  if s0 = 0 then (
    X12_lost_b186 K72 k0 v1 v2 v3 v6 v8 v4 0 σ)
  else (
    X12_lost_b186 K72 k0 v1 v2 v3 v6 v8 v4 v9 σ)
def X12_lost_b166 (K72 : Nat → Int32 → Int32 → Int32 → Int64 → Int64 → Int32 → Mem → Option (Int64 × Mem)) (k0 : Nat) (v1 : Int32) (v2 : Int32) (v3 : Int32) (v4 : Int64) (v6 : Int64) (v8 : Int32) (v9 : Int64) (σ : Mem) : Option (Int64 × Mem) :=
  X12_lost_b171 K72 k0 v1 v2 v3 v4 v6 v8 v9 1 σ
def X12_lost_b170 (K72 : Nat → Int32 → Int32 → Int32 → Int64 → Int64 → Int32 → Mem → Option (Int64 × Mem)) (k0 : Nat) (v1 : Int32) (v2 : Int32) (v3 : Int32) (v4 : Int64) (v6 : Int64) (v8 : Int32) (v9 : Int64) (σ : Mem) : Option (Int64 × Mem) :=
  X12_lost_b171 K72 k0 v1 v2 v3 v4 v6 v8 v9 0 σ
def X12_lost_b123 (K72 : Nat → Int32 → Int32 → Int32 → Int64 → Int64 → Int32 → Mem → Option (Int64 × Mem)) (K90 : Nat → Int32 → Int32 → Int32 → Int64 → Int64 → Int32 → Int64 → Int32 → Mem → Option (Int64 × Mem)) (k0 : Nat) (v1 : Int32) (v2 : Int32) (v3 : Int32) (v4 : Int64) (v6 : Int64) (v8 : Int32) (v11 : Int32) (s0 : Int64) (s1 : Int64) (σ : Mem) : Option (Int64 × Mem) :=
  letv (s0 * s1) (fun x1 =>
    K90 k0 v1 v2 v3 v4 v6 v8 x1 (v11 + 1) σ)
def X12_lost_b90 (K72 : Nat → Int32 → Int32 → Int32 → Int64 → Int64 → Int32 → Mem → Option (Int64 × Mem)) (K90 : Nat → Int32 → Int32 → Int32 → Int64 → Int64 → Int32 → Int64 → Int32 → Mem → Option (Int64 × Mem)) (k0 : Nat) (v1 : Int32) (v2 : Int32) (v3 : Int32) (v4 : Int64) (v6 : Int64) (v8 : Int32) (v9 : Int64) (v11 : Int32) (σ : Mem) : Option (Int64 × Mem) :=
  if (σ (k0 + 4) (nc 0)) ≤ v11 then (
    letv (v6 + v9) (fun x2 =>
      if v8 = 0 then (
      X12_lost_b166 K72 k0 v1 v2 v3 v4 x2 v8 v9 σ)
    else (
      if v1 ≤ 0 then (
        X12_lost_b170 K72 k0 v1 v2 v3 v4 x2 v8 v9 σ)
      else (
        if (lg_cmp v9 0) ≤ 0 then (
          X12_lost_b170 K72 k0 v1 v2 v3 v4 x2 v8 v9 σ)
        else (
          ob2 (X12_parts k0 v8 v1 0 σ) (fun r6 σ7 =>
            if r6 = 0 then (
            X12_lost_b170 K72 k0 v1 v2 v3 v4 x2 v8 v9 σ7)
          else (
            X12_lost_b166 K72 k0 v1 v2 v3 v4 x2 v8 v9 σ7)))))))
  else (
    if (X12_has v8 v11) = 0 then (
      X12_lost_b123 K72 K90 k0 v1 v2 v3 v4 v6 v8 v11 v9 (Int32.toInt64 v2) σ)
    else (
      X12_lost_b123 K72 K90 k0 v1 v2 v3 v4 v6 v8 v11 v9 (Int32.toInt64 (10 - v2)) σ))
def X12_lost_l90 (K72 : Nat → Int32 → Int32 → Int32 → Int64 → Int64 → Int32 → Mem → Option (Int64 × Mem)) : Nat → Nat → Int32 → Int32 → Int32 → Int64 → Int64 → Int32 → Int64 → Int32 → Mem → Option (Int64 × Mem)
  | 0 => fun _ _ _ _ _ _ _ _ _ _ => none
  | n + 1 => X12_lost_b90 K72 (X12_lost_l90 K72 n)
def X12_lost_b72 (K72 : Nat → Int32 → Int32 → Int32 → Int64 → Int64 → Int32 → Mem → Option (Int64 × Mem)) (k0 : Nat) (v1 : Int32) (v2 : Int32) (v3 : Int32) (v4 : Int64) (v6 : Int64) (v8 : Int32) (σ : Mem) : Option (Int64 × Mem) :=
  ob (X12_allOf (k0 + 4) σ) (fun r1 =>
    if r1 < v8 then (
    X12_lost_l203 FU v3 v4 v6 v4 v6 σ)
  else (
    X12_lost_l90 K72 FU k0 v1 v2 v3 v4 v6 v8 1 0 σ))
def X12_lost_l72 : Nat → Nat → Int32 → Int32 → Int32 → Int64 → Int64 → Int32 → Mem → Option (Int64 × Mem)
  | 0 => fun _ _ _ _ _ _ _ _ => none
  | n + 1 => X12_lost_b72 (X12_lost_l72 n)
def X12_lost_b0 (k0 : Nat) (v1 : Int32) (v2 : Int32) (v3 : Int32) (σ : Mem) : Option (Int64 × Mem) :=
  ob (X12_isThere k0 σ) (fun r1 =>
    if r1 = 0 then (
    some ((-1000002), σ))
  else (
    if (X12_in (Int32.toInt64 v1) 0 10) = 0 then (
      some ((-1000001), σ))
    else (
      if (X12_in (Int32.toInt64 v2) 0 10) = 0 then (
        some ((-1000001), σ))
      else (
        if (X12_in (Int32.toInt64 v3) 0 1) = 0 then (
          some ((-1000001), σ))
        else (
          ob (X12_layNear k0 (k0 + 4) (σ (k0 + 4) (nc 1)) σ) (fun σ6 =>
            X12_lost_l72 FU k0 v1 v2 v3 0 0 0 σ6))))))
def X12_lost (k0 : Nat) (v1 : Int32) (v2 : Int32) (v3 : Int32) (σ : Mem) : Option (Int64 × Mem) := X12_lost_b0 k0 v1 v2 v3 σ
def X12_drawn_b61 (K61 : Nat → Int32 → Int32 → Int64 → Int32 → Int32 → Mem → Option (Int32 × Mem)) (k0 : Nat) (v1 : Int32) (v3 : Int32) (v4 : Int64) (v6 : Int32) (v7 : Int32) (σ : Mem) : Option (Int32 × Mem) :=
  if v1 ≤ v7 then (
    if v3 = 0 then (
      some (v6, σ))
    else (
      ob (X12_allOf (k0 + 6) σ) (fun r3 =>
        ob (X12_spreadOf (k0 + 6) r3 σ) (fun r4 =>
        some (r4, σ)))))
  else (
    letv (lrm (v4 * 16807) 2147483647) (fun x5 =>
      gdl (Int32.toInt64 (σ (k0 + 6) (nc 0))) (
      letv (Int64.toInt32 (lrm x5 (Int32.toInt64 (σ (k0 + 6) (nc 0))))) (fun x7 =>
      letv (Int64.toInt32 (lrm (x5 / 16) 3)) (fun x8 =>
      gdx (((3 + (4 * x7)) + 1) + x8) 43 (
      ob2 (X12_layHands k0 (k0 + 6) (wr σ (k0 + 6) (nc (((3 + (4 * x7)) + 1) + x8)) (Int64.toInt32 (lrm (x5 / 64) 31)))) (fun r10 σ11 =>
      letv (v6 + r10) (fun x12 =>
      K61 k0 v1 v3 x5 x12 (v7 + 1) σ11))))))))
def X12_drawn_l61 : Nat → Nat → Int32 → Int32 → Int64 → Int32 → Int32 → Mem → Option (Int32 × Mem)
  | 0 => fun _ _ _ _ _ _ _ => none
  | n + 1 => X12_drawn_b61 (X12_drawn_l61 n)
def X12_drawn_b0 (k0 : Nat) (v1 : Int32) (v2 : Int32) (v3 : Int32) (σ : Mem) : Option (Int32 × Mem) :=
  ob (X12_isThere k0 σ) (fun r1 =>
    if r1 = 0 then (
    some ((-1000002), σ))
  else (
    if (X12_in (Int32.toInt64 v1) 0 20) = 0 then (
      some ((-1000001), σ))
    else (
      if (X12_in (Int32.toInt64 v2) 1 999999) = 0 then (
        some ((-1000001), σ))
      else (
        if (X12_in (Int32.toInt64 v3) 0 1) = 0 then (
          some ((-1000001), σ))
        else (
          ob (X12_layThen k0 σ) (fun σ6 =>
            letv (Int32.toInt64 v2) (fun x7 =>
            X12_drawn_l61 FU k0 v1 v3 x7 0 0 σ6)))))))
def X12_drawn (k0 : Nat) (v1 : Int32) (v2 : Int32) (v3 : Int32) (σ : Mem) : Option (Int32 × Mem) := X12_drawn_b0 k0 v1 v2 v3 σ
def X12_image_b25 (K25 : Nat → Int32 → Int32 → Mem → Option (Int32 × Mem)) (k0 : Nat) (v1 : Int32) (v2 : Int32) (σ : Mem) : Option (Int32 × Mem) :=
  if 43 ≤ v2 then (
    gdx v1 2 (
      some (1, wr σ (k0 + 17) (nc v1) 1)))
  else (
    gdx v2 43 (
      gdx ((43 * v1) + v2) 86 (
      K25 k0 v1 (v2 + 1) (wr σ (k0 + 18) (nc ((43 * v1) + v2)) (σ (k0 + 4) (nc v2))))))
def X12_image_l25 : Nat → Nat → Int32 → Int32 → Mem → Option (Int32 × Mem)
  | 0 => fun _ _ _ _ => none
  | n + 1 => X12_image_b25 (X12_image_l25 n)
def X12_image_b0 (k0 : Nat) (v1 : Int32) (σ : Mem) : Option (Int32 × Mem) :=
  if (X12_in (Int32.toInt64 v1) 0 1) = 0 then (
    some ((-1000001), σ))
  else (
    ob (X12_isThere k0 σ) (fun r2 =>
      if r2 = 0 then (
      some ((-1000002), σ))
    else (
      X12_image_l25 FU k0 v1 0 σ)))
def X12_image (k0 : Nat) (v1 : Int32) (σ : Mem) : Option (Int32 × Mem) := X12_image_b0 k0 v1 σ
def X12_restore_b27 (K27 : Nat → Int32 → Int32 → Mem → Option (Int32 × Mem)) (k0 : Nat) (v1 : Int32) (v2 : Int32) (σ : Mem) : Option (Int32 × Mem) :=
  if 43 ≤ v2 then (
    some (1, wr σ k0 8 0))
  else (
    gdx ((43 * v1) + v2) 86 (
      gdx v2 43 (
      K27 k0 v1 (v2 + 1) (wr σ (k0 + 4) (nc v2) (σ (k0 + 18) (nc ((43 * v1) + v2)))))))
def X12_restore_l27 : Nat → Nat → Int32 → Int32 → Mem → Option (Int32 × Mem)
  | 0 => fun _ _ _ _ => none
  | n + 1 => X12_restore_b27 (X12_restore_l27 n)
def X12_restore_b0 (k0 : Nat) (v1 : Int32) (σ : Mem) : Option (Int32 × Mem) :=
  if (X12_in (Int32.toInt64 v1) 0 1) = 0 then (
    some ((-1000001), σ))
  else (
    gdx v1 2 (
      if (σ (k0 + 17) (nc v1)) = 0 then (
      some ((-1000002), σ))
    else (
      X12_restore_l27 FU k0 v1 0 σ)))
def X12_restore (k0 : Nat) (v1 : Int32) (σ : Mem) : Option (Int32 × Mem) := X12_restore_b0 k0 v1 σ
def X12_isOf_b29  : Int32 :=
  1
def X12_isOf_b19 (v0 : Int32) (v1 : Int32) : Int32 :=
  if v1 = 4 then (
    if v0 = 5 then (
      X12_isOf_b29 )
    else (
      0))
  else (
    0)
def X12_isOf_b0 (v0 : Int32) (v1 : Int32) : Int32 :=
  if v1 = 0 then (
    X12_isOf_b29 )
  else (
    if v0 = v1 then (
      X12_isOf_b29 )
    else (
      if v1 = 1 then (
        if v0 < 4 then (
          X12_isOf_b29 )
        else (
          X12_isOf_b19 v0 v1))
      else (
        X12_isOf_b19 v0 v1)))
def X12_isOf (v0 : Int32) (v1 : Int32) : Int32 := X12_isOf_b0 v0 v1
def X12_kind_b0 (k0 : Nat) (v1 : Int32) (σ : Mem) : Option Int32 :=
  ob (X12_isPage k0 v1 σ) (fun r1 =>
    if r1 = 0 then (
    some (-1000001))
  else (
    ob (X12_kindOf (k0 + 4) v1 σ) (fun r3 =>
      some r3)))
def X12_kind (k0 : Nat) (v1 : Int32) (σ : Mem) : Option Int32 := X12_kind_b0 k0 v1 σ
def X12_as_b0 (k0 : Nat) (v1 : Int32) (v2 : Int32) (σ : Mem) : Option (Int32 × Mem) :=
  ob (X12_isPage k0 v1 σ) (fun r1 =>
    if r1 = 0 then (
    some ((-1000001), σ))
  else (
    if (X12_in (Int32.toInt64 v2) 0 5) = 0 then (
      some ((-1000001), σ))
    else (
      ob (X12_kindOf (k0 + 4) v1 (wr σ k0 0 0)) (fun r4 =>
        if (X12_isOf r4 v2) = 0 then (
        ob2 (X12_finding k0 3 (wr σ k0 0 0)) (fun r6 σ7 =>
          some (r6, σ7)))
      else (
        some (v1, wr σ k0 0 0))))))
def X12_as (k0 : Nat) (v1 : Int32) (v2 : Int32) (σ : Mem) : Option (Int32 × Mem) := X12_as_b0 k0 v1 v2 σ
def X12_began_b0 (k0 : Nat) (v1 : Int32) (σ : Mem) : Option Mem :=
  if 16 ≤ (σ k0 31) then (
    some σ)
  else (
    gdx (σ k0 31) 16 (
      letv (wr σ (k0 + 19) (nc (σ k0 31)) v1) (fun σ3 =>
      some (wr σ3 k0 31 ((σ3 k0 31) + 1)))))
def X12_began (k0 : Nat) (v1 : Int32) (σ : Mem) : Option Mem := X12_began_b0 k0 v1 σ
def X12_lentSize_b0 (k0 : Nat) (v1 : Int32) (σ : Mem) : Option (Int32 × Mem) :=
  ob (X12_began k0 10 σ) (fun σ1 =>
    gdx ((3 + (4 * v1)) + 1) 43 (
    some (σ1 (k0 + 4) (nc ((3 + (4 * v1)) + 1)), σ1)))
def X12_lentSize (k0 : Nat) (v1 : Int32) (σ : Mem) : Option (Int32 × Mem) := X12_lentSize_b0 k0 v1 σ
def X12_copySize_b28 (k0 : Nat) (v1 : Int32) (v2 : Int32) (σ : Mem) : Option (Int32 × Mem) :=
  ob (X12_began k0 13 σ) (fun σ1 =>
    ob2 (X12_lentSize k0 v1 σ1) (fun r2 σ3 =>
    letv (r2 - 100) (fun x4 =>
    if v2 = 0 then (
    some (x4, σ3))
  else (
    some (2 * x4, σ3)))))
def X12_copySize_b17 (k0 : Nat) (v1 : Int32) (s0 : Int32) (σ : Mem) : Option (Int32 × Mem) :=
  if s0 = 0 then (
    X12_copySize_b28 k0 v1 s0 σ)
  else (
    ob (X12_began k0 14 σ) (fun σ2 =>
      X12_copySize_b28 k0 v1 s0 σ2))
def X12_copySize_b0 (k0 : Nat) (v1 : Int32) (σ : Mem) : Option (Int32 × Mem) :=
  ob (X12_kindOf (k0 + 4) v1 σ) (fun r1 =>
    if r1 = 5 then (
    X12_copySize_b17 k0 v1 1 σ)
  else (
    X12_copySize_b17 k0 v1 0 σ))
def X12_copySize (k0 : Nat) (v1 : Int32) (σ : Mem) : Option (Int32 × Mem) := X12_copySize_b0 k0 v1 σ
def X12_markOf_b91 (v2 : Int32) (s0 : Int32) (s1 : Int32) (σ : Mem) : Option (Int32 × Mem) :=
  letv (s0 + s1) (fun x1 =>
    if v2 = 1 then (
    some (x1, σ))
  else (
    if v2 = 3 then (
      some (x1 - 1000, σ))
    else (
      some (2 * x1, σ))))
def X12_markOf_b55 (k0 : Nat) (v1 : Int32) (v2 : Int32) (σ : Mem) : Option (Int32 × Mem) :=
  ob (X12_began k0 21 σ) (fun σ1 =>
    ob (X12_began k0 20 σ1) (fun σ2 =>
    ob2 (X12_layHands k0 (k0 + 4) σ2) (fun r3 σ4 =>
    if r3 ≤ 0 then (
    X12_markOf_b91 v2 v1 0 σ4)
  else (
    gdx v1 10 (
      X12_markOf_b91 v2 v1 (σ4 (k0 + 13) (nc v1)) σ4)))))
def X12_markOf_b52 (k0 : Nat) (v1 : Int32) (v2 : Int32) (s0 : Nat) (s1 : Int32) (σ : Mem) : Option (Int32 × Mem) :=
  ob (X12_began s0 s1 σ) (fun σ1 =>
    X12_markOf_b55 k0 v1 v2 σ1)
def X12_markOf_b0 (k0 : Nat) (v1 : Int32) (σ : Mem) : Option (Int32 × Mem) :=
  ob (X12_kindOf (k0 + 4) v1 σ) (fun r1 =>
    if r1 < 4 then (
    if r1 = 1 then (
      X12_markOf_b55 k0 v1 r1 σ)
    else (
      if r1 = 3 then (
        X12_markOf_b52 k0 v1 r1 k0 22 σ)
      else (
        X12_markOf_b52 k0 v1 r1 k0 24 σ)))
  else (
    ob (X12_began k0 23 σ) (fun σ5 =>
      ob (X12_began k0 20 σ5) (fun σ6 =>
      ob2 (X12_copySize k0 v1 σ6) (fun r7 σ8 =>
      some (v1 - r7, σ8))))))
def X12_markOf (k0 : Nat) (v1 : Int32) (σ : Mem) : Option (Int32 × Mem) := X12_markOf_b0 k0 v1 σ
def X12_askedSize_b31 (k0 : Nat) (v1 : Int32) (v2 : Int32) (σ : Mem) : Option (Int32 × Mem) :=
  ob (X12_began k0 11 σ) (fun σ1 =>
    ob2 (X12_lentSize k0 v1 σ1) (fun r2 σ3 =>
    ob2 (X12_markOf k0 v1 σ3) (fun r4 σ5 =>
    letv (r2 + r4) (fun x6 =>
    if v2 = 2 then (
    some (-x6, σ5))
  else (
    some (x6, σ5))))))
def X12_askedSize_b0 (k0 : Nat) (v1 : Int32) (σ : Mem) : Option (Int32 × Mem) :=
  ob (X12_kindOf (k0 + 4) v1 σ) (fun r1 =>
    if r1 < 4 then (
    if r1 = 2 then (
      ob (X12_began k0 12 σ) (fun σ4 =>
        X12_askedSize_b31 k0 v1 r1 σ4))
    else (
      X12_askedSize_b31 k0 v1 r1 σ))
  else (
    ob2 (X12_copySize k0 v1 σ) (fun r5 σ6 =>
      some (r5, σ6))))
def X12_askedSize (k0 : Nat) (v1 : Int32) (σ : Mem) : Option (Int32 × Mem) := X12_askedSize_b0 k0 v1 σ
def X12_ask_b0 (k0 : Nat) (v1 : Int32) (v2 : Int32) (σ : Mem) : Option (Int32 × Mem) :=
  ob (X12_isPage k0 v1 σ) (fun r1 =>
    if r1 = 0 then (
    some ((-1000001), σ))
  else (
    if (X12_in (Int32.toInt64 v2) 0 1) = 0 then (
      some ((-1000001), σ))
    else (
      if v2 = 0 then (
        ob2 (X12_askedSize k0 v1 (wr σ k0 31 0)) (fun r7 σ8 =>
          some (r7, σ8)))
      else (
        ob2 (X12_markOf k0 v1 (wr σ k0 31 0)) (fun r5 σ6 =>
          some (r5, σ6))))))
def X12_ask (k0 : Nat) (v1 : Int32) (v2 : Int32) (σ : Mem) : Option (Int32 × Mem) := X12_ask_b0 k0 v1 v2 σ
def X12_trace_b0 (k0 : Nat) (v1 : Int32) (σ : Mem) : Option Int32 :=
  if (X12_in (Int32.toInt64 v1) 0 (Int32.toInt64 ((σ k0 31) - 1))) = 0 then (
    some (-1000000))
  else (
    gdx v1 16 (
      some (σ (k0 + 19) (nc v1))))
def X12_trace (k0 : Nat) (v1 : Int32) (σ : Mem) : Option Int32 := X12_trace_b0 k0 v1 σ
def X12_sumOf_b4 (K4 : Nat → Int32 → Int32 → Int32 → Mem → Option Int32) (k0 : Nat) (v1 : Int32) (v2 : Int32) (v3 : Int32) (σ : Mem) : Option Int32 :=
  if (σ (k0 + 4) (nc 0)) ≤ v3 then (
    some v2)
  else (
    gdx (((3 + (4 * v3)) + 1) + v1) 43 (
      letv (v2 + (σ (k0 + 4) (nc (((3 + (4 * v3)) + 1) + v1)))) (fun x3 =>
      K4 k0 v1 x3 (v3 + 1) σ)))
def X12_sumOf_l4 : Nat → Nat → Int32 → Int32 → Int32 → Mem → Option Int32
  | 0 => fun _ _ _ _ _ => none
  | n + 1 => X12_sumOf_b4 (X12_sumOf_l4 n)
def X12_sumOf_b0 (k0 : Nat) (v1 : Int32) (σ : Mem) : Option Int32 :=
  X12_sumOf_l4 FU k0 v1 0 0 σ
def X12_sumOf (k0 : Nat) (v1 : Int32) (σ : Mem) : Option Int32 := X12_sumOf_b0 k0 v1 σ
def X12_count_b67 (K46 : Nat → Int32 → Int32 → Mem → Option Int32) (k0 : Nat) (v3 : Int32) (s0 : Int32) (s1 : Int32) (σ : Mem) : Option Int32 :=
  letv (s0 + s1) (fun x1 =>
    K46 k0 x1 (v3 + 1) σ)
def X12_count_b46 (K46 : Nat → Int32 → Int32 → Mem → Option Int32) (k0 : Nat) (v2 : Int32) (v3 : Int32) (σ : Mem) : Option Int32 :=
  if 8 ≤ v3 then (
    some v2)
  else (
    gdx v3 8 (
      if (σ (k0 + 1) (nc v3)) < 0 then (
      X12_count_b67 K46 k0 v3 v2 0 σ)
    else (
      X12_count_b67 K46 k0 v3 v2 1 σ)))
def X12_count_l46 : Nat → Nat → Int32 → Int32 → Mem → Option Int32
  | 0 => fun _ _ _ _ => none
  | n + 1 => X12_count_b46 (X12_count_l46 n)
def X12_count_b84 (k0 : Nat) (v1 : Int32) (σ : Mem) : Option Int32 :=
  ob (X12_sumOf k0 (v1 - 2) σ) (fun r1 =>
    some r1)
def X12_count_b0 (k0 : Nat) (v1 : Int32) (σ : Mem) : Option Int32 :=
  if v1 = 0 then (
    X12_count_l46 FU k0 0 0 σ)
  else (
    if v1 = 1 then (
      some (σ (k0 + 4) (nc 0)))
    else (
      if v1 = 2 then (
        X12_count_b84 k0 v1 σ)
      else (
        if v1 = 3 then (
          X12_count_b84 k0 v1 σ)
        else (
          if v1 = 4 then (
            X12_count_b84 k0 v1 σ)
          else (
            if v1 = 5 then (
              some (σ k0 8))
            else (
              if v1 = 6 then (
                some (σ k0 10))
              else (
                some (-1000001))))))))
def X12_count (k0 : Nat) (v1 : Int32) (σ : Mem) : Option Int32 := X12_count_b0 k0 v1 σ
def X12_status_b0 (k0 : Nat) (σ : Mem) : Int32 :=
  σ k0 0
def X12_status (k0 : Nat) (σ : Mem) : Int32 := X12_status_b0 k0 σ
