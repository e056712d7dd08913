/-! THE REFERENCE'S CALLS THAT READ: key, hit, bucket, over, told, view .. -/
theorem M_in_hits {R : RS} {A : AnT} (hA : rAns R A) (h4 : A.2.1.length ≤ 400) (x : Int32) : M_in x 0 (R.1 0 26 - 1) = some (hitAt A x).isSome := by
  rw [M_in_ok, hA.2.1]
  rcases i32_cases x with z | ⟨j, hj, rfl⟩
  · rw [hitAt_neg z]
    simp [Int32.not_le.mpr z]
  · by_cases h0 : A.2.1.length = 0
    · rw [hitAt_out hj (by omega) h4, h0]
      have : ¬ nI j ≤ nI 0 - 1 := by
        have e : nI 0 - 1 = -nI 1 := by decide
        rw [e, iLeN hj (by omega)]
        exact not_false
      simp [this]
    · by_cases h : j < A.2.1.length
      · rw [hitAt_in h h4]
        simp (disch := omega) only [nl, nI_add, nI_mul, iSub, iEq, iLe, iLt, iEqN, iNEq, iNN, iLtN, iNLt, iLeN, iNLe, iAddN, iNAdd, iMin, iMax, iDiv, iRem]
        simp
        omega
      · rw [hitAt_out hj (by omega) h4]
        simp (disch := omega) only [nl, nI_add, nI_mul, iSub, iEq, iLe, iLt, iEqN, iNEq, iNN, iLtN, iNLt, iLeN, iNLe, iAddN, iNAdd, iMin, iMax, iDiv, iRem]
        simp
        omega
theorem M_key_ok {R : RS} {A : AnT} {D : List DocT} {dl : Nat → Bool} (hA : rAns R A) (hD : rDocs R D dl) (h4 : A.2.1.length ≤ 400) (hL : D.length ≤ 400) (ok : okA D A) (x : Int32) : M_key R x = some (keyS D A x) := by
  unfold M_key keyS
  rw [M_in_hits hA h4]
  cases hx : hitAt A x with
  | none => rfl
  | some y =>
    obtain ⟨h1, j, hj, rfl, hj2, rfl⟩ := hitAt_ok ok hx
    have hj2 := hj2 h4
    simp only [Option.isSome_some, if_true, if_false, not_true_eq_false, not_false_eq_true, true_and, and_true, false_and, and_false, true_or, or_true, false_or, or_false, decide_true, decide_false, Bool.false_eq_true, reduceCtorEq, Option.bind_some, Option.map_some, Option.map_none, Option.bind_none, jn_l, jn_r, jn_n, se_l, se_r]
    simp (disch := first | assumption | omega | (simp only [gT_sI, gT_sL, gT_sR, gT_sB]; first | assumption | omega)) only [Option.bind_some, ldI_ok, ldL_ok, ldR_ok, ldB_ok, stI_ok, stL_ok, stR_ok, stB_ok, chk_ok, raI_k, raL_k, raR_k, raB_k, waI_k, waL_k, waB_k, waR_k, alen_k, gT_sI, gT_sL, gT_sR, gT_sB, gN_sI, gN_sL, gN_sR, gN_sB, gI_sL, gI_sR, gI_sB, gL_sI, gL_sR, gL_sB, gR_sI, gR_sL, gR_sB, gB_sI, gB_sL, gB_sR, gI_sIs, gL_sLs, gR_sRs, gB_sBs, gI_sIn, gL_sLn, gR_sRn, gB_sBn, rdI_ok, rdL_ok, rdB_ok, wrI_ok, wrL_ok, wrB_ok, (hA.2.2.1 j hj2).1, (hD.2.1 _ h1).1]
theorem M_hit_ok {R : RS} {A : AnT} {D : List DocT} {dl : Nat → Bool} (hA : rAns R A) (hD : rDocs R D dl) (h4 : A.2.1.length ≤ 400) (hL : D.length ≤ 400) (ok : okA D A) (x w : Int32) : M_hit R x w = some (hitS D A x w) := by
  unfold M_hit hitS
  rw [M_in_ok]
  by_cases w0 : w < 0
  · have : ¬ (0 ≤ w) := Int32.not_le.mpr w0
    simp only [this, w0, if_true, if_false, not_true_eq_false, not_false_eq_true, true_and, and_true, false_and, and_false, true_or, or_true, false_or, or_false, decide_true, decide_false, Bool.false_eq_true, reduceCtorEq, Option.bind_some, Option.map_some, Option.map_none, Option.bind_none, jn_l, jn_r, jn_n, se_l, se_r]
  have w0' : 0 ≤ w := Int32.not_lt.mp w0
  by_cases w5 : w ≤ 5
  · simp only [w0, w0', w5, if_true, if_false, not_true_eq_false, not_false_eq_true, true_and, and_true, false_and, and_false, true_or, or_true, false_or, or_false, decide_true, decide_false, Bool.false_eq_true, reduceCtorEq, Option.bind_some, Option.map_some, Option.map_none, Option.bind_none, jn_l, jn_r, jn_n, se_l, se_r]
    rw [M_in_hits hA h4]
    cases hx : hitAt A x with
    | none => rfl
    | some y =>
      obtain ⟨h1, j, hj, rfl, hj2, rfl⟩ := hitAt_ok ok hx
      have hj2 := hj2 h4
      simp only [Option.isSome_some, if_true, if_false, not_true_eq_false, not_false_eq_true, true_and, and_true, false_and, and_false, true_or, or_true, false_or, or_false, decide_true, decide_false, Bool.false_eq_true, reduceCtorEq, Option.bind_some, Option.map_some, Option.map_none, Option.bind_none, jn_l, jn_r, jn_n, se_l, se_r]
      simp (disch := first | assumption | omega | (simp only [gT_sI, gT_sL, gT_sR, gT_sB]; first | assumption | omega)) only [Option.bind_some, ldI_ok, ldL_ok, ldR_ok, ldB_ok, stI_ok, stL_ok, stR_ok, stB_ok, chk_ok, raI_k, raL_k, raR_k, raB_k, waI_k, waL_k, waB_k, waR_k, alen_k, gT_sI, gT_sL, gT_sR, gT_sB, gN_sI, gN_sL, gN_sR, gN_sB, gI_sL, gI_sR, gI_sB, gL_sI, gL_sR, gL_sB, gR_sI, gR_sL, gR_sB, gB_sI, gB_sL, gB_sR, gI_sIs, gL_sLs, gR_sRs, gB_sBs, gI_sIn, gL_sLn, gR_sRn, gB_sBn, rdI_ok, rdL_ok, rdB_ok, wrI_ok, wrL_ok, wrB_ok, (hA.2.2.1 j hj2).1, (hA.2.2.1 j hj2).2]
      by_cases c : w = 0
      · simp only [c, if_true, if_false, not_true_eq_false, not_false_eq_true, true_and, and_true, false_and, and_false, true_or, or_true, false_or, or_false, decide_true, decide_false, Bool.false_eq_true, reduceCtorEq, Option.bind_some, Option.map_some, Option.map_none, Option.bind_none, jn_l, jn_r, jn_n, se_l, se_r]
      simp only [c, if_true, if_false, not_true_eq_false, not_false_eq_true, true_and, and_true, false_and, and_false, true_or, or_true, false_or, or_false, decide_true, decide_false, Bool.false_eq_true, reduceCtorEq, Option.bind_some, Option.map_some, Option.map_none, Option.bind_none, jn_l, jn_r, jn_n, se_l, se_r]
      by_cases c : w = 1
      · simp only [c, if_true, if_false, not_true_eq_false, not_false_eq_true, true_and, and_true, false_and, and_false, true_or, or_true, false_or, or_false, decide_true, decide_false, Bool.false_eq_true, reduceCtorEq, Option.bind_some, Option.map_some, Option.map_none, Option.bind_none, jn_l, jn_r, jn_n, se_l, se_r]
        simp (disch := first | assumption | omega | (simp only [gT_sI, gT_sL, gT_sR, gT_sB]; first | assumption | omega)) only [Option.bind_some, ldI_ok, ldL_ok, ldR_ok, ldB_ok, stI_ok, stL_ok, stR_ok, stB_ok, chk_ok, raI_k, raL_k, raR_k, raB_k, waI_k, waL_k, waB_k, waR_k, alen_k, gT_sI, gT_sL, gT_sR, gT_sB, gN_sI, gN_sL, gN_sR, gN_sB, gI_sL, gI_sR, gI_sB, gL_sI, gL_sR, gL_sB, gR_sI, gR_sL, gR_sB, gB_sI, gB_sL, gB_sR, gI_sIs, gL_sLs, gR_sRs, gB_sBs, gI_sIn, gL_sLn, gR_sRn, gB_sBn, rdI_ok, rdL_ok, rdB_ok, wrI_ok, wrL_ok, wrB_ok, (hD.2.1 _ h1).2.1]
      simp only [c, if_true, if_false, not_true_eq_false, not_false_eq_true, true_and, and_true, false_and, and_false, true_or, or_true, false_or, or_false, decide_true, decide_false, Bool.false_eq_true, reduceCtorEq, Option.bind_some, Option.map_some, Option.map_none, Option.bind_none, jn_l, jn_r, jn_n, se_l, se_r]
      by_cases c : w = 2
      · simp only [c, if_true, if_false, not_true_eq_false, not_false_eq_true, true_and, and_true, false_and, and_false, true_or, or_true, false_or, or_false, decide_true, decide_false, Bool.false_eq_true, reduceCtorEq, Option.bind_some, Option.map_some, Option.map_none, Option.bind_none, jn_l, jn_r, jn_n, se_l, se_r]
        simp (disch := first | assumption | omega | (simp only [gT_sI, gT_sL, gT_sR, gT_sB]; first | assumption | omega)) only [Option.bind_some, ldI_ok, ldL_ok, ldR_ok, ldB_ok, stI_ok, stL_ok, stR_ok, stB_ok, chk_ok, raI_k, raL_k, raR_k, raB_k, waI_k, waL_k, waB_k, waR_k, alen_k, gT_sI, gT_sL, gT_sR, gT_sB, gN_sI, gN_sL, gN_sR, gN_sB, gI_sL, gI_sR, gI_sB, gL_sI, gL_sR, gL_sB, gR_sI, gR_sL, gR_sB, gB_sI, gB_sL, gB_sR, gI_sIs, gL_sLs, gR_sRs, gB_sBs, gI_sIn, gL_sLn, gR_sRn, gB_sBn, rdI_ok, rdL_ok, rdB_ok, wrI_ok, wrL_ok, wrB_ok, (hD.2.1 _ h1).2.2.1]
      simp only [c, if_true, if_false, not_true_eq_false, not_false_eq_true, true_and, and_true, false_and, and_false, true_or, or_true, false_or, or_false, decide_true, decide_false, Bool.false_eq_true, reduceCtorEq, Option.bind_some, Option.map_some, Option.map_none, Option.bind_none, jn_l, jn_r, jn_n, se_l, se_r]
      have hw : w = 3 ∨ w = 4 ∨ w = 5 := by
        rcases i32_cases w with z | ⟨i, hi, rfl⟩
        · exact absurd z w0
        · rw [show (0 : Int32) = nI 0 from rfl] at *
          simp (disch := omega) only [nl, nI_add, nI_mul, iSub, iEq, iLe, iLt, iEqN, iNEq, iNN, iLtN, iNLt, iLeN, iNLe, iAddN, iNAdd, iMin, iMax, iDiv, iRem] at *
          omega
      rcases hw with rfl | rfl | rfl
      · have e := (hD.2.2.2 _ 0 h1 (by omega)).1
        rw [Nat.add_zero] at e
        have n5 : ¬ (3 : Int32) = 5 := by decide
        simp only [n5, if_true, if_false, not_true_eq_false, not_false_eq_true, true_and, and_true, false_and, and_false, true_or, or_true, false_or, or_false, decide_true, decide_false, Bool.false_eq_true, reduceCtorEq, Option.bind_some, Option.map_some, Option.map_none, Option.bind_none, jn_l, jn_r, jn_n, se_l, se_r]
        simp (disch := first | assumption | omega | (simp only [gT_sI, gT_sL, gT_sR, gT_sB]; first | assumption | omega)) only [nl, nI_add, nI_mul, iSub, iEq, iLe, iLt, iEqN, iNEq, iNN, iLtN, iNLt, iLeN, iNLe, iAddN, iNAdd, iMin, iMax, iDiv, iRem]
        rw [show 2 * (A.2.1.getD j (0, 0)).1 + 3 - 3 = 2 * (A.2.1.getD j (0, 0)).1 by omega]
        simp (disch := first | assumption | omega | (simp only [gT_sI, gT_sL, gT_sR, gT_sB]; first | assumption | omega)) only [Option.bind_some, ldI_ok, ldL_ok, ldR_ok, ldB_ok, stI_ok, stL_ok, stR_ok, stB_ok, chk_ok, raI_k, raL_k, raR_k, raB_k, waI_k, waL_k, waB_k, waR_k, alen_k, gT_sI, gT_sL, gT_sR, gT_sB, gN_sI, gN_sL, gN_sR, gN_sB, gI_sL, gI_sR, gI_sB, gL_sI, gL_sR, gL_sB, gR_sI, gR_sL, gR_sB, gB_sI, gB_sL, gB_sR, gI_sIs, gL_sLs, gR_sRs, gB_sBs, gI_sIn, gL_sLn, gR_sRn, gB_sBn, rdI_ok, rdL_ok, rdB_ok, wrI_ok, wrL_ok, wrB_ok, e]
        try rfl
      · have e := (hD.2.2.2 _ 1 h1 (by omega)).1
        have n5 : ¬ (4 : Int32) = 5 := by decide
        simp only [n5, if_true, if_false, not_true_eq_false, not_false_eq_true, true_and, and_true, false_and, and_false, true_or, or_true, false_or, or_false, decide_true, decide_false, Bool.false_eq_true, reduceCtorEq, Option.bind_some, Option.map_some, Option.map_none, Option.bind_none, jn_l, jn_r, jn_n, se_l, se_r]
        simp (disch := first | assumption | omega | (simp only [gT_sI, gT_sL, gT_sR, gT_sB]; first | assumption | omega)) only [nl, nI_add, nI_mul, iSub, iEq, iLe, iLt, iEqN, iNEq, iNN, iLtN, iNLt, iLeN, iNLe, iAddN, iNAdd, iMin, iMax, iDiv, iRem]
        rw [show 2 * (A.2.1.getD j (0, 0)).1 + 4 - 3 = 2 * (A.2.1.getD j (0, 0)).1 + 1 by omega]
        simp (disch := first | assumption | omega | (simp only [gT_sI, gT_sL, gT_sR, gT_sB]; first | assumption | omega)) only [Option.bind_some, ldI_ok, ldL_ok, ldR_ok, ldB_ok, stI_ok, stL_ok, stR_ok, stB_ok, chk_ok, raI_k, raL_k, raR_k, raB_k, waI_k, waL_k, waB_k, waR_k, alen_k, gT_sI, gT_sL, gT_sR, gT_sB, gN_sI, gN_sL, gN_sR, gN_sB, gI_sL, gI_sR, gI_sB, gL_sI, gL_sR, gL_sB, gR_sI, gR_sL, gR_sB, gB_sI, gB_sL, gB_sR, gI_sIs, gL_sLs, gR_sRs, gB_sBs, gI_sIn, gL_sLn, gR_sRn, gB_sBn, rdI_ok, rdL_ok, rdB_ok, wrI_ok, wrL_ok, wrB_ok, e]
        try rfl
      · rfl
  · simp only [w0, w5, if_true, if_false, not_true_eq_false, not_false_eq_true, true_and, and_true, false_and, and_false, true_or, or_true, false_or, or_false, decide_true, decide_false, Bool.false_eq_true, reduceCtorEq, Option.bind_some, Option.map_some, Option.map_none, Option.bind_none, jn_l, jn_r, jn_n, se_l, se_r]
theorem rval_ok {R : RS} {A : AnT} {D : List DocT} {dl : Nat → Bool} (hA : rAns R A) (hD : rDocs R D dl) (h4 : A.2.1.length ≤ 400) (hL : D.length ≤ 400) (ok : okA D A) {w : Int32} {k : Nat} (hk : k < A.2.1.length) : (if ¬ w = 0 then (rdI R 20 400 (nI k)).bind fun v7 => (rdI R 4 400 v7).bind fun v8 => some v8.toInt64 else (rdI R 20 400 (nI k)).bind fun v9 => (rdI R 3 400 v9).bind fun v10 => some v10.toInt64) = some (hv D A w k).toInt64 := by
  have h1 := ok k hk
  simp (disch := first | assumption | omega | (simp only [gT_sI, gT_sL, gT_sR, gT_sB]; first | assumption | omega)) only [Option.bind_some, ldI_ok, ldL_ok, ldR_ok, ldB_ok, stI_ok, stL_ok, stR_ok, stB_ok, chk_ok, raI_k, raL_k, raR_k, raB_k, waI_k, waL_k, waB_k, waR_k, alen_k, gT_sI, gT_sL, gT_sR, gT_sB, gN_sI, gN_sL, gN_sR, gN_sB, gI_sL, gI_sR, gI_sB, gL_sI, gL_sR, gL_sB, gR_sI, gR_sL, gR_sB, gB_sI, gB_sL, gB_sR, gI_sIs, gL_sLs, gR_sRs, gB_sBs, gI_sIn, gL_sLn, gR_sRn, gB_sBn, rdI_ok, rdL_ok, rdB_ok, wrI_ok, wrL_ok, wrB_ok, (hA.2.2.1 k hk).1, (hD.2.1 _ h1).2.2.1, (hD.2.1 _ h1).2.1]
  unfold hv valS
  split <;> rfl
theorem M_bucket_ok {R : RS} {A : AnT} {D : List DocT} {dl : Nat → Bool} (hA : rAns R A) (hD : rDocs R D dl) (h4 : A.2.1.length ≤ 400) (hL : D.length ≤ 400) (ok : okA D A) (w f n : Int32) : M_bucket R w f n = some (bucketS D A w f n) := by
  have hl := hA.2.1
  unfold M_bucket bucketS
  rw [M_in_ok]
  by_cases w0 : w < 0
  · have : ¬ (0 ≤ w) := Int32.not_le.mpr w0
    simp only [this, w0, if_true, if_false, not_true_eq_false, not_false_eq_true, true_and, and_true, false_and, and_false, true_or, or_true, false_or, or_false, decide_true, decide_false, Bool.false_eq_true, reduceCtorEq, Option.bind_some, Option.map_some, Option.map_none, Option.bind_none, jn_l, jn_r, jn_n, se_l, se_r]
  have w0' : 0 ≤ w := Int32.not_lt.mp w0
  by_cases w2 : 2 ≤ w
  · have : ¬ w ≤ 1 := Int32.not_le.mpr (Int32.lt_of_lt_of_le (by decide) w2)
    simp only [this, w0, w2, if_true, if_false, not_true_eq_false, not_false_eq_true, true_and, and_true, false_and, and_false, true_or, or_true, false_or, or_false, decide_true, decide_false, Bool.false_eq_true, reduceCtorEq, Option.bind_some, Option.map_some, Option.map_none, Option.bind_none, jn_l, jn_r, jn_n, se_l, se_r]
  have w1 : w ≤ 1 := by
    rcases i32_cases w with z | ⟨i, hi, rfl⟩
    · exact absurd z w0
    · simp (disch := omega) only [nl, nI_add, nI_mul, iSub, iEq, iLe, iLt, iEqN, iNEq, iNN, iLtN, iNLt, iLeN, iNLe, iAddN, iNAdd, iMin, iMax, iDiv, iRem] at w2 ⊢
      omega
  by_cases n1 : 1 ≤ n
  · simp only [w0, w0', w1, w2, n1, if_true, if_false, not_true_eq_false, not_false_eq_true, true_and, and_true, false_and, and_false, true_or, or_true, false_or, or_false, decide_true, decide_false, Bool.false_eq_true, reduceCtorEq, Option.bind_some, Option.map_some, Option.map_none, Option.bind_none, jn_l, jn_r, jn_n, se_l, se_r]
    have hlp : lp (fun q : Int32 × Int32 => M_bucket_l23 R w f n q.1 q.2) (nI 0, nI 0) = some (nI (cN (bkP D A w f n) A.2.1.length)) := by
      refine lp_sum (c := fun i => if bkP D A w f n i = true then 1 else 0) A.2.1.length 0 (fun j hj => ?_) ?_
      · rw [Nat.zero_add]
        unfold M_bucket_l23
        rw [hl]
        simp (disch := omega) only [iLe]
        rw [if_neg (by omega), rval_ok hA hD h4 hL ok hj]
        simp only [Option.bind_some]
        rw [show bkP D A w f n j = decide (¬ (hv D A w j).toInt64 < f.toInt64 ∧ ¬ f.toInt64 + n.toInt64 ≤ (hv D A w j).toInt64) from rfl]
        generalize hv D A w j = v
        by_cases c1 : v.toInt64 < f.toInt64
        · simp only [c1, if_true, if_false, not_true_eq_false, not_false_eq_true, true_and, and_true, false_and, and_false, true_or, or_true, false_or, or_false, decide_true, decide_false, Bool.false_eq_true, reduceCtorEq, Option.bind_some, Option.map_some, Option.map_none, Option.bind_none, jn_l, jn_r, jn_n, se_l, se_r, nl, nI_add, Nat.add_zero]
        · by_cases c2 : f.toInt64 + n.toInt64 ≤ v.toInt64
          · simp only [c1, c2, if_true, if_false, not_true_eq_false, not_false_eq_true, true_and, and_true, false_and, and_false, true_or, or_true, false_or, or_false, decide_true, decide_false, Bool.false_eq_true, reduceCtorEq, Option.bind_some, Option.map_some, Option.map_none, Option.bind_none, jn_l, jn_r, jn_n, se_l, se_r, nl, nI_add, Nat.add_zero]
          · simp only [c1, c2, if_true, if_false, not_true_eq_false, not_false_eq_true, true_and, and_true, false_and, and_false, true_or, or_true, false_or, or_false, decide_true, decide_false, Bool.false_eq_true, reduceCtorEq, Option.bind_some, Option.map_some, Option.map_none, Option.bind_none, jn_l, jn_r, jn_n, se_l, se_r, nl, nI_add]
      · rw [Nat.zero_add]
        unfold M_bucket_l23
        rw [hl]
        simp (disch := omega) only [iLe]
        rw [if_pos (by omega)]
        rfl
    rw [show (0 : Int32) = nI 0 from rfl, hlp]
    rfl
  · simp only [w0, w0', w1, w2, n1, if_true, if_false, not_true_eq_false, not_false_eq_true, true_and, and_true, false_and, and_false, true_or, or_true, false_or, or_false, decide_true, decide_false, Bool.false_eq_true, reduceCtorEq, Option.bind_some, Option.map_some, Option.map_none, Option.bind_none, jn_l, jn_r, jn_n, se_l, se_r]
theorem M_over_ok {R : RS} {A : AnT} {D : List DocT} {dl : Nat → Bool} (hA : rAns R A) (hD : rDocs R D dl) (h4 : A.2.1.length ≤ 400) (hL : D.length ≤ 400) (ok : okA D A) (w f : Int32) : M_over R w f = some (overS D A w f) := by
  have hl := hA.2.1
  unfold M_over overS
  rw [M_in_ok]
  by_cases w0 : w < 0
  · have : ¬ (0 ≤ w) := Int32.not_le.mpr w0
    simp only [this, w0, if_true, if_false, not_true_eq_false, not_false_eq_true, true_and, and_true, false_and, and_false, true_or, or_true, false_or, or_false, decide_true, decide_false, Bool.false_eq_true, reduceCtorEq, Option.bind_some, Option.map_some, Option.map_none, Option.bind_none, jn_l, jn_r, jn_n, se_l, se_r]
  have w0' : 0 ≤ w := Int32.not_lt.mp w0
  by_cases w2 : 2 ≤ w
  · have : ¬ w ≤ 1 := Int32.not_le.mpr (Int32.lt_of_lt_of_le (by decide) w2)
    simp only [this, w0, w2, if_true, if_false, not_true_eq_false, not_false_eq_true, true_and, and_true, false_and, and_false, true_or, or_true, false_or, or_false, decide_true, decide_false, Bool.false_eq_true, reduceCtorEq, Option.bind_some, Option.map_some, Option.map_none, Option.bind_none, jn_l, jn_r, jn_n, se_l, se_r]
  have w1 : w ≤ 1 := by
    rcases i32_cases w with z | ⟨i, hi, rfl⟩
    · exact absurd z w0
    · simp (disch := omega) only [nl, nI_add, nI_mul, iSub, iEq, iLe, iLt, iEqN, iNEq, iNN, iLtN, iNLt, iLeN, iNLe, iAddN, iNAdd, iMin, iMax, iDiv, iRem] at w2 ⊢
      omega
  rw [M_in_ok]
  by_cases f0 : f < 0
  · have : ¬ (0 ≤ f) := Int32.not_le.mpr f0
    simp only [this, w0, w0', w1, w2, f0, if_true, if_false, not_true_eq_false, not_false_eq_true, true_and, and_true, false_and, and_false, true_or, or_true, false_or, or_false, decide_true, decide_false, Bool.false_eq_true, reduceCtorEq, Option.bind_some, Option.map_some, Option.map_none, Option.bind_none, jn_l, jn_r, jn_n, se_l, se_r]
  have f0' : 0 ≤ f := Int32.not_lt.mp f0
  by_cases f2 : f ≤ 2
  · simp only [w0, w0', w1, w2, f0, f0', f2, if_true, if_false, not_true_eq_false, not_false_eq_true, true_and, and_true, false_and, and_false, true_or, or_true, false_or, or_false, decide_true, decide_false, Bool.false_eq_true, reduceCtorEq, Option.bind_some, Option.map_some, Option.map_none, Option.bind_none, jn_l, jn_r, jn_n, se_l, se_r]
    have hlp : lp (fun q : Int64 × Int32 => M_over_l27 R w f q.1 q.2) (0, nI 0) = some (ovS (fun k => (hv D A w k).toInt64) f A.2.1.length) := by
      refine lp_seq (fun k => (ovS (fun k => (hv D A w k).toInt64) f k, nI k)) (m := A.2.1.length) (fun j hj => ?_) ?_
      · unfold M_over_l27
        rw [hl]
        simp (disch := omega) only [iLe]
        rw [if_neg (by omega), rval_ok hA hD h4 hL ok hj]
        simp only [Option.bind_some, ovS]
        have e0 : (nI j = 0) = (j = 0) := iEq (b := 0) (by omega) (by omega)
        generalize ovS (fun k => (hv D A w k).toInt64) f j = m
        generalize hv D A w j = v
        simp only [e0]
        by_cases c0 : f = 0
        · simp only [c0, if_true, if_false, not_true_eq_false, not_false_eq_true, true_and, and_true, false_and, and_false, true_or, or_true, false_or, or_false, decide_true, decide_false, Bool.false_eq_true, reduceCtorEq, Option.bind_some, Option.map_some, Option.map_none, Option.bind_none, jn_l, jn_r, jn_n, se_l, se_r]
          simp only [nl, nI_add]
        · by_cases c : j = 0
          · simp only [c0, c, if_true, if_false, not_true_eq_false, not_false_eq_true, true_and, and_true, false_and, and_false, true_or, or_true, false_or, or_false, decide_true, decide_false, Bool.false_eq_true, reduceCtorEq, Option.bind_some, Option.map_some, Option.map_none, Option.bind_none, jn_l, jn_r, jn_n, se_l, se_r]
            simp only [nl, nI_add]
          · by_cases c1 : f = 1
            · simp only [c0, c, c1, if_true, if_false, not_true_eq_false, not_false_eq_true, true_and, and_true, false_and, and_false, true_or, or_true, false_or, or_false, decide_true, decide_false, Bool.false_eq_true, reduceCtorEq, Option.bind_some, Option.map_some, Option.map_none, Option.bind_none, jn_l, jn_r, jn_n, se_l, se_r]
              by_cases q : m ≤ v.toInt64
              · simp only [q, if_true, if_false, not_true_eq_false, not_false_eq_true, true_and, and_true, false_and, and_false, true_or, or_true, false_or, or_false, decide_true, decide_false, Bool.false_eq_true, reduceCtorEq, Option.bind_some, Option.map_some, Option.map_none, Option.bind_none, jn_l, jn_r, jn_n, se_l, se_r]
                simp only [nl, nI_add]
                rfl
              · simp only [q, if_true, if_false, not_true_eq_false, not_false_eq_true, true_and, and_true, false_and, and_false, true_or, or_true, false_or, or_false, decide_true, decide_false, Bool.false_eq_true, reduceCtorEq, Option.bind_some, Option.map_some, Option.map_none, Option.bind_none, jn_l, jn_r, jn_n, se_l, se_r]
                simp only [nl, nI_add]
                rfl
            · simp only [c0, c, c1, if_true, if_false, not_true_eq_false, not_false_eq_true, true_and, and_true, false_and, and_false, true_or, or_true, false_or, or_false, decide_true, decide_false, Bool.false_eq_true, reduceCtorEq, Option.bind_some, Option.map_some, Option.map_none, Option.bind_none, jn_l, jn_r, jn_n, se_l, se_r]
              by_cases q : v.toInt64 ≤ m
              · simp only [q, if_true, if_false, not_true_eq_false, not_false_eq_true, true_and, and_true, false_and, and_false, true_or, or_true, false_or, or_false, decide_true, decide_false, Bool.false_eq_true, reduceCtorEq, Option.bind_some, Option.map_some, Option.map_none, Option.bind_none, jn_l, jn_r, jn_n, se_l, se_r]
                simp only [nl, nI_add]
              · simp only [q, if_true, if_false, not_true_eq_false, not_false_eq_true, true_and, and_true, false_and, and_false, true_or, or_true, false_or, or_false, decide_true, decide_false, Bool.false_eq_true, reduceCtorEq, Option.bind_some, Option.map_some, Option.map_none, Option.bind_none, jn_l, jn_r, jn_n, se_l, se_r]
                simp only [nl, nI_add]
      · unfold M_over_l27
        rw [hl]
        simp (disch := omega) only [iLe]
        rw [if_pos (by omega)]
    rw [show (0 : Int32) = nI 0 from rfl, hlp]
    rfl
  · simp only [w0, w0', w1, w2, f0, f0', f2, if_true, if_false, not_true_eq_false, not_false_eq_true, true_and, and_true, false_and, and_false, true_or, or_true, false_or, or_false, decide_true, decide_false, Bool.false_eq_true, reduceCtorEq, Option.bind_some, Option.map_some, Option.map_none, Option.bind_none, jn_l, jn_r, jn_n, se_l, se_r]
theorem M_isView_ok {R : RS} {V : Nat → VwT} (hV : ∀ i, i < 4 → rView R i (V i)) (x : Int32) : M_isView R x = some (vAt V x).isSome := by
  unfold M_isView
  rw [M_in_ok]
  by_cases x0 : x < 0
  · have : ¬ (0 ≤ x) := Int32.not_le.mpr x0
    rw [vAt_out (Or.inl x0)]
    simp only [this, if_true, if_false, not_true_eq_false, not_false_eq_true, true_and, and_true, false_and, and_false, true_or, or_true, false_or, or_false, decide_true, decide_false, Bool.false_eq_true, reduceCtorEq, Option.bind_some, Option.map_some, Option.map_none, Option.bind_none, jn_l, jn_r, jn_n, se_l, se_r, Option.isSome_none]
  have x0' : 0 ≤ x := Int32.not_lt.mp x0
  by_cases x4 : 4 ≤ x
  · have : ¬ x ≤ 3 := Int32.not_le.mpr (Int32.lt_of_lt_of_le (by decide) x4)
    rw [vAt_out (Or.inr x4)]
    simp only [this, if_true, if_false, not_true_eq_false, not_false_eq_true, true_and, and_true, false_and, and_false, true_or, or_true, false_or, or_false, decide_true, decide_false, Bool.false_eq_true, reduceCtorEq, Option.bind_some, Option.map_some, Option.map_none, Option.bind_none, jn_l, jn_r, jn_n, se_l, se_r, Option.isSome_none]
  rcases i32_cases x with z | ⟨i, hi, rfl⟩
  · exact absurd z x0
  simp (disch := omega) only [nl, nI_add, nI_mul, iSub, iEq, iLe, iLt, iEqN, iNEq, iNN, iLtN, iNLt, iLeN, iNLe, iAddN, iNAdd, iMin, iMax, iDiv, iRem] at x4
  have hi4 : i < 4 := by omega
  have i3 : nI i ≤ 3 := nI_le (b := 3) (by omega) (by omega)
  rw [vAt_in hi4]
  simp only [x0', i3, if_true, if_false, not_true_eq_false, not_false_eq_true, true_and, and_true, false_and, and_false, true_or, or_true, false_or, or_false, decide_true, decide_false, Bool.false_eq_true, reduceCtorEq, Option.bind_some, Option.map_some, Option.map_none, Option.bind_none, jn_l, jn_r, jn_n, se_l, se_r]
  simp (disch := first | assumption | omega | (simp only [gT_sI, gT_sL, gT_sR, gT_sB]; first | assumption | omega)) only [Option.bind_some, ldI_ok, ldL_ok, ldR_ok, ldB_ok, stI_ok, stL_ok, stR_ok, stB_ok, chk_ok, raI_k, raL_k, raR_k, raB_k, waI_k, waL_k, waB_k, waR_k, alen_k, gT_sI, gT_sL, gT_sR, gT_sB, gN_sI, gN_sL, gN_sR, gN_sB, gI_sL, gI_sR, gI_sB, gL_sI, gL_sR, gL_sB, gR_sI, gR_sL, gR_sB, gB_sI, gB_sL, gB_sR, gI_sIs, gL_sLs, gR_sRs, gB_sBs, gI_sIn, gL_sLn, gR_sRn, gB_sBn, rdI_ok, rdL_ok, rdB_ok, wrI_ok, wrL_ok, wrB_ok, (hV i hi4).1]
  cases (V i).1 <;> rfl
theorem M_inBuffer_ok {R : RS} {D : List DocT} {dl : Nat → Bool} {bs : Nat} (hD : rDocs R D dl) (hB : rBuf R D bs) (hbs : bs ≤ D.length) (hL : D.length ≤ 400) : M_inBuffer R = some (nI (bufS D dl bs)) := by
  unfold M_inBuffer
  rw [show (0 : Int32) = nI 0 from rfl]
  have hlp : lp (fun q : Int32 × Int32 => M_inBuffer_l4 R q.1 q.2) (nI 0, nI 0) = some (nI (bufS D dl bs)) := by
    refine lp_sum (c := fun k => if (!dl (bs + k)) = true then 1 else 0) (D.length - bs) 0 (fun j hj => ?_) ?_
    · rw [Nat.zero_add]
      unfold M_inBuffer_l4
      rw [hB.1]
      simp (disch := first | assumption | omega | (simp only [gT_sI, gT_sL, gT_sR, gT_sB]; first | assumption | omega)) only [Option.bind_some, ldI_ok, ldL_ok, ldR_ok, ldB_ok, stI_ok, stL_ok, stR_ok, stB_ok, chk_ok, raI_k, raL_k, raR_k, raB_k, waI_k, waL_k, waB_k, waR_k, alen_k, gT_sI, gT_sL, gT_sR, gT_sB, gN_sI, gN_sL, gN_sR, gN_sB, gI_sL, gI_sR, gI_sB, gL_sI, gL_sR, gL_sB, gR_sI, gR_sL, gR_sB, gB_sI, gB_sL, gB_sR, gI_sIs, gL_sLs, gR_sRs, gB_sBs, gI_sIn, gL_sLn, gR_sRn, gB_sBn, rdI_ok, rdL_ok, rdB_ok, wrI_ok, wrL_ok, wrB_ok, nl, nI_add, nI_mul, iSub, iEq, iLe, iLt, iEqN, iNEq, iNN, iLtN, iNLt, iLeN, iNLe, iAddN, iNAdd, iMin, iMax, iDiv, iRem, hB.2 j hj, (hD.2.1 _ (show bs + j < D.length by omega)).2.2.2]
      rw [if_neg (by omega)]
      cases dl (bs + j) <;> simp only [if_true, if_false, not_true_eq_false, not_false_eq_true, true_and, and_true, false_and, and_false, true_or, or_true, false_or, or_false, decide_true, decide_false, Bool.false_eq_true, reduceCtorEq, Option.bind_some, Option.map_some, Option.map_none, Option.bind_none, jn_l, jn_r, jn_n, se_l, se_r, Bool.not_true, Bool.not_false, nl, nI_add, Nat.add_zero]
    · rw [Nat.zero_add]
      unfold M_inBuffer_l4
      rw [hB.1]
      simp (disch := omega) only [iLe]
      rw [if_pos (by omega)]
      rfl
  rw [hlp]
  rfl
theorem M_view_ok {R : RS} {V : Nat → VwT} (hV : ∀ i, i < 4 → rView R i (V i)) (hL : ∀ i, i < 4 → (V i).1 = true → (vDocs (V i)).length ≤ 400) (x w : Int32) : M_view R x w = some (viewS V x w) := by
  unfold M_view viewS
  rw [M_in_ok]
  have hw : (decide (0 ≤ w ∧ w ≤ 2)) = decide (w = 0 ∨ w = 1 ∨ w = 2) := by
    rcases i32_cases w with z | ⟨i, hi, rfl⟩
    · have h0 := neg_ne z (b := 0) (by omega)
      have h1 := neg_ne z (b := 1) (by omega)
      have h2 := neg_ne z (b := 2) (by omega)
      have h3 : ¬ (0 ≤ w) := Int32.not_le.mpr z
      have h0 : ¬ w = 0 := h0
      have h1 : ¬ w = 1 := h1
      have h2 : ¬ w = 2 := h2
      simp only [h0, h1, h2, h3, if_true, if_false, not_true_eq_false, not_false_eq_true, true_and, and_true, false_and, and_false, true_or, or_true, false_or, or_false, decide_true, decide_false, Bool.false_eq_true, reduceCtorEq, Option.bind_some, Option.map_some, Option.map_none, Option.bind_none, jn_l, jn_r, jn_n, se_l, se_r]
    · simp (disch := omega) only [nl, nI_add, nI_mul, iSub, iEq, iLe, iLt, iEqN, iNEq, iNN, iLtN, iNLt, iLeN, iNLe, iAddN, iNAdd, iMin, iMax, iDiv, iRem]
      rw [decide_eq_decide]
      omega
  rw [hw]
  by_cases c : w = 0 ∨ w = 1 ∨ w = 2
  · simp only [c, if_true, if_false, not_true_eq_false, not_false_eq_true, true_and, and_true, false_and, and_false, true_or, or_true, false_or, or_false, decide_true, decide_false, Bool.false_eq_true, reduceCtorEq, Option.bind_some, Option.map_some, Option.map_none, Option.bind_none, jn_l, jn_r, jn_n, se_l, se_r]
    rw [M_isView_ok hV]
    cases hx : vAt V x with
    | none => rfl
    | some i =>
      obtain ⟨hi, rfl, ho⟩ := vAt_ok hx
      obtain ⟨v1, v2, v3⟩ := (hV i hi).2 ho
      have h4 := hL i hi ho
      simp only [Option.isSome_some, if_true, if_false, not_true_eq_false, not_false_eq_true, true_and, and_true, false_and, and_false, true_or, or_true, false_or, or_false, decide_true, decide_false, Bool.false_eq_true, reduceCtorEq, Option.bind_some, Option.map_some, Option.map_none, Option.bind_none, jn_l, jn_r, jn_n, se_l, se_r]
      simp (disch := first | assumption | omega | (simp only [gT_sI, gT_sL, gT_sR, gT_sB]; first | assumption | omega)) only [Option.bind_some, ldI_ok, ldL_ok, ldR_ok, ldB_ok, stI_ok, stL_ok, stR_ok, stB_ok, chk_ok, raI_k, raL_k, raR_k, raB_k, waI_k, waL_k, waB_k, waR_k, alen_k, gT_sI, gT_sL, gT_sR, gT_sB, gN_sI, gN_sL, gN_sR, gN_sB, gI_sL, gI_sR, gI_sB, gL_sI, gL_sR, gL_sB, gR_sI, gR_sL, gR_sB, gB_sI, gB_sL, gB_sR, gI_sIs, gL_sLs, gR_sRs, gB_sBs, gI_sIn, gL_sLn, gR_sRn, gB_sBn, rdI_ok, rdL_ok, rdB_ok, wrI_ok, wrL_ok, wrB_ok, v1, v2]
      by_cases c0 : w = 0
      · simp only [c0, if_true, if_false, not_true_eq_false, not_false_eq_true, true_and, and_true, false_and, and_false, true_or, or_true, false_or, or_false, decide_true, decide_false, Bool.false_eq_true, reduceCtorEq, Option.bind_some, Option.map_some, Option.map_none, Option.bind_none, jn_l, jn_r, jn_n, se_l, se_r]
      · by_cases c1 : w = 1
        · simp only [c0, c1, if_true, if_false, not_true_eq_false, not_false_eq_true, true_and, and_true, false_and, and_false, true_or, or_true, false_or, or_false, decide_true, decide_false, Bool.false_eq_true, reduceCtorEq, Option.bind_some, Option.map_some, Option.map_none, Option.bind_none, jn_l, jn_r, jn_n, se_l, se_r]
          rfl
        · have c2 : w = 2 := by
            rcases c with c | c | c
            · exact absurd c c0
            · exact absurd c c1
            · exact c
          simp only [c0, c1, if_true, if_false, not_true_eq_false, not_false_eq_true, true_and, and_true, false_and, and_false, true_or, or_true, false_or, or_false, decide_true, decide_false, Bool.false_eq_true, reduceCtorEq, Option.bind_some, Option.map_some, Option.map_none, Option.bind_none, jn_l, jn_r, jn_n, se_l, se_r]
          have hlp : lp (fun q : Int32 × Int32 => M_view_l48 R (nI i) q.1 q.2) (nI 0, nI 0) = some (nI (cN (fun k => !vDead (V i) k) (vDocs (V i)).length)) := by
            refine lp_sum (c := fun k => if (!vDead (V i) k) = true then 1 else 0) (vDocs (V i)).length 0 (fun j hj => ?_) ?_
            · rw [Nat.zero_add]
              unfold M_view_l48
              simp (disch := first | assumption | omega | (simp only [gT_sI, gT_sL, gT_sR, gT_sB]; first | assumption | omega)) only [Option.bind_some, ldI_ok, ldL_ok, ldR_ok, ldB_ok, stI_ok, stL_ok, stR_ok, stB_ok, chk_ok, raI_k, raL_k, raR_k, raB_k, waI_k, waL_k, waB_k, waR_k, alen_k, gT_sI, gT_sL, gT_sR, gT_sB, gN_sI, gN_sL, gN_sR, gN_sB, gI_sL, gI_sR, gI_sB, gL_sI, gL_sR, gL_sB, gR_sI, gR_sL, gR_sB, gB_sI, gB_sL, gB_sR, gI_sIs, gL_sLs, gR_sRs, gB_sBs, gI_sIn, gL_sLn, gR_sRn, gB_sBn, rdI_ok, rdL_ok, rdB_ok, wrI_ok, wrL_ok, wrB_ok, nl, nI_add, nI_mul, iSub, iEq, iLe, iLt, iEqN, iNEq, iNN, iLtN, iNLt, iLeN, iNLe, iAddN, iNAdd, iMin, iMax, iDiv, iRem, v2, (v3 j hj).2]
              rw [if_neg (by omega)]
              cases vDead (V i) j <;> simp only [if_true, if_false, not_true_eq_false, not_false_eq_true, true_and, and_true, false_and, and_false, true_or, or_true, false_or, or_false, decide_true, decide_false, Bool.false_eq_true, reduceCtorEq, Option.bind_some, Option.map_some, Option.map_none, Option.bind_none, jn_l, jn_r, jn_n, se_l, se_r, Bool.not_true, Bool.not_false, nl, nI_add, Nat.add_zero]
            · rw [Nat.zero_add]
              unfold M_view_l48
              simp (disch := first | assumption | omega | (simp only [gT_sI, gT_sL, gT_sR, gT_sB]; first | assumption | omega)) only [Option.bind_some, ldI_ok, ldL_ok, ldR_ok, ldB_ok, stI_ok, stL_ok, stR_ok, stB_ok, chk_ok, raI_k, raL_k, raR_k, raB_k, waI_k, waL_k, waB_k, waR_k, alen_k, gT_sI, gT_sL, gT_sR, gT_sB, gN_sI, gN_sL, gN_sR, gN_sB, gI_sL, gI_sR, gI_sB, gL_sI, gL_sR, gL_sB, gR_sI, gR_sL, gR_sB, gB_sI, gB_sL, gB_sR, gI_sIs, gL_sLs, gR_sRs, gB_sBs, gI_sIn, gL_sLn, gR_sRn, gB_sBn, rdI_ok, rdL_ok, rdB_ok, wrI_ok, wrL_ok, wrB_ok, nl, nI_add, nI_mul, iSub, iEq, iLe, iLt, iEqN, iNEq, iNN, iLtN, iNLt, iLeN, iNLe, iAddN, iNAdd, iMin, iMax, iDiv, iRem, v2]
              rw [if_pos (by omega)]
              rfl
          rw [show (0 : Int32) = nI 0 from rfl, hlp]
          subst c2
          rfl
  · have c0 : ¬ w = 0 := fun q => c (Or.inl q)
    have c1 : ¬ w = 1 := fun q => c (Or.inr (Or.inl q))
    have c2 : ¬ w = 2 := fun q => c (Or.inr (Or.inr q))
    simp only [c0, c1, c2, if_true, if_false, not_true_eq_false, not_false_eq_true, true_and, and_true, false_and, and_false, true_or, or_true, false_or, or_false, decide_true, decide_false, Bool.false_eq_true, reduceCtorEq, Option.bind_some, Option.map_some, Option.map_none, Option.bind_none, jn_l, jn_r, jn_n, se_l, se_r]
    cases vAt V x <;> rfl
theorem M_told_ok {R : RS} {tp : Nat → Nat} {n : Nat} {D : List DocT} {dl : Nat → Bool} {bs : Nat} {G : List SegT} {V : Nat → VwT} {A : AnT} {nr : Option (List Nat)} {mg : Nat} {st sp : Bool} (h : rH R tp n D dl bs G V A nr mg st sp) (hbs : bs ≤ D.length) (hL : D.length ≤ 400) (x : Int32) : M_told R x = some (toldS D dl bs G V A mg x) := by
  obtain ⟨-, hD, hB, hG, hV, hA, -, hm, -, -⟩ := h
  unfold M_told toldS
  rw [M_in_ok]
  by_cases x0 : x < 0
  · have h3 : ¬ (0 ≤ x) := Int32.not_le.mpr x0
    have k : ∀ b : Nat, b < 2147483648 → ¬ x = nI b := fun b hb => neg_ne x0 hb
    have k0 : ¬ x = 0 := k 0 (by omega)
    have k1 : ¬ x = 1 := k 1 (by omega)
    have k2 : ¬ x = 2 := k 2 (by omega)
    have k3 : ¬ x = 3 := k 3 (by omega)
    have k4 : ¬ x = 4 := k 4 (by omega)
    have k5 : ¬ x = 5 := k 5 (by omega)
    have k6 : ¬ x = 6 := k 6 (by omega)
    simp only [h3, k0, k1, k2, k3, k4, k5, k6, if_true, if_false, not_true_eq_false, not_false_eq_true, true_and, and_true, false_and, and_false, true_or, or_true, false_or, or_false, decide_true, decide_false, Bool.false_eq_true, reduceCtorEq, Option.bind_some, Option.map_some, Option.map_none, Option.bind_none, jn_l, jn_r, jn_n, se_l, se_r]
  have x0' : 0 ≤ x := Int32.not_lt.mp x0
  by_cases c0 : x = 0
  · subst c0; simp only [hD.1]; rfl
  by_cases c1 : x = 1
  · subst c1
    rw [M_inBuffer_ok hD hB hbs hL]
    rfl
  by_cases c2 : x = 2
  · subst c2; simp only [hG.1]; rfl
  by_cases c4 : x = 4
  · subst c4; simp only [hA.2.1]; rfl
  by_cases c5 : x = 5
  · subst c5; simp only [hA.1]; rfl
  by_cases c6 : x = 6
  · subst c6; simp only [hm]; rfl
  by_cases c3 : x = 3
  · have hlp : lp (fun q : Int32 × Int32 => M_told_l77 R q.1 q.2) (nI 0, nI 0) = some (nI (cN (fun i => (V i).1) 4)) := by
      refine lp_sum (c := fun i => if (V i).1 = true then 1 else 0) 4 0 (fun j hj => ?_) ?_
      · rw [Nat.zero_add]
        unfold M_told_l77
        simp (disch := first | assumption | omega | (simp only [gT_sI, gT_sL, gT_sR, gT_sB]; first | assumption | omega)) only [Option.bind_some, ldI_ok, ldL_ok, ldR_ok, ldB_ok, stI_ok, stL_ok, stR_ok, stB_ok, chk_ok, raI_k, raL_k, raR_k, raB_k, waI_k, waL_k, waB_k, waR_k, alen_k, gT_sI, gT_sL, gT_sR, gT_sB, gN_sI, gN_sL, gN_sR, gN_sB, gI_sL, gI_sR, gI_sB, gL_sI, gL_sR, gL_sB, gR_sI, gR_sL, gR_sB, gB_sI, gB_sL, gB_sR, gI_sIs, gL_sLs, gR_sRs, gB_sBs, gI_sIn, gL_sLn, gR_sRn, gB_sBn, rdI_ok, rdL_ok, rdB_ok, wrI_ok, wrL_ok, wrB_ok, nl, nI_add, nI_mul, iSub, iEq, iLe, iLt, iEqN, iNEq, iNN, iLtN, iNLt, iLeN, iNLe, iAddN, iNAdd, iMin, iMax, iDiv, iRem, (hV j hj).1]
        rw [if_neg (by omega)]
        cases (V j).1 <;> simp only [if_true, if_false, not_true_eq_false, not_false_eq_true, true_and, and_true, false_and, and_false, true_or, or_true, false_or, or_false, decide_true, decide_false, Bool.false_eq_true, reduceCtorEq, Option.bind_some, Option.map_some, Option.map_none, Option.bind_none, jn_l, jn_r, jn_n, se_l, se_r, nl, nI_add, Nat.add_zero]
      · rw [Nat.zero_add]
        unfold M_told_l77
        simp (disch := omega) only [nl, nI_add, nI_mul, iSub, iEq, iLe, iLt, iEqN, iNEq, iNN, iLtN, iNLt, iLeN, iNLe, iAddN, iNAdd, iMin, iMax, iDiv, iRem]
        rw [if_pos (by omega)]
        rfl
    have x6 : x ≤ 6 := by rw [c3]; decide
    simp only [x0', x6, c0, c1, c2, c4, c5, c6, if_true, if_false, not_true_eq_false, not_false_eq_true, true_and, and_true, false_and, and_false, true_or, or_true, false_or, or_false, decide_true, decide_false, Bool.false_eq_true, reduceCtorEq, Option.bind_some, Option.map_some, Option.map_none, Option.bind_none, jn_l, jn_r, jn_n, se_l, se_r]
    rw [show (0 : Int32) = nI 0 from rfl, hlp]
    subst c3
    rfl
  · have x6 : ¬ x ≤ 6 := by
      rcases i32_cases x with z | ⟨i, hi, rfl⟩
      · exact absurd z x0
      · simp (disch := omega) only [nl, nI_add, nI_mul, iSub, iEq, iLe, iLt, iEqN, iNEq, iNN, iLtN, iNLt, iLeN, iNLe, iAddN, iNAdd, iMin, iMax, iDiv, iRem] at c0 c1 c2 c3 c4 c5 c6 ⊢
        omega
    simp only [x6, c0, c1, c2, c3, c4, c5, c6, if_true, if_false, not_true_eq_false, not_false_eq_true, true_and, and_true, false_and, and_false, true_or, or_true, false_or, or_false, decide_true, decide_false, Bool.false_eq_true, reduceCtorEq, Option.bind_some, Option.map_some, Option.map_none, Option.bind_none, jn_l, jn_r, jn_n, se_l, se_r]
