/-! THE CLASS'S CALLS THAT READ: key, hit, bucket, over, told, view, nearByte .. -/
theorem iFix {e : Nat} {σ : Mem} {st sp : Bool} (h : cFix e σ st sp) (c x y : Nat) (hc : c < 355) (ht : fixT c = (x, y)) : (gT σ (e + c)).1 = x ∧ (gT σ (e + c)).2 = y := by
  rw [h.t c _ hc ht]
  exact ⟨rfl, rfl⟩
theorem iFix0 {e : Nat} {σ : Mem} {st sp : Bool} (h : cFix e σ st sp) : (gT σ e).1 = 11 := by rw [h.t0]
/-- the hit at a place that a call names -/
def hitAt (A : AnT) (x : Int32) : Option (Nat × Nat) := if 0 ≤ x ∧ x < nI A.2.1.length then some (A.2.1.getD x.toNatClampNeg (0, 0)) else none
theorem hitAt_neg {A : AnT} {x : Int32} (h : x < 0) : hitAt A x = none := by
  unfold hitAt
  rw [if_neg]
  intro q
  exact absurd h (Int32.not_lt.mpr q.1)
theorem hitAt_in {A : AnT} {j : Nat} (h : j < A.2.1.length) (h2 : A.2.1.length ≤ 400) : hitAt A (nI j) = some (A.2.1.getD j (0, 0)) := by
  unfold hitAt
  rw [if_pos, nI_clamp (by omega)]
  simp (disch := omega) only [nl, nI_add, nI_mul, iSub, iEq, iLe, iLt, iEqN, iNEq, iNN, iLtN, iNLt, iLeN, iNLe, iAddN, iNAdd, iMin, iMax, iDiv, iRem]
  omega
theorem hitAt_out {A : AnT} {j : Nat} (hj : j < 2147483648) (h : A.2.1.length ≤ j) (h2 : A.2.1.length ≤ 400) : hitAt A (nI j) = none := by
  unfold hitAt
  rw [if_neg]
  simp (disch := omega) only [nl, nI_add, nI_mul, iSub, iEq, iLe, iLt, iEqN, iNEq, iNN, iLtN, iNLt, iLeN, iNLe, iAddN, iNAdd, iMin, iMax, iDiv, iRem]
  omega
theorem An_documentAt_ok {e : Nat} {da : Nat → Nat} {σ : Mem} {st sp : Bool} {A : AnT} (hF : cFix e σ st sp) (hA : cAns e da σ A) (x : Int32) : An_documentAt σ (e + 24) x = some ((hitAt A x).map fun h => da h.1) := by
  obtain ⟨a1, a2, a3, a4, -⟩ := hA
  obtain ⟨t1, -⟩ := iFix hF 24 0 0 (by decide) rfl
  obtain ⟨t2, t3⟩ := iFix hF 187 104 400 (by decide) rfl
  have r := hF.2.1.2.2.2.2.2.2.2.2.2.2.1
  unfold An_documentAt
  rcases i32_cases x with h | ⟨j, hj, rfl⟩
  · rw [hitAt_neg h, if_pos h]
    rfl
  · by_cases hl : j < A.2.1.length
    · rw [hitAt_in hl a3]
      simp (disch := first | assumption | omega | (simp only [gT_sI, gT_sL, gT_sR, gT_sB]; first | assumption | omega)) only [Option.bind_some, ldI_ok, ldL_ok, ldR_ok, ldB_ok, stI_ok, stL_ok, stR_ok, stB_ok, chk_ok, raI_k, raL_k, raR_k, raB_k, waI_k, waL_k, waB_k, waR_k, alen_k, gT_sI, gT_sL, gT_sR, gT_sB, gN_sI, gN_sL, gN_sR, gN_sB, gI_sL, gI_sR, gI_sB, gL_sI, gL_sR, gL_sB, gR_sI, gR_sL, gR_sB, gB_sI, gB_sL, gB_sR, gI_sIs, gL_sLs, gR_sRs, gB_sBs, gI_sIn, gL_sLn, gR_sRn, gB_sBn, rdI_ok, rdL_ok, rdB_ok, wrI_ok, wrL_ok, wrB_ok, a2, r]
      simp (disch := omega) only [nl, nI_add, nI_mul, iSub, iEq, iLe, iLt, iEqN, iNEq, iNN, iLtN, iNLt, iLeN, iNLe, iAddN, iNAdd, iMin, iMax, iDiv, iRem]
      simp (disch := first | assumption | omega | (simp only [gT_sI, gT_sL, gT_sR, gT_sB]; first | assumption | omega)) only [Option.bind_some, ldI_ok, ldL_ok, ldR_ok, ldB_ok, stI_ok, stL_ok, stR_ok, stB_ok, chk_ok, raI_k, raL_k, raR_k, raB_k, waI_k, waL_k, waB_k, waR_k, alen_k, gT_sI, gT_sL, gT_sR, gT_sB, gN_sI, gN_sL, gN_sR, gN_sB, gI_sL, gI_sR, gI_sB, gL_sI, gL_sR, gL_sB, gR_sI, gR_sL, gR_sB, gB_sI, gB_sL, gB_sR, gI_sIs, gL_sLs, gR_sRs, gB_sBs, gI_sIn, gL_sLn, gR_sRn, gB_sBn, rdI_ok, rdL_ok, rdB_ok, wrI_ok, wrL_ok, wrB_ok, (a4 j hl).1]
      rw [if_neg (by omega), if_neg (by omega)]
      rfl
    · rw [hitAt_out hj (by omega) a3]
      simp (disch := first | assumption | omega | (simp only [gT_sI, gT_sL, gT_sR, gT_sB]; first | assumption | omega)) only [Option.bind_some, ldI_ok, ldL_ok, ldR_ok, ldB_ok, stI_ok, stL_ok, stR_ok, stB_ok, chk_ok, raI_k, raL_k, raR_k, raB_k, waI_k, waL_k, waB_k, waR_k, alen_k, gT_sI, gT_sL, gT_sR, gT_sB, gN_sI, gN_sL, gN_sR, gN_sB, gI_sL, gI_sR, gI_sB, gL_sI, gL_sR, gL_sB, gR_sI, gR_sL, gR_sB, gB_sI, gB_sL, gB_sR, gI_sIs, gL_sLs, gR_sRs, gB_sBs, gI_sIn, gL_sLn, gR_sRn, gB_sBn, rdI_ok, rdL_ok, rdB_ok, wrI_ok, wrL_ok, wrB_ok, a2, r]
      simp (disch := omega) only [nl, nI_add, nI_mul, iSub, iEq, iLe, iLt, iEqN, iNEq, iNN, iLtN, iNLt, iLeN, iNLe, iAddN, iNAdd, iMin, iMax, iDiv, iRem]
      rw [if_neg (by omega), if_pos (by omega)]
      rfl
theorem cFix.an {e : Nat} {σ : Mem} {st sp : Bool} (h : cFix e σ st sp) : gR σ e 12 = some (e + 24) := h.2.1.2.2.2.2.2.2.1
theorem cFix.ne {e : Nat} {σ : Mem} {st sp : Bool} (h : cFix e σ st sp) : gR σ e 14 = some (e + 351) := h.2.1.2.2.2.2.2.2.2.1
theorem cFix.vw {e : Nat} {σ : Mem} {st sp : Bool} (h : cFix e σ st sp) : gR σ e 11 = some (e + 7) := h.2.1.2.2.2.2.2.1
theorem cFix.va {e : Nat} {σ : Mem} {st sp : Bool} (h : cFix e σ st sp) {i : Nat} (hi : i < 4) : gR σ (e + 7) i = some (e + (8 + 4 * i)) ∧ gR σ (e + (8 + 4 * i)) 1 = some (e + (9 + 4 * i)) ∧ gR σ (e + (8 + 4 * i)) 3 = some (e + (10 + 4 * i)) ∧ gR σ (e + (8 + 4 * i)) 4 = some (e + (11 + 4 * i)) := h.2.1.2.2.2.2.2.2.2.2.2.1 i hi
theorem cFix.vt {e : Nat} {σ : Mem} {st sp : Bool} (h : cFix e σ st sp) {i : Nat} (hi : i < 4) : (gT σ (e + (8 + 4 * i))).1 = 9 ∧ ((gT σ (e + (9 + 4 * i))).1 = 105 ∧ (gT σ (e + (9 + 4 * i))).2 = 16) ∧ ((gT σ (e + (10 + 4 * i))).1 = 104 ∧ (gT σ (e + (10 + 4 * i))).2 = 400) ∧ ((gT σ (e + (11 + 4 * i))).1 = 103 ∧ (gT σ (e + (11 + 4 * i))).2 = 400) := by
  have f0 : ∀ i, i < 4 → fixT (8 + 4 * i) = (9, 0) := by decide
  have f1 : ∀ i, i < 4 → fixT (9 + 4 * i) = (105, 16) := by decide
  have f2 : ∀ i, i < 4 → fixT (10 + 4 * i) = (104, 400) := by decide
  have f3 : ∀ i, i < 4 → fixT (11 + 4 * i) = (103, 400) := by decide
  exact ⟨(iFix h _ 9 0 (by omega) (f0 i hi)).1, iFix h _ _ _ (by omega) (f1 i hi), iFix h _ _ _ (by omega) (f2 i hi), iFix h _ _ _ (by omega) (f3 i hi)⟩
theorem cDocs.d {e : Nat} {da : Nat → Nat} {σ : Mem} {D : List DocT} {dl : Nat → Bool} (h : cDocs e da σ D dl) {i : Nat} (hi : i < D.length) : isDoc (e + 401) σ (da i) i (dA D i) := (h.2.2 i hi).2.1
/-- what hits are, in a hold -/
def okA (D : List DocT) (A : AnT) : Prop := ∀ k, k < A.2.1.length → (A.2.1.getD k (0, 0)).1 < D.length
theorem hitAt_ok {D : List DocT} {A : AnT} (h : okA D A) {x : Int32} {y : Nat × Nat} (hx : hitAt A x = some y) : y.1 < D.length ∧ ∃ j, j < 2147483648 ∧ x = nI j ∧ (A.2.1.length ≤ 400 → j < A.2.1.length) ∧ y = A.2.1.getD j (0, 0) := by
  unfold hitAt at hx
  split at hx
  · next q =>
    obtain ⟨q1, q2⟩ := q
    rcases i32_cases x with z | ⟨j, hj, rfl⟩
    · exact absurd z (Int32.not_lt.mpr q1)
    · rw [nI_clamp (by omega)] at hx
      cases hx
      have e : A.2.1.length ≤ 400 → j < A.2.1.length := fun h4 => by
        simp (disch := omega) only [nl, nI_add, nI_mul, iSub, iEq, iLe, iLt, iEqN, iNEq, iNN, iLtN, iNLt, iLeN, iNLe, iAddN, iNAdd, iMin, iMax, iDiv, iRem] at q2
        exact q2
      refine ⟨?_, j, hj, rfl, e, rfl⟩
      by_cases h4 : j < A.2.1.length
      · exact h j h4
      · rw [List.getD_eq_getElem?_getD, List.getElem?_eq_none (by omega)]
        by_cases h5 : 0 < A.2.1.length
        · have := h 0 h5
          show 0 < D.length
          omega
        · have h0 : A.2.1.length = 0 := by omega
          rw [h0] at q2
          exact absurd q2 (nI_nlt (by omega) (by omega))
  · cases hx
def keyS (D : List DocT) (A : AnT) (x : Int32) : Int64 := match hitAt A x with
  | none => 0
  | some h => dKey (dA D h.1)
theorem E_key_ok {e : Nat} {da : Nat → Nat} {σ : Mem} {st sp : Bool} {A : AnT} {D : List DocT} {dl : Nat → Bool} (hF : cFix e σ st sp) (hA : cAns e da σ A) (hD : cDocs e da σ D dl) (ok : okA D A) (x : Int32) : E_key σ e x = some (keyS D A x) := by
  have t0 := iFix0 hF
  obtain ⟨t1, -⟩ := iFix hF 24 0 0 (by decide) rfl
  unfold E_key keyS
  simp (disch := first | assumption | omega | (simp only [gT_sI, gT_sL, gT_sR, gT_sB]; first | assumption | omega)) only [Option.bind_some, ldI_ok, ldL_ok, ldR_ok, ldB_ok, stI_ok, stL_ok, stR_ok, stB_ok, chk_ok, raI_k, raL_k, raR_k, raB_k, waI_k, waL_k, waB_k, waR_k, alen_k, gT_sI, gT_sL, gT_sR, gT_sB, gN_sI, gN_sL, gN_sR, gN_sB, gI_sL, gI_sR, gI_sB, gL_sI, gL_sR, gL_sB, gR_sI, gR_sL, gR_sB, gB_sI, gB_sL, gB_sR, gI_sIs, gL_sLs, gR_sRs, gB_sBs, gI_sIn, gL_sLn, gR_sRn, gB_sBn, rdI_ok, rdL_ok, rdB_ok, wrI_ok, wrL_ok, wrB_ok, hF.an, An_documentAt_ok hF hA]
  cases hx : hitAt A x with
  | none => rfl
  | some y =>
    obtain ⟨h1, -⟩ := hitAt_ok ok hx
    have d := hD.d h1
    have td := d.1.t
    simp (disch := first | assumption | omega | (simp only [gT_sI, gT_sL, gT_sR, gT_sB]; first | assumption | omega)) only [Option.map_some, Option.bind_some, ldI_ok, ldL_ok, ldR_ok, ldB_ok, stI_ok, stL_ok, stR_ok, stB_ok, chk_ok, raI_k, raL_k, raR_k, raB_k, waI_k, waL_k, waB_k, waR_k, alen_k, gT_sI, gT_sL, gT_sR, gT_sB, gN_sI, gN_sL, gN_sR, gN_sB, gI_sL, gI_sR, gI_sB, gL_sI, gL_sR, gL_sB, gR_sI, gR_sL, gR_sB, gB_sI, gB_sL, gB_sR, gI_sIs, gL_sLs, gR_sRs, gB_sBs, gI_sIn, gL_sLn, gR_sRn, gB_sBn, rdI_ok, rdL_ok, rdB_ok, wrI_ok, wrL_ok, wrB_ok, d.2.1]
    rw [if_neg (by simp)]
def hitS (D : List DocT) (A : AnT) (x w : Int32) : Int32 := if w < 0 then -2 else if w ≤ 5 then (match hitAt A x with
  | none => -1
  | some h => if w = 0 then nI h.2 else if w = 1 then dX (dA D h.1) else if w = 2 then dY (dA D h.1) else if w = 3 then nI (dTok (dA D h.1) 0).length else if w = 4 then nI (dTok (dA D h.1) 1).length else nI h.1) else -2
theorem Te_tokens_ok {lo : Nat} {σ : Mem} {p : Nat} {ts : List Tok} (h : isText lo σ p ts) : Te_tokens σ p = some (nI ts.length) := by
  obtain ⟨a, b, c, v, h1, h2, h3, h4, h5, h6, h7, h8, h9, h10⟩ := h
  have t1 := h1.t
  have t2 := h8.t
  unfold Te_tokens
  simp (disch := first | assumption | omega | (simp only [gT_sI, gT_sL, gT_sR, gT_sB]; first | assumption | omega)) only [Option.bind_some, ldI_ok, ldL_ok, ldR_ok, ldB_ok, stI_ok, stL_ok, stR_ok, stB_ok, chk_ok, raI_k, raL_k, raR_k, raB_k, waI_k, waL_k, waB_k, waR_k, alen_k, gT_sI, gT_sL, gT_sR, gT_sB, gN_sI, gN_sL, gN_sR, gN_sB, gI_sL, gI_sR, gI_sB, gL_sI, gL_sR, gL_sB, gR_sI, gR_sL, gR_sB, gB_sI, gB_sL, gB_sR, gI_sIs, gL_sLs, gR_sRs, gB_sBs, gI_sIn, gL_sLn, gR_sRn, gB_sBn, rdI_ok, rdL_ok, rdB_ok, wrI_ok, wrL_ok, wrB_ok, h4, h8.m]
theorem E_hit_ok {e : Nat} {da : Nat → Nat} {σ : Mem} {st sp : Bool} {A : AnT} {D : List DocT} {dl : Nat → Bool} (hF : cFix e σ st sp) (hA : cAns e da σ A) (hD : cDocs e da σ D dl) (ok : okA D A) (x w : Int32) : E_hit σ e x w = some (hitS D A x w) := by
  have t0 := iFix0 hF
  obtain ⟨t1, -⟩ := iFix hF 24 0 0 (by decide) rfl
  obtain ⟨t2, t3⟩ := iFix hF 188 100 400 (by decide) rfl
  unfold E_hit hitS
  by_cases w0 : w < 0
  · rw [if_pos w0, if_pos w0]
  rw [if_neg w0, if_neg w0]
  by_cases w5 : w ≤ 5
  · rw [if_pos w5, if_pos w5]
    simp (disch := first | assumption | omega | (simp only [gT_sI, gT_sL, gT_sR, gT_sB]; first | assumption | omega)) only [Option.bind_some, ldI_ok, ldL_ok, ldR_ok, ldB_ok, stI_ok, stL_ok, stR_ok, stB_ok, chk_ok, raI_k, raL_k, raR_k, raB_k, waI_k, waL_k, waB_k, waR_k, alen_k, gT_sI, gT_sL, gT_sR, gT_sB, gN_sI, gN_sL, gN_sR, gN_sB, gI_sL, gI_sR, gI_sB, gL_sI, gL_sR, gL_sB, gR_sI, gR_sL, gR_sB, gB_sI, gB_sL, gB_sR, gI_sIs, gL_sLs, gR_sRs, gB_sBs, gI_sIn, gL_sLn, gR_sRn, gB_sBn, rdI_ok, rdL_ok, rdB_ok, wrI_ok, wrL_ok, wrB_ok, hF.an, An_documentAt_ok hF hA]
    cases hx : hitAt A x with
    | none => rfl
    | some y =>
      obtain ⟨h1, j, hj, rfl, hj2, rfl⟩ := hitAt_ok ok hx
      have hj2 := hj2 hA.2.2.1
      have d := hD.d h1
      have td := d.1.t
      obtain ⟨p, q, d1, d2, d3, d4⟩ := d.2.2.2.2.2
      have tp := d3.choose_spec.choose_spec.choose_spec.choose_spec.1.t
      have tq := d4.choose_spec.choose_spec.choose_spec.choose_spec.1.t
      have r3 : gR σ (e + 24) 3 = some (e + 188) := hF.2.1.2.2.2.2.2.2.2.2.2.2.2.1
      simp only [Option.map_some]
      rw [if_neg (by simp)]
      by_cases w1 : w = 0
      · rw [if_pos w1, if_pos w1]
        unfold An_scoreAt
        have hl := hA.2.1
        have ha := (hA.2.2.2.1 j hj2).2
        have := hA.2.2.1
        simp (disch := first | assumption | omega | (simp only [gT_sI, gT_sL, gT_sR, gT_sB]; first | assumption | omega)) only [Option.bind_some, ldI_ok, ldL_ok, ldR_ok, ldB_ok, stI_ok, stL_ok, stR_ok, stB_ok, chk_ok, raI_k, raL_k, raR_k, raB_k, waI_k, waL_k, waB_k, waR_k, alen_k, gT_sI, gT_sL, gT_sR, gT_sB, gN_sI, gN_sL, gN_sR, gN_sB, gI_sL, gI_sR, gI_sB, gL_sI, gL_sR, gL_sB, gR_sI, gR_sL, gR_sB, gB_sI, gB_sL, gB_sR, gI_sIs, gL_sLs, gR_sRs, gB_sBs, gI_sIn, gL_sLn, gR_sRn, gB_sBn, rdI_ok, rdL_ok, rdB_ok, wrI_ok, wrL_ok, wrB_ok, nl, nI_add, nI_mul, iSub, iEq, iLe, iLt, iEqN, iNEq, iNN, iLtN, iNLt, iLeN, iNLe, iAddN, iNAdd, iMin, iMax, iDiv, iRem, hl, r3]
        rw [if_neg (by omega), if_neg (by omega)]
        simp (disch := first | assumption | omega | (simp only [gT_sI, gT_sL, gT_sR, gT_sB]; first | assumption | omega)) only [Option.bind_some, ldI_ok, ldL_ok, ldR_ok, ldB_ok, stI_ok, stL_ok, stR_ok, stB_ok, chk_ok, raI_k, raL_k, raR_k, raB_k, waI_k, waL_k, waB_k, waR_k, alen_k, gT_sI, gT_sL, gT_sR, gT_sB, gN_sI, gN_sL, gN_sR, gN_sB, gI_sL, gI_sR, gI_sB, gL_sI, gL_sR, gL_sB, gR_sI, gR_sL, gR_sB, gB_sI, gB_sL, gB_sR, gI_sIs, gL_sLs, gR_sRs, gB_sBs, gI_sIn, gL_sLn, gR_sRn, gB_sBn, rdI_ok, rdL_ok, rdB_ok, wrI_ok, wrL_ok, wrB_ok, ha]
      rw [if_neg w1, if_neg w1]
      by_cases w1 : w = 1
      · rw [if_pos w1, if_pos w1]
        simp (disch := first | assumption | omega | (simp only [gT_sI, gT_sL, gT_sR, gT_sB]; first | assumption | omega)) only [Option.bind_some, ldI_ok, ldL_ok, ldR_ok, ldB_ok, stI_ok, stL_ok, stR_ok, stB_ok, chk_ok, raI_k, raL_k, raR_k, raB_k, waI_k, waL_k, waB_k, waR_k, alen_k, gT_sI, gT_sL, gT_sR, gT_sB, gN_sI, gN_sL, gN_sR, gN_sB, gI_sL, gI_sR, gI_sB, gL_sI, gL_sR, gL_sB, gR_sI, gR_sL, gR_sB, gB_sI, gB_sL, gB_sR, gI_sIs, gL_sLs, gR_sRs, gB_sBs, gI_sIn, gL_sLn, gR_sRn, gB_sBn, rdI_ok, rdL_ok, rdB_ok, wrI_ok, wrL_ok, wrB_ok, d.2.2.1]
      rw [if_neg w1, if_neg w1]
      by_cases w1 : w = 2
      · rw [if_pos w1, if_pos w1]
        simp (disch := first | assumption | omega | (simp only [gT_sI, gT_sL, gT_sR, gT_sB]; first | assumption | omega)) only [Option.bind_some, ldI_ok, ldL_ok, ldR_ok, ldB_ok, stI_ok, stL_ok, stR_ok, stB_ok, chk_ok, raI_k, raL_k, raR_k, raB_k, waI_k, waL_k, waB_k, waR_k, alen_k, gT_sI, gT_sL, gT_sR, gT_sB, gN_sI, gN_sL, gN_sR, gN_sB, gI_sL, gI_sR, gI_sB, gL_sI, gL_sR, gL_sB, gR_sI, gR_sL, gR_sB, gB_sI, gB_sL, gB_sR, gI_sIs, gL_sLs, gR_sRs, gB_sBs, gI_sIn, gL_sLn, gR_sRn, gB_sBn, rdI_ok, rdL_ok, rdB_ok, wrI_ok, wrL_ok, wrB_ok, d.2.2.2.1]
      rw [if_neg w1, if_neg w1]
      by_cases w1 : w = 3
      · rw [if_pos w1, if_pos w1]
        simp (disch := first | assumption | omega | (simp only [gT_sI, gT_sL, gT_sR, gT_sB]; first | assumption | omega)) only [Option.bind_some, ldI_ok, ldL_ok, ldR_ok, ldB_ok, stI_ok, stL_ok, stR_ok, stB_ok, chk_ok, raI_k, raL_k, raR_k, raB_k, waI_k, waL_k, waB_k, waR_k, alen_k, gT_sI, gT_sL, gT_sR, gT_sB, gN_sI, gN_sL, gN_sR, gN_sB, gI_sL, gI_sR, gI_sB, gL_sI, gL_sR, gL_sB, gR_sI, gR_sL, gR_sB, gB_sI, gB_sL, gB_sR, gI_sIs, gL_sLs, gR_sRs, gB_sBs, gI_sIn, gL_sLn, gR_sRn, gB_sBn, rdI_ok, rdL_ok, rdB_ok, wrI_ok, wrL_ok, wrB_ok, d1, Te_tokens_ok d3]
      rw [if_neg w1, if_neg w1]
      by_cases w1 : w = 4
      · rw [if_pos w1, if_pos w1]
        simp (disch := first | assumption | omega | (simp only [gT_sI, gT_sL, gT_sR, gT_sB]; first | assumption | omega)) only [Option.bind_some, ldI_ok, ldL_ok, ldR_ok, ldB_ok, stI_ok, stL_ok, stR_ok, stB_ok, chk_ok, raI_k, raL_k, raR_k, raB_k, waI_k, waL_k, waB_k, waR_k, alen_k, gT_sI, gT_sL, gT_sR, gT_sB, gN_sI, gN_sL, gN_sR, gN_sB, gI_sL, gI_sR, gI_sB, gL_sI, gL_sR, gL_sB, gR_sI, gR_sL, gR_sB, gB_sI, gB_sL, gB_sR, gI_sIs, gL_sLs, gR_sRs, gB_sBs, gI_sIn, gL_sLn, gR_sRn, gB_sBn, rdI_ok, rdL_ok, rdB_ok, wrI_ok, wrL_ok, wrB_ok, d2, Te_tokens_ok d4]
      rw [if_neg w1, if_neg w1]
      simp (disch := first | assumption | omega | (simp only [gT_sI, gT_sL, gT_sR, gT_sB]; first | assumption | omega)) only [Option.bind_some, ldI_ok, ldL_ok, ldR_ok, ldB_ok, stI_ok, stL_ok, stR_ok, stB_ok, chk_ok, raI_k, raL_k, raR_k, raB_k, waI_k, waL_k, waB_k, waR_k, alen_k, gT_sI, gT_sL, gT_sR, gT_sB, gN_sI, gN_sL, gN_sR, gN_sB, gI_sL, gI_sR, gI_sB, gL_sI, gL_sR, gL_sB, gR_sI, gR_sL, gR_sB, gB_sI, gB_sL, gB_sR, gI_sIs, gL_sLs, gR_sRs, gB_sBs, gI_sIn, gL_sLn, gR_sRn, gB_sBn, rdI_ok, rdL_ok, rdB_ok, wrI_ok, wrL_ok, wrB_ok, d.2.2.2.2.1]
  · rw [if_neg w5, if_neg w5]
theorem bmS {x : Int} (h1 : -9223372036854775808 ≤ x) (h2 : x < 9223372036854775808) : Int.bmod x 18446744073709551616 = x := by
  rw [Int.bmod_def]
  omega
theorem i32_rng (x : Int32) : -2147483648 ≤ x.toInt ∧ x.toInt < 2147483648 := ⟨Int32.le_toInt x, Int32.toInt_lt x⟩
theorem l64s (a b : Int32) : (a.toInt64 + b.toInt64).toInt = a.toInt + b.toInt := by
  have h1 := i32_rng a
  have h2 := i32_rng b
  rw [Int64.toInt_add, Int32.toInt_toInt64, Int32.toInt_toInt64]
  exact bmS (by omega) (by omega)
theorem l_last (a b : Int32) (v : Int64) : (a.toInt64 + b.toInt64 - 1 < v) = (a.toInt64 + b.toInt64 ≤ v) := by
  have h1 := i32_rng a
  have h2 := i32_rng b
  have e1 : (1 : Int64).toInt = 1 := by decide
  have h3 := l64s a b
  have e : (a.toInt64 + b.toInt64 - 1).toInt = a.toInt + b.toInt - 1 := by
    rw [Int64.toInt_sub, h3, e1]
    exact bmS (by omega) (by omega)
  rw [Int64.lt_iff_toInt_lt, Int64.le_iff_toInt_le, e, h3]
  exact propext (by omega)
def valS (d : DocT) (w : Int32) : Int32 := if ¬ w = 0 then dY d else dX d
theorem Do_valueOf_ok {lo : Nat} {σ : Mem} {a i : Nat} {d : DocT} (h : isDoc lo σ a i d) (w : Int32) : Do_valueOf σ a w = some (valS d w) := by
  have t := h.1.t
  unfold Do_valueOf valS
  simp (disch := first | assumption | omega | (simp only [gT_sI, gT_sL, gT_sR, gT_sB]; first | assumption | omega)) only [Option.bind_some, ldI_ok, ldL_ok, ldR_ok, ldB_ok, stI_ok, stL_ok, stR_ok, stB_ok, chk_ok, raI_k, raL_k, raR_k, raB_k, waI_k, waL_k, waB_k, waR_k, alen_k, gT_sI, gT_sL, gT_sR, gT_sB, gN_sI, gN_sL, gN_sR, gN_sB, gI_sL, gI_sR, gI_sB, gL_sI, gL_sR, gL_sB, gR_sI, gR_sL, gR_sB, gB_sI, gB_sL, gB_sR, gI_sIs, gL_sLs, gR_sRs, gB_sBs, gI_sIn, gL_sLn, gR_sRn, gB_sBn, rdI_ok, rdL_ok, rdB_ok, wrI_ok, wrL_ok, wrB_ok, h.2.2.1, h.2.2.2.1]
  split <;> rfl
/-- a hit's value -/
def hv (D : List DocT) (A : AnT) (w : Int32) (k : Nat) : Int32 := valS (dA D (A.2.1.getD k (0, 0)).1) w
def bkP (D : List DocT) (A : AnT) (w f n : Int32) (k : Nat) : Bool := decide (¬ (hv D A w k).toInt64 < f.toInt64 ∧ ¬ f.toInt64 + n.toInt64 ≤ (hv D A w k).toInt64)
def bucketS (D : List DocT) (A : AnT) (w f n : Int32) : Int32 := if w < 0 then -2 else if 2 ≤ w then -2 else if 1 ≤ n then nI (cN (bkP D A w f n) A.2.1.length) else -2
theorem doc_at {e : Nat} {da : Nat → Nat} {σ : Mem} {st sp : Bool} {A : AnT} {D : List DocT} (hF : cFix e σ st sp) (hA : cAns e da σ A) (ok : okA D A) {k : Nat} (hk : k < A.2.1.length) : An_documentAt σ (e + 24) (nI k) = some (some (da (A.2.1.getD k (0, 0)).1)) := by
  rw [An_documentAt_ok hF hA, hitAt_in hk hA.2.2.1]
  rfl
theorem E_bucket_ok {e : Nat} {da : Nat → Nat} {σ : Mem} {st sp : Bool} {A : AnT} {D : List DocT} {dl : Nat → Bool} (hF : cFix e σ st sp) (hA : cAns e da σ A) (hD : cDocs e da σ D dl) (ok : okA D A) (w f n : Int32) : E_bucket σ e w f n = some (bucketS D A w f n) := by
  have t0 := iFix0 hF
  obtain ⟨t1, -⟩ := iFix hF 24 0 0 (by decide) rfl
  have h4 := hA.2.2.1
  have hl := hA.2.1
  unfold E_bucket bucketS
  by_cases w0 : w < 0
  · rw [if_pos w0, if_pos w0]
  rw [if_neg w0, if_neg w0]
  by_cases w2 : 2 ≤ w
  · rw [if_pos w2, if_pos w2]
  rw [if_neg w2, if_neg w2]
  by_cases n1 : 1 ≤ n
  · rw [if_pos n1, if_pos n1]
    have hlp : lp (fun q : Int32 × Int32 => E_bucket_l32 σ e w f (f.toInt64 + n.toInt64 - 1) q.1 q.2) (nI 0, nI 0) = some (nI (cN (bkP D A w f n) A.2.1.length)) := by
      refine lp_sum (c := fun i => if bkP D A w f n i = true then 1 else 0) A.2.1.length 0 (fun j hj => ?_) ?_
      · rw [Nat.zero_add]
        unfold E_bucket_l32
        simp (disch := first | assumption | omega | (simp only [gT_sI, gT_sL, gT_sR, gT_sB]; first | assumption | omega)) only [Option.bind_some, ldI_ok, ldL_ok, ldR_ok, ldB_ok, stI_ok, stL_ok, stR_ok, stB_ok, chk_ok, raI_k, raL_k, raR_k, raB_k, waI_k, waL_k, waB_k, waR_k, alen_k, gT_sI, gT_sL, gT_sR, gT_sB, gN_sI, gN_sL, gN_sR, gN_sB, gI_sL, gI_sR, gI_sB, gL_sI, gL_sR, gL_sB, gR_sI, gR_sL, gR_sB, gB_sI, gB_sL, gB_sR, gI_sIs, gL_sLs, gR_sRs, gB_sBs, gI_sIn, gL_sLn, gR_sRn, gB_sBn, rdI_ok, rdL_ok, rdB_ok, wrI_ok, wrL_ok, wrB_ok, hF.an, hl]
        simp (disch := omega) only [nl, nI_add, nI_mul, iSub, iEq, iLe, iLt, iEqN, iNEq, iNN, iLtN, iNLt, iLeN, iNLe, iAddN, iNAdd, iMin, iMax, iDiv, iRem]
        rw [if_neg (by omega), doc_at hF hA ok hj]
        have d := hD.d (ok j hj)
        have td := d.1.t
        simp (disch := first | assumption | omega | (simp only [gT_sI, gT_sL, gT_sR, gT_sB]; first | assumption | omega)) only [Option.bind_some, ldI_ok, ldL_ok, ldR_ok, ldB_ok, stI_ok, stL_ok, stR_ok, stB_ok, chk_ok, raI_k, raL_k, raR_k, raB_k, waI_k, waL_k, waB_k, waR_k, alen_k, gT_sI, gT_sL, gT_sR, gT_sB, gN_sI, gN_sL, gN_sR, gN_sB, gI_sL, gI_sR, gI_sB, gL_sI, gL_sR, gL_sB, gR_sI, gR_sL, gR_sB, gB_sI, gB_sL, gB_sR, gI_sIs, gL_sLs, gR_sRs, gB_sBs, gI_sIn, gL_sLn, gR_sRn, gB_sBn, rdI_ok, rdL_ok, rdB_ok, wrI_ok, wrL_ok, wrB_ok]
        rw [if_neg (by simp)]
        simp only [Option.bind_some, Do_isBetween, chk_ok td, Do_valueOf_ok d, l_last]
        rw [show bkP D A w f n j = decide (¬ (hv D A w j).toInt64 < f.toInt64 ∧ ¬ f.toInt64 + n.toInt64 ≤ (hv D A w j).toInt64) from rfl, show valS (dA D (A.2.1.getD j (0, 0)).1) w = hv D A w j from rfl]
        generalize hv D A w j = v
        by_cases c1 : v.toInt64 < f.toInt64
        · simp only [c1, if_true, if_false, not_true_eq_false, not_false_eq_true, true_and, and_true, false_and, and_false, true_or, or_true, false_or, or_false, decide_true, decide_false, Bool.false_eq_true, reduceCtorEq, Option.bind_some, Option.map_some, Option.map_none, Option.bind_none, jn_l, jn_r, jn_n, se_l, se_r, nl, nI_add, Nat.add_zero]
        · by_cases c2 : f.toInt64 + n.toInt64 ≤ v.toInt64
          · simp only [c1, c2, if_true, if_false, not_true_eq_false, not_false_eq_true, true_and, and_true, false_and, and_false, true_or, or_true, false_or, or_false, decide_true, decide_false, Bool.false_eq_true, reduceCtorEq, Option.bind_some, Option.map_some, Option.map_none, Option.bind_none, jn_l, jn_r, jn_n, se_l, se_r, nl, nI_add, Nat.add_zero]
          · simp only [c1, c2, if_true, if_false, not_true_eq_false, not_false_eq_true, true_and, and_true, false_and, and_false, true_or, or_true, false_or, or_false, decide_true, decide_false, Bool.false_eq_true, reduceCtorEq, Option.bind_some, Option.map_some, Option.map_none, Option.bind_none, jn_l, jn_r, jn_n, se_l, se_r, nl, nI_add]
      · rw [Nat.zero_add]
        unfold E_bucket_l32
        simp (disch := first | assumption | omega | (simp only [gT_sI, gT_sL, gT_sR, gT_sB]; first | assumption | omega)) only [Option.bind_some, ldI_ok, ldL_ok, ldR_ok, ldB_ok, stI_ok, stL_ok, stR_ok, stB_ok, chk_ok, raI_k, raL_k, raR_k, raB_k, waI_k, waL_k, waB_k, waR_k, alen_k, gT_sI, gT_sL, gT_sR, gT_sB, gN_sI, gN_sL, gN_sR, gN_sB, gI_sL, gI_sR, gI_sB, gL_sI, gL_sR, gL_sB, gR_sI, gR_sL, gR_sB, gB_sI, gB_sL, gB_sR, gI_sIs, gL_sLs, gR_sRs, gB_sBs, gI_sIn, gL_sLn, gR_sRn, gB_sBn, rdI_ok, rdL_ok, rdB_ok, wrI_ok, wrL_ok, wrB_ok, hF.an, hl]
        simp (disch := omega) only [nl, nI_add, nI_mul, iSub, iEq, iLe, iLt, iEqN, iNEq, iNN, iLtN, iNLt, iLeN, iNLe, iAddN, iNAdd, iMin, iMax, iDiv, iRem]
        rw [if_pos (by omega)]
        rfl
    simp only [nl] at hlp ⊢
    rw [hlp]
    rfl
  · rw [if_neg n1, if_neg n1]
/-- sum, least, greatest of the first k of a row -/
def ovS (v : Nat → Int64) (f : Int32) : Nat → Int64
  | 0 => 0
  | k + 1 => if ¬ f = 0 then (if k = 0 then v k else if ¬ f = 1 then (if v k ≤ ovS v f k then ovS v f k else v k) else (if ovS v f k ≤ v k then ovS v f k else v k)) else ovS v f k + v k
def overS (D : List DocT) (A : AnT) (w f : Int32) : Int64 := if w < 0 then -2 else if 2 ≤ w then -2 else if f < 0 then -2 else if f ≤ 2 then ovS (fun k => (hv D A w k).toInt64) f A.2.1.length else -2
theorem E_over_ok {e : Nat} {da : Nat → Nat} {σ : Mem} {st sp : Bool} {A : AnT} {D : List DocT} {dl : Nat → Bool} (hF : cFix e σ st sp) (hA : cAns e da σ A) (hD : cDocs e da σ D dl) (ok : okA D A) (w f : Int32) : E_over σ e w f = some (overS D A w f) := by
  have t0 := iFix0 hF
  obtain ⟨t1, -⟩ := iFix hF 24 0 0 (by decide) rfl
  have h4 := hA.2.2.1
  have hl := hA.2.1
  unfold E_over overS
  by_cases w0 : w < 0
  · rw [if_pos w0, if_pos w0]; rfl
  rw [if_neg w0, if_neg w0]
  by_cases w2 : 2 ≤ w
  · rw [if_pos w2, if_pos w2]; rfl
  rw [if_neg w2, if_neg w2]
  by_cases f0 : f < 0
  · rw [if_pos f0, if_pos f0]; rfl
  rw [if_neg f0, if_neg f0]
  by_cases f2 : f ≤ 2
  · rw [if_pos f2, if_pos f2]
    have hlp : lp (fun q : Int64 × Int64 × Int64 × Int32 => E_over_l33 σ e w f q.1 q.2.1 q.2.2.1 q.2.2.2) (0, 0, 0, nI 0) = some (ovS (fun k => (hv D A w k).toInt64) 0 A.2.1.length, ovS (fun k => (hv D A w k).toInt64) 1 A.2.1.length, ovS (fun k => (hv D A w k).toInt64) 2 A.2.1.length) := by
      refine lp_seq (fun k => (ovS (fun k => (hv D A w k).toInt64) 0 k, ovS (fun k => (hv D A w k).toInt64) 1 k, ovS (fun k => (hv D A w k).toInt64) 2 k, nI k)) (m := A.2.1.length) (fun j hj => ?_) ?_
      · unfold E_over_l33
        simp (disch := first | assumption | omega | (simp only [gT_sI, gT_sL, gT_sR, gT_sB]; first | assumption | omega)) only [Option.bind_some, ldI_ok, ldL_ok, ldR_ok, ldB_ok, stI_ok, stL_ok, stR_ok, stB_ok, chk_ok, raI_k, raL_k, raR_k, raB_k, waI_k, waL_k, waB_k, waR_k, alen_k, gT_sI, gT_sL, gT_sR, gT_sB, gN_sI, gN_sL, gN_sR, gN_sB, gI_sL, gI_sR, gI_sB, gL_sI, gL_sR, gL_sB, gR_sI, gR_sL, gR_sB, gB_sI, gB_sL, gB_sR, gI_sIs, gL_sLs, gR_sRs, gB_sBs, gI_sIn, gL_sLn, gR_sRn, gB_sBn, rdI_ok, rdL_ok, rdB_ok, wrI_ok, wrL_ok, wrB_ok, hF.an, hl]
        simp (disch := omega) only [nl, nI_add, nI_mul, iSub, iEq, iLe, iLt, iEqN, iNEq, iNN, iLtN, iNLt, iLeN, iNLe, iAddN, iNAdd, iMin, iMax, iDiv, iRem]
        rw [if_neg (by omega), doc_at hF hA ok hj]
        have d := hD.d (ok j hj)
        have td := d.1.t
        simp (disch := first | assumption | omega | (simp only [gT_sI, gT_sL, gT_sR, gT_sB]; first | assumption | omega)) only [Option.bind_some, ldI_ok, ldL_ok, ldR_ok, ldB_ok, stI_ok, stL_ok, stR_ok, stB_ok, chk_ok, raI_k, raL_k, raR_k, raB_k, waI_k, waL_k, waB_k, waR_k, alen_k, gT_sI, gT_sL, gT_sR, gT_sB, gN_sI, gN_sL, gN_sR, gN_sB, gI_sL, gI_sR, gI_sB, gL_sI, gL_sR, gL_sB, gR_sI, gR_sL, gR_sB, gB_sI, gB_sL, gB_sR, gI_sIs, gL_sLs, gR_sRs, gB_sBs, gI_sIn, gL_sLn, gR_sRn, gB_sBn, rdI_ok, rdL_ok, rdB_ok, wrI_ok, wrL_ok, wrB_ok]
        rw [if_neg (by simp)]
        simp only [Option.bind_some, chk_ok td, Do_valueOf_ok d]
        rw [show valS (dA D (A.2.1.getD j (0, 0)).1) w = hv D A w j from rfl]
        simp only [ovS]
        have n00 : nI 0 = 0 := by decide
        have n11 : nI 1 = 1 := by decide
        have n10 : ¬ nI 1 = 0 := by decide
        have n20 : ¬ nI 2 = 0 := by decide
        have n21 : ¬ nI 2 = 1 := by decide
        simp only [n00, n10, n20, n21, n11, if_true, if_false, not_true_eq_false, not_false_eq_true, true_and, and_true, false_and, and_false, true_or, or_true, false_or, or_false, decide_true, decide_false, Bool.false_eq_true, reduceCtorEq, Option.bind_some, Option.map_some, Option.map_none, Option.bind_none, jn_l, jn_r, jn_n, se_l, se_r]
        generalize ovS (fun k => (hv D A w k).toInt64) 1 j = m
        generalize ovS (fun k => (hv D A w k).toInt64) (nI 2) j = g
        generalize hv D A w j = v
        by_cases c : j = 0
        · simp only [c, not_true_eq_false, if_true, if_false, Option.bind_some]
          rfl
        · simp only [c, not_false_eq_true, if_true, if_false, Option.bind_some, minL, maxL]
          have h1 : (if v.toInt64 < m then v.toInt64 else m) = if m ≤ v.toInt64 then m else v.toInt64 := by
            by_cases q : v.toInt64 < m
            · rw [if_pos q, if_neg (Int64.not_le.mpr q)]
            · rw [if_neg q, if_pos (Int64.not_lt.mp q)]
          have h2 : (if v.toInt64 < g then g else v.toInt64) = if v.toInt64 ≤ g then g else v.toInt64 := by
            by_cases q : v.toInt64 < g
            · rw [if_pos q, if_pos (Int64.le_of_lt q)]
            · by_cases q2 : v.toInt64 ≤ g
              · rw [if_neg q, if_pos q2]
                exact Int64.le_antisymm q2 (Int64.not_lt.mp q)
              · rw [if_neg q, if_neg q2]
          rw [h1, h2]
          rfl
      · unfold E_over_l33
        simp (disch := first | assumption | omega | (simp only [gT_sI, gT_sL, gT_sR, gT_sB]; first | assumption | omega)) only [Option.bind_some, ldI_ok, ldL_ok, ldR_ok, ldB_ok, stI_ok, stL_ok, stR_ok, stB_ok, chk_ok, raI_k, raL_k, raR_k, raB_k, waI_k, waL_k, waB_k, waR_k, alen_k, gT_sI, gT_sL, gT_sR, gT_sB, gN_sI, gN_sL, gN_sR, gN_sB, gI_sL, gI_sR, gI_sB, gL_sI, gL_sR, gL_sB, gR_sI, gR_sL, gR_sB, gB_sI, gB_sL, gB_sR, gI_sIs, gL_sLs, gR_sRs, gB_sBs, gI_sIn, gL_sLn, gR_sRn, gB_sBn, rdI_ok, rdL_ok, rdB_ok, wrI_ok, wrL_ok, wrB_ok, hF.an, hl]
        simp (disch := omega) only [nl, nI_add, nI_mul, iSub, iEq, iLe, iLt, iEqN, iNEq, iNN, iLtN, iNLt, iLeN, iNLe, iAddN, iNAdd, iMin, iMax, iDiv, iRem]
        rw [if_pos (by omega)]
    rw [show (0 : Int32) = nI 0 from rfl]
    rw [hlp]
    simp only [Option.bind_some]
    have hf : f = 0 ∨ f = 1 ∨ f = 2 := by
      rcases i32_cases f with z | ⟨j, hj, rfl⟩
      · exact absurd z f0
      · simp (disch := omega) only [nl, nI_add, nI_mul, iSub, iEq, iLe, iLt, iEqN, iNEq, iNN, iLtN, iNLt, iLeN, iNLe, iAddN, iNAdd, iMin, iMax, iDiv, iRem] at f2 ⊢
        omega
    rcases hf with rfl | rfl | rfl <;> rfl
  · rw [if_neg f2, if_neg f2]; rfl
/-! views, told -/
def vAt (V : Nat → VwT) (x : Int32) : Option Nat := if 0 ≤ x ∧ x < 4 ∧ (V x.toNatClampNeg).1 = true then some x.toNatClampNeg else none
theorem vAt_ok {V : Nat → VwT} {x : Int32} {i : Nat} (h : vAt V x = some i) : i < 4 ∧ x = nI i ∧ (V i).1 = true := by
  unfold vAt at h
  split at h
  · next q =>
    rcases i32_cases x with z | ⟨j, hj, rfl⟩
    · exact absurd z (Int32.not_lt.mpr q.1)
    · rw [nI_clamp (by omega)] at h q
      cases h
      have q2 := q.2.1
      simp (disch := omega) only [nl, nI_add, nI_mul, iSub, iEq, iLe, iLt, iEqN, iNEq, iNN, iLtN, iNLt, iLeN, iNLe, iAddN, iNAdd, iMin, iMax, iDiv, iRem] at q2
      exact ⟨q2, rfl, q.2.2⟩
  · cases h
theorem vAt_in {V : Nat → VwT} {i : Nat} (hi : i < 4) : vAt V (nI i) = if (V i).1 = true then some i else none := by
  unfold vAt
  rw [nI_clamp (by omega)]
  by_cases h : (V i).1 = true
  · rw [if_pos h, if_pos]
    simp (disch := omega) only [nl, nI_add, nI_mul, iSub, iEq, iLe, iLt, iEqN, iNEq, iNN, iLtN, iNLt, iLeN, iNLe, iAddN, iNAdd, iMin, iMax, iDiv, iRem, h, if_true, if_false, not_true_eq_false, not_false_eq_true, true_and, and_true, false_and, and_false, true_or, or_true, false_or, or_false, decide_true, decide_false, Bool.false_eq_true, reduceCtorEq, Option.bind_some, Option.map_some, Option.map_none, Option.bind_none, jn_l, jn_r, jn_n, se_l, se_r]
    omega
  · rw [if_neg h, if_neg]
    exact fun q => h q.2.2
theorem vAt_out {V : Nat → VwT} {x : Int32} (h : x < 0 ∨ 4 ≤ x) : vAt V x = none := by
  unfold vAt
  rw [if_neg]
  intro q
  rcases h with z | z
  · exact absurd z (Int32.not_lt.mpr q.1)
  · exact absurd z (Int32.not_le.mpr q.2.1)
theorem E_viewAt_ok {e : Nat} {da : Nat → Nat} {σ : Mem} {st sp : Bool} {D : List DocT} {V : Nat → VwT} (hF : cFix e σ st sp) (hV : ∀ i, i < 4 → cView e da σ D i (V i)) (x : Int32) : E_viewAt σ e x = some ((vAt V x).map fun i => e + (8 + 4 * i)) := by
  have t0 := iFix0 hF
  obtain ⟨t7, t7'⟩ := iFix hF 7 106 4 (by decide) rfl
  unfold E_viewAt
  by_cases x0 : x < 0
  · rw [if_pos x0, vAt_out (Or.inl x0)]
    rfl
  rw [if_neg x0]
  by_cases x4 : 4 ≤ x
  · rw [if_pos x4, vAt_out (Or.inr x4)]
    rfl
  rw [if_neg x4]
  rcases i32_cases x with z | ⟨i, hi, rfl⟩
  · exact absurd z x0
  simp (disch := omega) only [nl, nI_add, nI_mul, iSub, iEq, iLe, iLt, iEqN, iNEq, iNN, iLtN, iNLt, iLeN, iNLe, iAddN, iNAdd, iMin, iMax, iDiv, iRem] at x4
  have hi4 : i < 4 := by omega
  have tv := (hF.vt hi4).1
  rw [vAt_in hi4]
  simp (disch := first | assumption | omega | (simp only [gT_sI, gT_sL, gT_sR, gT_sB]; first | assumption | omega)) only [Option.bind_some, ldI_ok, ldL_ok, ldR_ok, ldB_ok, stI_ok, stL_ok, stR_ok, stB_ok, chk_ok, raI_k, raL_k, raR_k, raB_k, waI_k, waL_k, waB_k, waR_k, alen_k, gT_sI, gT_sL, gT_sR, gT_sB, gN_sI, gN_sL, gN_sR, gN_sB, gI_sL, gI_sR, gI_sB, gL_sI, gL_sR, gL_sB, gR_sI, gR_sL, gR_sB, gB_sI, gB_sL, gB_sR, gI_sIs, gL_sLs, gR_sRs, gB_sBs, gI_sIn, gL_sLn, gR_sRn, gB_sBn, rdI_ok, rdL_ok, rdB_ok, wrI_ok, wrL_ok, wrB_ok, hF.vw, (hF.va hi4).1, (hV i hi4).1]
  cases (V i).1 <;> rfl
def viewS (V : Nat → VwT) (x w : Int32) : Int32 := match vAt V x with
  | none => -2
  | some i => if w = 0 then nI (vSegs (V i)).length else if w = 1 then nI (vDocs (V i)).length else if w = 2 then nI (cN (fun k => !vDead (V i) k) (vDocs (V i)).length) else -2
theorem E_view_ok {e : Nat} {da : Nat → Nat} {σ : Mem} {st sp : Bool} {D : List DocT} {V : Nat → VwT} (hF : cFix e σ st sp) (hV : ∀ i, i < 4 → cView e da σ D i (V i)) (x w : Int32) : E_view σ e x w = some (viewS V x w) := by
  have t0 := iFix0 hF
  unfold E_view viewS
  simp (disch := first | assumption | omega | (simp only [gT_sI, gT_sL, gT_sR, gT_sB]; first | assumption | omega)) only [Option.bind_some, ldI_ok, ldL_ok, ldR_ok, ldB_ok, stI_ok, stL_ok, stR_ok, stB_ok, chk_ok, raI_k, raL_k, raR_k, raB_k, waI_k, waL_k, waB_k, waR_k, alen_k, gT_sI, gT_sL, gT_sR, gT_sB, gN_sI, gN_sL, gN_sR, gN_sB, gI_sL, gI_sR, gI_sB, gL_sI, gL_sR, gL_sB, gR_sI, gR_sL, gR_sB, gB_sI, gB_sL, gB_sR, gI_sIs, gL_sLs, gR_sRs, gB_sBs, gI_sIn, gL_sLn, gR_sRn, gB_sBn, rdI_ok, rdL_ok, rdB_ok, wrI_ok, wrL_ok, wrB_ok, E_viewAt_ok hF hV]
  cases hx : vAt V x with
  | none => rfl
  | some i =>
    obtain ⟨hi, -, ho⟩ := vAt_ok hx
    obtain ⟨v1, v2, v3, v4, v5, v6, v7⟩ := (hV i hi).2 ho
    have tv := (hF.vt hi).1
    simp (disch := first | assumption | omega | (simp only [gT_sI, gT_sL, gT_sR, gT_sB]; first | assumption | omega)) only [Option.bind_some, ldI_ok, ldL_ok, ldR_ok, ldB_ok, stI_ok, stL_ok, stR_ok, stB_ok, chk_ok, raI_k, raL_k, raR_k, raB_k, waI_k, waL_k, waB_k, waR_k, alen_k, gT_sI, gT_sL, gT_sR, gT_sB, gN_sI, gN_sL, gN_sR, gN_sB, gI_sL, gI_sR, gI_sB, gL_sI, gL_sR, gL_sB, gR_sI, gR_sL, gR_sB, gB_sI, gB_sL, gB_sR, gI_sIs, gL_sLs, gR_sRs, gB_sBs, gI_sIn, gL_sLn, gR_sRn, gB_sBn, rdI_ok, rdL_ok, rdB_ok, wrI_ok, wrL_ok, wrB_ok, Option.map_some, v1, v4, v7]
    rw [if_neg (by simp)]
    by_cases w1 : w = 0
    · rw [if_pos w1, if_pos w1]
    rw [if_neg w1, if_neg w1]
    by_cases w1 : w = 1
    · rw [if_pos w1, if_pos w1]
    rw [if_neg w1, if_neg w1]
    by_cases w1 : w = 2
    · rw [if_pos w1, if_pos w1]
    rw [if_neg w1, if_neg w1]
theorem E_documentAt_ok {e : Nat} {da : Nat → Nat} {σ : Mem} {st sp : Bool} {D : List DocT} {dl : Nat → Bool} (hF : cFix e σ st sp) (hD : cDocs e da σ D dl) {i : Nat} (hi : i < D.length) : E_documentAt σ e (nI i) = some (some (da i)) := by
  have t0 := iFix0 hF
  obtain ⟨t4, t4'⟩ := iFix hF 4 104 400 (by decide) rfl
  have r : gR σ e 3 = some (e + 4) := hF.2.1.2.2.1
  have hl := hD.1
  have h4 := hD.2.1
  unfold E_documentAt
  simp (disch := first | assumption | omega | (simp only [gT_sI, gT_sL, gT_sR, gT_sB]; first | assumption | omega)) only [Option.bind_some, ldI_ok, ldL_ok, ldR_ok, ldB_ok, stI_ok, stL_ok, stR_ok, stB_ok, chk_ok, raI_k, raL_k, raR_k, raB_k, waI_k, waL_k, waB_k, waR_k, alen_k, gT_sI, gT_sL, gT_sR, gT_sB, gN_sI, gN_sL, gN_sR, gN_sB, gI_sL, gI_sR, gI_sB, gL_sI, gL_sR, gL_sB, gR_sI, gR_sL, gR_sB, gB_sI, gB_sL, gB_sR, gI_sIs, gL_sLs, gR_sRs, gB_sBs, gI_sIn, gL_sLn, gR_sRn, gB_sBn, rdI_ok, rdL_ok, rdB_ok, wrI_ok, wrL_ok, wrB_ok, nl, nI_add, nI_mul, iSub, iEq, iLe, iLt, iEqN, iNEq, iNN, iLtN, iNLt, iLeN, iNLe, iAddN, iNAdd, iMin, iMax, iDiv, iRem, hl, r, (hD.2.2 i hi).1]
  rw [if_neg (by omega), if_neg (by omega), if_neg (by omega)]
theorem E_isLive_ok {e : Nat} {da : Nat → Nat} {σ : Mem} {D : List DocT} {dl : Nat → Bool} (hD : cDocs e da σ D dl) {i : Nat} (hi : i < D.length) : E_isLive σ (some (da i)) = some (!dl i) := by
  have td := (hD.d hi).1.t
  unfold E_isLive
  simp (disch := first | assumption | omega | (simp only [gT_sI, gT_sL, gT_sR, gT_sB]; first | assumption | omega)) only [Option.bind_some, ldI_ok, ldL_ok, ldR_ok, ldB_ok, stI_ok, stL_ok, stR_ok, stB_ok, chk_ok, raI_k, raL_k, raR_k, raB_k, waI_k, waL_k, waB_k, waR_k, alen_k, gT_sI, gT_sL, gT_sR, gT_sB, gN_sI, gN_sL, gN_sR, gN_sB, gI_sL, gI_sR, gI_sB, gL_sI, gL_sR, gL_sB, gR_sI, gR_sL, gR_sB, gB_sI, gB_sL, gB_sR, gI_sIs, gL_sLs, gR_sRs, gB_sBs, gI_sIn, gL_sLn, gR_sRn, gB_sBn, rdI_ok, rdL_ok, rdB_ok, wrI_ok, wrL_ok, wrB_ok, (hD.2.2 i hi).2.2]
  rw [if_neg (by simp)]
  cases dl i <;> rfl
def bufS (D : List DocT) (dl : Nat → Bool) (bs : Nat) : Nat := cN (fun k => !dl (bs + k)) (D.length - bs)
theorem E_liveInBuffer_ok {e : Nat} {da : Nat → Nat} {σ : Mem} {st sp : Bool} {D : List DocT} {dl : Nat → Bool} {bs : Nat} (hF : cFix e σ st sp) (hD : cDocs e da σ D dl) (hb : gI σ e 5 = nI bs) (hbs : bs ≤ D.length) : E_liveInBuffer σ e = some (nI (bufS D dl bs)) := by
  have t0 := iFix0 hF
  have hl := hD.1
  have h4 := hD.2.1
  unfold E_liveInBuffer
  simp (disch := first | assumption | omega | (simp only [gT_sI, gT_sL, gT_sR, gT_sB]; first | assumption | omega)) only [Option.bind_some, ldI_ok, ldL_ok, ldR_ok, ldB_ok, stI_ok, stL_ok, stR_ok, stB_ok, chk_ok, raI_k, raL_k, raR_k, raB_k, waI_k, waL_k, waB_k, waR_k, alen_k, gT_sI, gT_sL, gT_sR, gT_sB, gN_sI, gN_sL, gN_sR, gN_sB, gI_sL, gI_sR, gI_sB, gL_sI, gL_sR, gL_sB, gR_sI, gR_sL, gR_sB, gB_sI, gB_sL, gB_sR, gI_sIs, gL_sLs, gR_sRs, gB_sBs, gI_sIn, gL_sLn, gR_sRn, gB_sBn, rdI_ok, rdL_ok, rdB_ok, wrI_ok, wrL_ok, wrB_ok, hb]
  rw [show (0 : Int32) = nI 0 from rfl]
  rw [lp_sum (c := fun k => if (!dl (bs + k)) = true then 1 else 0) (b := nI (bufS D dl bs)) (D.length - bs) bs (fun j hj => ?_) ?_]
  · rfl
  · unfold E_liveInBuffer_l7
    simp (disch := first | assumption | omega | (simp only [gT_sI, gT_sL, gT_sR, gT_sB]; first | assumption | omega)) only [Option.bind_some, ldI_ok, ldL_ok, ldR_ok, ldB_ok, stI_ok, stL_ok, stR_ok, stB_ok, chk_ok, raI_k, raL_k, raR_k, raB_k, waI_k, waL_k, waB_k, waR_k, alen_k, gT_sI, gT_sL, gT_sR, gT_sB, gN_sI, gN_sL, gN_sR, gN_sB, gI_sL, gI_sR, gI_sB, gL_sI, gL_sR, gL_sB, gR_sI, gR_sL, gR_sB, gB_sI, gB_sL, gB_sR, gI_sIs, gL_sLs, gR_sRs, gB_sBs, gI_sIn, gL_sLn, gR_sRn, gB_sBn, rdI_ok, rdL_ok, rdB_ok, wrI_ok, wrL_ok, wrB_ok, nl, nI_add, nI_mul, iSub, iEq, iLe, iLt, iEqN, iNEq, iNN, iLtN, iNLt, iLeN, iNLe, iAddN, iNAdd, iMin, iMax, iDiv, iRem, hl]
    rw [if_pos (by omega)]
    rfl
  · unfold E_liveInBuffer_l7
    simp (disch := first | assumption | omega | (simp only [gT_sI, gT_sL, gT_sR, gT_sB]; first | assumption | omega)) only [Option.bind_some, ldI_ok, ldL_ok, ldR_ok, ldB_ok, stI_ok, stL_ok, stR_ok, stB_ok, chk_ok, raI_k, raL_k, raR_k, raB_k, waI_k, waL_k, waB_k, waR_k, alen_k, gT_sI, gT_sL, gT_sR, gT_sB, gN_sI, gN_sL, gN_sR, gN_sB, gI_sL, gI_sR, gI_sB, gL_sI, gL_sR, gL_sB, gR_sI, gR_sL, gR_sB, gB_sI, gB_sL, gB_sR, gI_sIs, gL_sLs, gR_sRs, gB_sBs, gI_sIn, gL_sLn, gR_sRn, gB_sBn, rdI_ok, rdL_ok, rdB_ok, wrI_ok, wrL_ok, wrB_ok, nl, nI_add, nI_mul, iSub, iEq, iLe, iLt, iEqN, iNEq, iNN, iLtN, iNLt, iLeN, iNLe, iAddN, iNAdd, iMin, iMax, iDiv, iRem, hl]
    rw [if_neg (by omega), E_documentAt_ok hF hD (by omega)]
    simp only [Option.bind_some]
    rw [E_isLive_ok hD (by omega)]
    cases dl (bs + j) <;> simp only [if_true, if_false, not_true_eq_false, not_false_eq_true, true_and, and_true, false_and, and_false, true_or, or_true, false_or, or_false, decide_true, decide_false, Bool.false_eq_true, reduceCtorEq, Option.bind_some, Option.map_some, Option.map_none, Option.bind_none, jn_l, jn_r, jn_n, se_l, se_r, Bool.not_true, Bool.not_false, nl, nI_add, Nat.add_zero]
theorem E_openViews_ok {e : Nat} {da : Nat → Nat} {σ : Mem} {st sp : Bool} {D : List DocT} {V : Nat → VwT} (hF : cFix e σ st sp) (hV : ∀ i, i < 4 → cView e da σ D i (V i)) : E_openViews σ e = some (nI (cN (fun i => (V i).1) 4)) := by
  have t0 := iFix0 hF
  obtain ⟨t7, t7'⟩ := iFix hF 7 106 4 (by decide) rfl
  unfold E_openViews
  rw [show (0 : Int32) = nI 0 from rfl]
  rw [lp_sum (c := fun i => if (V i).1 = true then 1 else 0) (b := nI (cN (fun i => (V i).1) 4)) 4 0 (fun j hj => ?_) ?_]
  · rfl
  · unfold E_openViews_l4
    simp (disch := first | assumption | omega | (simp only [gT_sI, gT_sL, gT_sR, gT_sB]; first | assumption | omega)) only [Option.bind_some, ldI_ok, ldL_ok, ldR_ok, ldB_ok, stI_ok, stL_ok, stR_ok, stB_ok, chk_ok, raI_k, raL_k, raR_k, raB_k, waI_k, waL_k, waB_k, waR_k, alen_k, gT_sI, gT_sL, gT_sR, gT_sB, gN_sI, gN_sL, gN_sR, gN_sB, gI_sL, gI_sR, gI_sB, gL_sI, gL_sR, gL_sB, gR_sI, gR_sL, gR_sB, gB_sI, gB_sL, gB_sR, gI_sIs, gL_sLs, gR_sRs, gB_sBs, gI_sIn, gL_sLn, gR_sRn, gB_sBn, rdI_ok, rdL_ok, rdB_ok, wrI_ok, wrL_ok, wrB_ok, nl, nI_add, nI_mul, iSub, iEq, iLe, iLt, iEqN, iNEq, iNN, iLtN, iNLt, iLeN, iNLe, iAddN, iNAdd, iMin, iMax, iDiv, iRem]
    rw [if_pos (by omega)]
    rfl
  · have tv := (hF.vt hj).1
    rw [Nat.zero_add]
    unfold E_openViews_l4
    simp (disch := first | assumption | omega | (simp only [gT_sI, gT_sL, gT_sR, gT_sB]; first | assumption | omega)) only [Option.bind_some, ldI_ok, ldL_ok, ldR_ok, ldB_ok, stI_ok, stL_ok, stR_ok, stB_ok, chk_ok, raI_k, raL_k, raR_k, raB_k, waI_k, waL_k, waB_k, waR_k, alen_k, gT_sI, gT_sL, gT_sR, gT_sB, gN_sI, gN_sL, gN_sR, gN_sB, gI_sL, gI_sR, gI_sB, gL_sI, gL_sR, gL_sB, gR_sI, gR_sL, gR_sB, gB_sI, gB_sL, gB_sR, gI_sIs, gL_sLs, gR_sRs, gB_sBs, gI_sIn, gL_sLn, gR_sRn, gB_sBn, rdI_ok, rdL_ok, rdB_ok, wrI_ok, wrL_ok, wrB_ok, nl, nI_add, nI_mul, iSub, iEq, iLe, iLt, iEqN, iNEq, iNN, iLtN, iNLt, iLeN, iNLe, iAddN, iNAdd, iMin, iMax, iDiv, iRem, hF.vw, (hF.va hj).1, (hV j hj).1]
    rw [if_neg (by omega)]
    cases (V j).1 <;> simp only [if_true, if_false, not_true_eq_false, not_false_eq_true, true_and, and_true, false_and, and_false, true_or, or_true, false_or, or_false, decide_true, decide_false, Bool.false_eq_true, reduceCtorEq, Option.bind_some, Option.map_some, Option.map_none, Option.bind_none, jn_l, jn_r, jn_n, se_l, se_r, nl, nI_add, Nat.add_zero]
def toldS (D : List DocT) (dl : Nat → Bool) (bs : Nat) (G : List SegT) (V : Nat → VwT) (A : AnT) (mg : Nat) (x : Int32) : Int32 := if x = 0 then nI D.length else if x = 1 then nI (bufS D dl bs) else if x = 2 then nI G.length else if x = 3 then nI (cN (fun i => (V i).1) 4) else if x = 4 then nI A.2.1.length else if x = 5 then A.1 else if x = 6 then nI mg else -2
theorem E_told_ok {e : Nat} {da : Nat → Nat} {σ : Mem} {tp : Nat → Nat} {n : Nat} {D : List DocT} {dl : Nat → Bool} {bs : Nat} {G : List SegT} {V : Nat → VwT} {A : AnT} {nr : Option (List Nat)} {mg : Nat} {st sp : Bool} (h : cH e da σ tp n D dl bs G V A nr mg st sp) (hbs : bs ≤ D.length) (x : Int32) : E_told σ e x = some (toldS D dl bs G V A mg x) := by
  obtain ⟨hF, -, hD, hb, hG, hV, hA, -, hm⟩ := h
  have t0 := iFix0 hF
  obtain ⟨t1, -⟩ := iFix hF 24 0 0 (by decide) rfl
  unfold E_told toldS
  simp (disch := first | assumption | omega | (simp only [gT_sI, gT_sL, gT_sR, gT_sB]; first | assumption | omega)) only [Option.bind_some, ldI_ok, ldL_ok, ldR_ok, ldB_ok, stI_ok, stL_ok, stR_ok, stB_ok, chk_ok, raI_k, raL_k, raR_k, raB_k, waI_k, waL_k, waB_k, waR_k, alen_k, gT_sI, gT_sL, gT_sR, gT_sB, gN_sI, gN_sL, gN_sR, gN_sB, gI_sL, gI_sR, gI_sB, gL_sI, gL_sR, gL_sB, gR_sI, gR_sL, gR_sB, gB_sI, gB_sL, gB_sR, gI_sIs, gL_sLs, gR_sRs, gB_sBs, gI_sIn, gL_sLn, gR_sRn, gB_sBn, rdI_ok, rdL_ok, rdB_ok, wrI_ok, wrL_ok, wrB_ok, hD.1, E_liveInBuffer_ok hF hD hb hbs, hG.1, E_openViews_ok hF hV, hF.an, hA.1, hA.2.1, hm]
  by_cases w1 : x = 0
  · rw [if_pos w1, if_pos w1]
  rw [if_neg w1, if_neg w1]
  by_cases w1 : x = 1
  · rw [if_pos w1, if_pos w1]
  rw [if_neg w1, if_neg w1]
  by_cases w1 : x = 2
  · rw [if_pos w1, if_pos w1]
  rw [if_neg w1, if_neg w1]
  by_cases w1 : x = 3
  · rw [if_pos w1, if_pos w1]
  rw [if_neg w1, if_neg w1]
  by_cases w1 : x = 4
  · rw [if_pos w1, if_pos w1]
  rw [if_neg w1, if_neg w1]
  by_cases w1 : x = 5
  · rw [if_pos w1, if_pos w1]
  rw [if_neg w1, if_neg w1]
  by_cases w1 : x = 6
  · rw [if_pos w1, if_pos w1]
  rw [if_neg w1, if_neg w1]
