/-! WORDS OF THE TAPE: of the reference -/
def rBy (R : RS) (tp : Nat → Nat) : Prop := ∀ i, i < 600 → tp i < 256 ∧ R.1 1 i = nI (tp i)
/-- the term at hand -/
def rTm (R : RS) (t : List Nat) : Prop := R.1 0 38 = nI t.length ∧ ∀ i, i < t.length → R.1 27 i = nI (t.getD i 0)
def wTm : Nat → Nat → Nat → Prop := fun t c k => t = 0 ∧ ((c = 0 ∧ k = 38) ∨ c = 27)
theorem rBy.rp {R R' : RS} {tp : Nat → Nat} {W : Nat → Nat → Nat → Prop} (h : rBy R tp) (hk : Rp W R R') (h2 : ∀ k, ¬ W 0 1 k) : rBy R' tp := fun i hi => by rw [hk.I (by decide) (h2 i)]; exact h i hi
theorem rTape.by {R : RS} {tp : Nat → Nat} {n : Nat} (h : rTape R tp n) : rBy R tp := h.2.2
theorem M_lower_ok : ∀ b, b < 256 → M_lower (nI b) = some (nI (low b)) := by decide +kernel
theorem M_isLetter_ok : ∀ b, b < 256 → M_isLetter (nI b) = some (isL b) := by decide +kernel
theorem low_lt {b : Nat} (h : b < 256) : low b < 256 := by
  unfold low
  split <;> omega
theorem M_small_ok {R : RS} {tp : Nat → Nat} (h : rBy R tp) {p k : Nat} (hp : p + k ≤ 600) : ∃ R', M_small R (nI p) (nI k) = some R' ∧ Rp wTm R R' ∧ rTm R' (small tp p k) := by
  unfold M_small
  have e1 : (if nI k ≤ 12 then some (nI k) else some 12) = some (nI (min k 12)) := by
    simp (disch := omega) only [nl, nI_add, nI_mul, iSub, iEq, iLe, iLt, iEqN, iNEq, iNN, iLtN, iNLt, iLeN, iNLe, iAddN, iNAdd, iMin, iMax, iDiv, iRem]
    by_cases c : k ≤ 12
    · rw [if_pos c, Nat.min_eq_left c]
    · rw [if_neg c, Nat.min_eq_right (by omega)]
  rw [e1]
  simp only [Option.bind_some]
  have hl : ∃ z, lp (fun q : Int32 × RS => M_small_l18 q.2 (nI p) q.1) (nI 0, pI R 38 (nI (min k 12))) = some z ∧ (Rp wTm R z ∧ rTm z (small tp p k)) := by
    refine lp_for (fun i Q => (nI i, Q)) (min k 12) (fun i Q => Rp wTm R Q ∧ Q.1 0 38 = nI (min k 12) ∧ ∀ j, j < i → Q.1 27 j = nI (low (tp (p + j)))) _ (fun i Q hi hI => ?_) (fun Q hI => ?_) (min k 12) 0 _ (by omega) ?_
    · left
      obtain ⟨q1, q2, q3⟩ := hI
      have hb := (h.rp q1 (fun k z => by unfold wTm at z; omega)) (p + i) (by omega)
      unfold M_small_l18
      rw [q2]
      simp (disch := first | assumption | omega | (simp only [gT_sI, gT_sL, gT_sR, gT_sB]; first | assumption | omega)) only [Option.bind_some, ldI_ok, ldL_ok, ldR_ok, ldB_ok, stI_ok, stL_ok, stR_ok, stB_ok, chk_ok, raI_k, raL_k, raR_k, raB_k, waI_k, waL_k, waB_k, waR_k, alen_k, gT_sI, gT_sL, gT_sR, gT_sB, gN_sI, gN_sL, gN_sR, gN_sB, gI_sL, gI_sR, gI_sB, gL_sI, gL_sR, gL_sB, gR_sI, gR_sL, gR_sB, gB_sI, gB_sL, gB_sR, gI_sIs, gL_sLs, gR_sRs, gB_sBs, gI_sIn, gL_sLn, gR_sRn, gB_sBn, rdI_ok, rdL_ok, rdB_ok, wrI_ok, wrL_ok, wrB_ok, nl, nI_add, nI_mul, iSub, iEq, iLe, iLt, iEqN, iNEq, iNN, iLtN, iNLt, iLeN, iNLe, iAddN, iNAdd, iMin, iMax, iDiv, iRem, hb.2, M_lower_ok _ hb.1]
      rw [if_neg (by omega)]
      refine ⟨_, rfl, Rp.tr q1 (Rp.wI (W := wTm) (by unfold wTm; omega)) (fun _ _ _ z => z), ?_, fun j hj => ?_⟩
      · simp (disch := omega) only [pI, pL, pB, up2_s, up2_ne]; exact q2
      · by_cases c : j = i
        · subst c; simp only [pI, pL, pB, up2_s, up2_ne]
        · simp (disch := omega) only [pI, pL, pB, up2_s, up2_ne]; exact q3 j (by omega)
    · obtain ⟨q1, q2, q3⟩ := hI
      refine ⟨Q, ?_, q1, ?_, fun i hi => ?_⟩
      · unfold M_small_l18
        rw [q2]
        simp (disch := omega) only [nl, nI_add, nI_mul, iSub, iEq, iLe, iLt, iEqN, iNEq, iNN, iLtN, iNLt, iLeN, iNLe, iAddN, iNAdd, iMin, iMax, iDiv, iRem]
        rw [if_pos (by omega)]
      · rw [small_len]; exact q2
      · rw [small_len] at hi
        rw [small_at hi]
        exact q3 i hi
    · exact ⟨Rp.pI (by unfold wTm; omega), by simp only [pI, pL, pB, up2_s, up2_ne], fun j hj => absurd hj (by omega)⟩
  obtain ⟨z, hz, h1, h2⟩ := hl
  rw [show (0 : Int32) = nI 0 from rfl, hz]
  exact ⟨z, rfl, h1, h2⟩
theorem nI_inj_lt {a b : Nat} (ha : a < 2147483648) (hb : b < 2147483648) (h : nI a = nI b) : a = b := by
  rw [iEq ha hb] at h
  exact h
theorem M_isTerm1 {R : RS} {t : List Nat} (h : rTm R t) (ht : isTerm t) {a : Nat} (ha : a < 256) : M_isTerm R (nI a) 0 0 = some (decide (t = [a])) := by
  obtain ⟨h1, h2⟩ := h
  have hl := ht.1
  unfold M_isTerm
  rw [h1]
  simp (disch := omega) only [nl, nI_add, nI_mul, iSub, iEq, iLe, iLt, iEqN, iNEq, iNN, iLtN, iNLt, iLeN, iNLe, iAddN, iNAdd, iMin, iMax, iDiv, iRem, if_true, if_false, not_true_eq_false, not_false_eq_true, true_and, and_true, false_and, and_false, true_or, or_true, false_or, or_false, decide_true, decide_false, Bool.false_eq_true, reduceCtorEq, Option.bind_some, Option.map_some, Option.map_none, Option.bind_none, jn_l, jn_r, jn_n, se_l, se_r, Nat.le_refl, Nat.lt_irrefl]
  by_cases c : t.length = 1
  · have e0 := h2 0 (by omega)
    have b0 := isTerm_at ht (k := 0) (by omega)
    unfold isTb at b0
    simp (disch := first | assumption | omega | (simp only [gT_sI, gT_sL, gT_sR, gT_sB]; first | assumption | omega)) only [Option.bind_some, ldI_ok, ldL_ok, ldR_ok, ldB_ok, stI_ok, stL_ok, stR_ok, stB_ok, chk_ok, raI_k, raL_k, raR_k, raB_k, waI_k, waL_k, waB_k, waR_k, alen_k, gT_sI, gT_sL, gT_sR, gT_sB, gN_sI, gN_sL, gN_sR, gN_sB, gI_sL, gI_sR, gI_sB, gL_sI, gL_sR, gL_sB, gR_sI, gR_sL, gR_sB, gB_sI, gB_sL, gB_sR, gI_sIs, gL_sLs, gR_sRs, gB_sBs, gI_sIn, gL_sLn, gR_sRn, gB_sBn, rdI_ok, rdL_ok, rdB_ok, wrI_ok, wrL_ok, wrB_ok, c, if_true, if_false, not_true_eq_false, not_false_eq_true, true_and, and_true, false_and, and_false, true_or, or_true, false_or, or_false, decide_true, decide_false, Bool.false_eq_true, reduceCtorEq, Option.bind_some, Option.map_some, Option.map_none, Option.bind_none, jn_l, jn_r, jn_n, se_l, se_r, e0]
    simp (disch := omega) only [iEq]
    have q : (t = [a]) ↔ t.getD 0 0 = a := by
      constructor
      · intro e; rw [e]; rfl
      · intro e
        exact ext_getD c (fun k hk => by rw [show k = 0 by omega]; exact e)
    by_cases z : t.getD 0 0 = a
    · simp (disch := omega) only [z, q, if_true, if_false, not_true_eq_false, not_false_eq_true, true_and, and_true, false_and, and_false, true_or, or_true, false_or, or_false, decide_true, decide_false, Bool.false_eq_true, reduceCtorEq, Option.bind_some, Option.map_some, Option.map_none, Option.bind_none, jn_l, jn_r, jn_n, se_l, se_r, nl, nI_add, nI_mul, iSub, iEq, iLe, iLt, iEqN, iNEq, iNN, iLtN, iNLt, iLeN, iNLe, iAddN, iNAdd, iMin, iMax, iDiv, iRem, if_pos]
      try first | rfl | (simp [nl, iLt]; done)
    · simp only [z, q, if_true, if_false, not_true_eq_false, not_false_eq_true, true_and, and_true, false_and, and_false, true_or, or_true, false_or, or_false, decide_true, decide_false, Bool.false_eq_true, reduceCtorEq, Option.bind_some, Option.map_some, Option.map_none, Option.bind_none, jn_l, jn_r, jn_n, se_l, se_r]
  · have q : ¬ t = [a] := fun e => c (by rw [e]; rfl)
    simp only [c, q, if_true, if_false, not_true_eq_false, not_false_eq_true, true_and, and_true, false_and, and_false, true_or, or_true, false_or, or_false, decide_true, decide_false, Bool.false_eq_true, reduceCtorEq, Option.bind_some, Option.map_some, Option.map_none, Option.bind_none, jn_l, jn_r, jn_n, se_l, se_r]
theorem M_isTerm2 {R : RS} {t : List Nat} (h : rTm R t) (ht : isTerm t) {a b : Nat} (ha : a < 256) (hb : b < 256) (hb0 : 0 < b) : M_isTerm R (nI a) (nI b) 0 = some (decide (t = [a, b])) := by
  obtain ⟨h1, h2⟩ := h
  have hl := ht.1
  have nb : ¬ b ≤ 0 := by omega
  unfold M_isTerm
  rw [h1]
  simp (disch := omega) only [nl, nI_add, nI_mul, iSub, iEq, iLe, iLt, iEqN, iNEq, iNN, iLtN, iNLt, iLeN, iNLe, iAddN, iNAdd, iMin, iMax, iDiv, iRem, if_true, if_false, not_true_eq_false, not_false_eq_true, true_and, and_true, false_and, and_false, true_or, or_true, false_or, or_false, decide_true, decide_false, Bool.false_eq_true, reduceCtorEq, Option.bind_some, Option.map_some, Option.map_none, Option.bind_none, jn_l, jn_r, jn_n, se_l, se_r, Nat.le_refl, Nat.lt_irrefl, nb]
  by_cases c : t.length = 2
  · have e0 := h2 0 (by omega)
    have b0 := isTerm_at ht (k := 0) (by omega)
    have e1 := h2 1 (by omega)
    have b1 := isTerm_at ht (k := 1) (by omega)
    unfold isTb at b0 b1
    simp (disch := first | assumption | omega | (simp only [gT_sI, gT_sL, gT_sR, gT_sB]; first | assumption | omega)) only [Option.bind_some, ldI_ok, ldL_ok, ldR_ok, ldB_ok, stI_ok, stL_ok, stR_ok, stB_ok, chk_ok, raI_k, raL_k, raR_k, raB_k, waI_k, waL_k, waB_k, waR_k, alen_k, gT_sI, gT_sL, gT_sR, gT_sB, gN_sI, gN_sL, gN_sR, gN_sB, gI_sL, gI_sR, gI_sB, gL_sI, gL_sR, gL_sB, gR_sI, gR_sL, gR_sB, gB_sI, gB_sL, gB_sR, gI_sIs, gL_sLs, gR_sRs, gB_sBs, gI_sIn, gL_sLn, gR_sRn, gB_sBn, rdI_ok, rdL_ok, rdB_ok, wrI_ok, wrL_ok, wrB_ok, c, if_true, if_false, not_true_eq_false, not_false_eq_true, true_and, and_true, false_and, and_false, true_or, or_true, false_or, or_false, decide_true, decide_false, Bool.false_eq_true, reduceCtorEq, Option.bind_some, Option.map_some, Option.map_none, Option.bind_none, jn_l, jn_r, jn_n, se_l, se_r, e0, e1]
    simp (disch := omega) only [iEq]
    have q : (t = [a, b]) ↔ t.getD 0 0 = a ∧ t.getD 1 0 = b := by
      constructor
      · intro e; rw [e]; exact ⟨rfl, rfl⟩
      · intro e
        refine ext_getD c (fun k hk => ?_)
        have : k = 0 ∨ k = 1 := by omega
        rcases this with rfl | rfl
        · exact e.1
        · exact e.2
    by_cases z : t.getD 0 0 = a
    · by_cases z1 : t.getD 1 0 = b
      · simp (disch := omega) only [z, z1, q, if_true, if_false, not_true_eq_false, not_false_eq_true, true_and, and_true, false_and, and_false, true_or, or_true, false_or, or_false, decide_true, decide_false, Bool.false_eq_true, reduceCtorEq, Option.bind_some, Option.map_some, Option.map_none, Option.bind_none, jn_l, jn_r, jn_n, se_l, se_r, nl, nI_add, nI_mul, iSub, iEq, iLe, iLt, iEqN, iNEq, iNN, iLtN, iNLt, iLeN, iNLe, iAddN, iNAdd, iMin, iMax, iDiv, iRem]
        try first | rfl | (simp [nl, iLt]; done)
      · simp (disch := omega) only [z, z1, q, if_true, if_false, not_true_eq_false, not_false_eq_true, true_and, and_true, false_and, and_false, true_or, or_true, false_or, or_false, decide_true, decide_false, Bool.false_eq_true, reduceCtorEq, Option.bind_some, Option.map_some, Option.map_none, Option.bind_none, jn_l, jn_r, jn_n, se_l, se_r, nl, nI_add, nI_mul, iSub, iEq, iLe, iLt, iEqN, iNEq, iNN, iLtN, iNLt, iLeN, iNLe, iAddN, iNAdd, iMin, iMax, iDiv, iRem]
        try first | rfl | (simp [nl, iLt]; done)
    · simp only [z, q, if_true, if_false, not_true_eq_false, not_false_eq_true, true_and, and_true, false_and, and_false, true_or, or_true, false_or, or_false, decide_true, decide_false, Bool.false_eq_true, reduceCtorEq, Option.bind_some, Option.map_some, Option.map_none, Option.bind_none, jn_l, jn_r, jn_n, se_l, se_r]
  · have q : ¬ t = [a, b] := fun e => c (by rw [e]; rfl)
    simp only [c, q, if_true, if_false, not_true_eq_false, not_false_eq_true, true_and, and_true, false_and, and_false, true_or, or_true, false_or, or_false, decide_true, decide_false, Bool.false_eq_true, reduceCtorEq, Option.bind_some, Option.map_some, Option.map_none, Option.bind_none, jn_l, jn_r, jn_n, se_l, se_r]
theorem M_isTerm3 {R : RS} {t : List Nat} (h : rTm R t) (ht : isTerm t) {a b d : Nat} (ha : a < 256) (hb : b < 256) (hd : d < 256) (hd0 : 0 < d) : M_isTerm R (nI a) (nI b) (nI d) = some (decide (t = [a, b, d])) := by
  obtain ⟨h1, h2⟩ := h
  have hl := ht.1
  have nb : ¬ d ≤ 0 := by omega
  unfold M_isTerm
  rw [h1]
  simp (disch := omega) only [nl, nI_add, nI_mul, iSub, iEq, iLe, iLt, iEqN, iNEq, iNN, iLtN, iNLt, iLeN, iNLe, iAddN, iNAdd, iMin, iMax, iDiv, iRem, if_true, if_false, not_true_eq_false, not_false_eq_true, true_and, and_true, false_and, and_false, true_or, or_true, false_or, or_false, decide_true, decide_false, Bool.false_eq_true, reduceCtorEq, Option.bind_some, Option.map_some, Option.map_none, Option.bind_none, jn_l, jn_r, jn_n, se_l, se_r, Nat.le_refl, Nat.lt_irrefl, nb]
  by_cases c : t.length = 3
  · have e0 := h2 0 (by omega)
    have b0 := isTerm_at ht (k := 0) (by omega)
    have e1 := h2 1 (by omega)
    have b1 := isTerm_at ht (k := 1) (by omega)
    have e2 := h2 2 (by omega)
    have b2 := isTerm_at ht (k := 2) (by omega)
    unfold isTb at b0 b1 b2
    simp (disch := first | assumption | omega | (simp only [gT_sI, gT_sL, gT_sR, gT_sB]; first | assumption | omega)) only [Option.bind_some, ldI_ok, ldL_ok, ldR_ok, ldB_ok, stI_ok, stL_ok, stR_ok, stB_ok, chk_ok, raI_k, raL_k, raR_k, raB_k, waI_k, waL_k, waB_k, waR_k, alen_k, gT_sI, gT_sL, gT_sR, gT_sB, gN_sI, gN_sL, gN_sR, gN_sB, gI_sL, gI_sR, gI_sB, gL_sI, gL_sR, gL_sB, gR_sI, gR_sL, gR_sB, gB_sI, gB_sL, gB_sR, gI_sIs, gL_sLs, gR_sRs, gB_sBs, gI_sIn, gL_sLn, gR_sRn, gB_sBn, rdI_ok, rdL_ok, rdB_ok, wrI_ok, wrL_ok, wrB_ok, c, if_true, if_false, not_true_eq_false, not_false_eq_true, true_and, and_true, false_and, and_false, true_or, or_true, false_or, or_false, decide_true, decide_false, Bool.false_eq_true, reduceCtorEq, Option.bind_some, Option.map_some, Option.map_none, Option.bind_none, jn_l, jn_r, jn_n, se_l, se_r, e0, e1, e2]
    simp (disch := omega) only [iEq]
    have q : (t = [a, b, d]) ↔ t.getD 0 0 = a ∧ t.getD 1 0 = b ∧ t.getD 2 0 = d := by
      constructor
      · intro e; rw [e]; exact ⟨rfl, rfl, rfl⟩
      · intro e
        refine ext_getD c (fun k hk => ?_)
        have : k = 0 ∨ k = 1 ∨ k = 2 := by omega
        rcases this with rfl | rfl | rfl
        · exact e.1
        · exact e.2.1
        · exact e.2.2
    by_cases z : t.getD 0 0 = a
    · by_cases z1 : t.getD 1 0 = b
      · by_cases z2 : t.getD 2 0 = d
        · simp (disch := omega) only [z, z1, z2, q, if_true, if_false, not_true_eq_false, not_false_eq_true, true_and, and_true, false_and, and_false, true_or, or_true, false_or, or_false, decide_true, decide_false, Bool.false_eq_true, reduceCtorEq, Option.bind_some, Option.map_some, Option.map_none, Option.bind_none, jn_l, jn_r, jn_n, se_l, se_r, nl, nI_add, nI_mul, iSub, iEq, iLe, iLt, iEqN, iNEq, iNN, iLtN, iNLt, iLeN, iNLe, iAddN, iNAdd, iMin, iMax, iDiv, iRem]
          try first | rfl | (simp [nl, iLt]; done)
        · simp (disch := omega) only [z, z1, z2, q, if_true, if_false, not_true_eq_false, not_false_eq_true, true_and, and_true, false_and, and_false, true_or, or_true, false_or, or_false, decide_true, decide_false, Bool.false_eq_true, reduceCtorEq, Option.bind_some, Option.map_some, Option.map_none, Option.bind_none, jn_l, jn_r, jn_n, se_l, se_r, nl, nI_add, nI_mul, iSub, iEq, iLe, iLt, iEqN, iNEq, iNN, iLtN, iNLt, iLeN, iNLe, iAddN, iNAdd, iMin, iMax, iDiv, iRem]
          try first | rfl | (simp [nl, iLt]; done)
      · simp (disch := omega) only [z, z1, q, if_true, if_false, not_true_eq_false, not_false_eq_true, true_and, and_true, false_and, and_false, true_or, or_true, false_or, or_false, decide_true, decide_false, Bool.false_eq_true, reduceCtorEq, Option.bind_some, Option.map_some, Option.map_none, Option.bind_none, jn_l, jn_r, jn_n, se_l, se_r, nl, nI_add, nI_mul, iSub, iEq, iLe, iLt, iEqN, iNEq, iNN, iLtN, iNLt, iLeN, iNLe, iAddN, iNAdd, iMin, iMax, iDiv, iRem]
        try first | rfl | (simp [nl, iLt]; done)
    · simp only [z, q, if_true, if_false, not_true_eq_false, not_false_eq_true, true_and, and_true, false_and, and_false, true_or, or_true, false_or, or_false, decide_true, decide_false, Bool.false_eq_true, reduceCtorEq, Option.bind_some, Option.map_some, Option.map_none, Option.bind_none, jn_l, jn_r, jn_n, se_l, se_r]
  · have q : ¬ t = [a, b, d] := fun e => c (by rw [e]; rfl)
    simp only [c, q, if_true, if_false, not_true_eq_false, not_false_eq_true, true_and, and_true, false_and, and_false, true_or, or_true, false_or, or_false, decide_true, decide_false, Bool.false_eq_true, reduceCtorEq, Option.bind_some, Option.map_some, Option.map_none, Option.bind_none, jn_l, jn_r, jn_n, se_l, se_r]
theorem rTm.rp {R R' : RS} {t : List Nat} {W : Nat → Nat → Nat → Prop} (h : rTm R t) (hk : Rp W R R') (h1 : ¬ W 0 0 38) (h2 : ∀ k, ¬ W 0 27 k) : rTm R' t :=
  ⟨by rw [hk.I (by decide) h1]; exact h.1, fun i hi => by rw [hk.I (by decide) (h2 i)]; exact h.2 i hi⟩
theorem M_makeTerm_ok {R : RS} {tp : Nat → Nat} {st sp : Bool} (h : rBy R tp) (hst : R.2.2 0 0 = st) (hsp : R.2.2 0 1 = sp) {p k : Nat} (hp : p + k ≤ 600) (hw : isWd tp p k) : ∃ R', M_makeTerm R (nI p) (nI k) = some R' ∧ Rp wTm R R' ∧ rTm R' (mkT st sp tp p k) := by
  obtain ⟨R1, e1, k1, t1⟩ := M_small_ok h hp
  have hlen := small_len tp p k
  have hT := small_term hw
  have hst1 : R1.2.2 0 0 = st := by rw [k1.B (by decide) (by unfold wTm; omega)]; exact hst
  obtain ⟨R2, e2, k2, t2⟩ : ∃ R2, (if (R1.2.2 0 0) = true then (if (R1.1 0 38) < 4 then some R1 else (rdI R1 27 12 ((R1.1 0 38) - 1)).bind fun v5 => if ¬ v5 = 115 then some R1 else (rdI R1 27 12 ((R1.1 0 38) - 2)).bind fun v7 => if v7 = 115 then some R1 else (some (pI R1 38 ((R1.1 0 38) - 1))).bind fun R9 => some R9) else some R1) = some R2 ∧ Rp wTm R R2 ∧ rTm R2 (stemT st (small tp p k)) := by
    obtain ⟨t11, t12⟩ := t1
    rw [hst1, t11]
    by_cases c0 : st = true
    · by_cases c1 : (small tp p k).length < 4
      · refine ⟨R1, ?_, k1, ?_⟩
        · simp (disch := omega) only [c0, c1, nl, nI_add, nI_mul, iSub, iEq, iLe, iLt, iEqN, iNEq, iNN, iLtN, iNLt, iLeN, iNLe, iAddN, iNAdd, iMin, iMax, iDiv, iRem, if_true, if_false, not_true_eq_false, not_false_eq_true, true_and, and_true, false_and, and_false, true_or, or_true, false_or, or_false, decide_true, decide_false, Bool.false_eq_true, reduceCtorEq, Option.bind_some, Option.map_some, Option.map_none, Option.bind_none, jn_l, jn_r, jn_n, se_l, se_r]
        · unfold stemT
          rw [if_neg (by omega)]
          exact ⟨t11, t12⟩
      · have a1 := t12 ((small tp p k).length - 1) (by omega)
        have a2 := t12 ((small tp p k).length - 2) (by omega)
        have b1 := isTerm_at hT (k := (small tp p k).length - 1) (by omega)
        have b2 := isTerm_at hT (k := (small tp p k).length - 2) (by omega)
        unfold isTb at b1 b2
        by_cases c2 : (small tp p k).getD ((small tp p k).length - 1) 0 = 115
        · by_cases c3 : (small tp p k).getD ((small tp p k).length - 2) 0 = 115
          · refine ⟨R1, ?_, k1, ?_⟩
            · simp (disch := omega) only [c0, c1, nl, nI_add, nI_mul, iSub, iEq, iLe, iLt, iEqN, iNEq, iNN, iLtN, iNLt, iLeN, iNLe, iAddN, iNAdd, iMin, iMax, iDiv, iRem, if_true, if_false, not_true_eq_false, not_false_eq_true, true_and, and_true, false_and, and_false, true_or, or_true, false_or, or_false, decide_true, decide_false, Bool.false_eq_true, reduceCtorEq, Option.bind_some, Option.map_some, Option.map_none, Option.bind_none, jn_l, jn_r, jn_n, se_l, se_r]
              simp (disch := first | assumption | omega | (simp only [gT_sI, gT_sL, gT_sR, gT_sB]; first | assumption | omega)) only [Option.bind_some, ldI_ok, ldL_ok, ldR_ok, ldB_ok, stI_ok, stL_ok, stR_ok, stB_ok, chk_ok, raI_k, raL_k, raR_k, raB_k, waI_k, waL_k, waB_k, waR_k, alen_k, gT_sI, gT_sL, gT_sR, gT_sB, gN_sI, gN_sL, gN_sR, gN_sB, gI_sL, gI_sR, gI_sB, gL_sI, gL_sR, gL_sB, gR_sI, gR_sL, gR_sB, gB_sI, gB_sL, gB_sR, gI_sIs, gL_sLs, gR_sRs, gB_sBs, gI_sIn, gL_sLn, gR_sRn, gB_sBn, rdI_ok, rdL_ok, rdB_ok, wrI_ok, wrL_ok, wrB_ok, a1, a2, c2, c3, if_true, if_false, not_true_eq_false, not_false_eq_true, true_and, and_true, false_and, and_false, true_or, or_true, false_or, or_false, decide_true, decide_false, Bool.false_eq_true, reduceCtorEq, Option.bind_some, Option.map_some, Option.map_none, Option.bind_none, jn_l, jn_r, jn_n, se_l, se_r]
            · unfold stemT
              rw [if_neg (fun z => z.2.2.2 c3)]
              exact ⟨t11, t12⟩
          · refine ⟨pI R1 38 (nI ((small tp p k).length - 1)), ?_, Rp.tr k1 (Rp.pI (W := wTm) (by unfold wTm; omega)) (fun _ _ _ z => z), ?_⟩
            · simp (disch := omega) only [c0, c1, nl, nI_add, nI_mul, iSub, iEq, iLe, iLt, iEqN, iNEq, iNN, iLtN, iNLt, iLeN, iNLe, iAddN, iNAdd, iMin, iMax, iDiv, iRem, if_true, if_false, not_true_eq_false, not_false_eq_true, true_and, and_true, false_and, and_false, true_or, or_true, false_or, or_false, decide_true, decide_false, Bool.false_eq_true, reduceCtorEq, Option.bind_some, Option.map_some, Option.map_none, Option.bind_none, jn_l, jn_r, jn_n, se_l, se_r]
              simp (disch := first | assumption | omega | (simp only [gT_sI, gT_sL, gT_sR, gT_sB]; first | assumption | omega)) only [Option.bind_some, ldI_ok, ldL_ok, ldR_ok, ldB_ok, stI_ok, stL_ok, stR_ok, stB_ok, chk_ok, raI_k, raL_k, raR_k, raB_k, waI_k, waL_k, waB_k, waR_k, alen_k, gT_sI, gT_sL, gT_sR, gT_sB, gN_sI, gN_sL, gN_sR, gN_sB, gI_sL, gI_sR, gI_sB, gL_sI, gL_sR, gL_sB, gR_sI, gR_sL, gR_sB, gB_sI, gB_sL, gB_sR, gI_sIs, gL_sLs, gR_sRs, gB_sBs, gI_sIn, gL_sLn, gR_sRn, gB_sBn, rdI_ok, rdL_ok, rdB_ok, wrI_ok, wrL_ok, wrB_ok, a1, a2, c2, if_true, if_false, not_true_eq_false, not_false_eq_true, true_and, and_true, false_and, and_false, true_or, or_true, false_or, or_false, decide_true, decide_false, Bool.false_eq_true, reduceCtorEq, Option.bind_some, Option.map_some, Option.map_none, Option.bind_none, jn_l, jn_r, jn_n, se_l, se_r]
              simp (disch := omega) only [iEq, c3, if_true, if_false, not_true_eq_false, not_false_eq_true, true_and, and_true, false_and, and_false, true_or, or_true, false_or, or_false, decide_true, decide_false, Bool.false_eq_true, reduceCtorEq, Option.bind_some, Option.map_some, Option.map_none, Option.bind_none, jn_l, jn_r, jn_n, se_l, se_r]
            · unfold stemT
              rw [if_pos ⟨c0, by omega, c2, c3⟩]
              refine ⟨?_, fun i hi => ?_⟩
              · simp only [pI, pL, pB, up2_s, up2_ne, List.length_take]
                rw [Nat.min_eq_left (by omega)]
              · rw [List.length_take] at hi
                rw [getD_take (by omega)]
                simp (disch := omega) only [pI, pL, pB, up2_s, up2_ne]
                exact t12 i (by omega)
        · refine ⟨R1, ?_, k1, ?_⟩
          · simp (disch := omega) only [c0, c1, nl, nI_add, nI_mul, iSub, iEq, iLe, iLt, iEqN, iNEq, iNN, iLtN, iNLt, iLeN, iNLe, iAddN, iNAdd, iMin, iMax, iDiv, iRem, if_true, if_false, not_true_eq_false, not_false_eq_true, true_and, and_true, false_and, and_false, true_or, or_true, false_or, or_false, decide_true, decide_false, Bool.false_eq_true, reduceCtorEq, Option.bind_some, Option.map_some, Option.map_none, Option.bind_none, jn_l, jn_r, jn_n, se_l, se_r]
            simp (disch := first | assumption | omega | (simp only [gT_sI, gT_sL, gT_sR, gT_sB]; first | assumption | omega)) only [Option.bind_some, ldI_ok, ldL_ok, ldR_ok, ldB_ok, stI_ok, stL_ok, stR_ok, stB_ok, chk_ok, raI_k, raL_k, raR_k, raB_k, waI_k, waL_k, waB_k, waR_k, alen_k, gT_sI, gT_sL, gT_sR, gT_sB, gN_sI, gN_sL, gN_sR, gN_sB, gI_sL, gI_sR, gI_sB, gL_sI, gL_sR, gL_sB, gR_sI, gR_sL, gR_sB, gB_sI, gB_sL, gB_sR, gI_sIs, gL_sLs, gR_sRs, gB_sBs, gI_sIn, gL_sLn, gR_sRn, gB_sBn, rdI_ok, rdL_ok, rdB_ok, wrI_ok, wrL_ok, wrB_ok, a1]
            simp (disch := omega) only [iEq, c2, if_true, if_false, not_true_eq_false, not_false_eq_true, true_and, and_true, false_and, and_false, true_or, or_true, false_or, or_false, decide_true, decide_false, Bool.false_eq_true, reduceCtorEq, Option.bind_some, Option.map_some, Option.map_none, Option.bind_none, jn_l, jn_r, jn_n, se_l, se_r]
          · unfold stemT
            rw [if_neg (fun z => c2 z.2.2.1)]
            exact ⟨t11, t12⟩
    · refine ⟨R1, by rw [if_neg c0], k1, ?_⟩
      unfold stemT
      rw [if_neg (fun z => c0 z.1)]
      exact ⟨t11, t12⟩
  have hS := stem_term (st := st) hT
  have hsp2 : R2.2.2 0 1 = sp := by rw [k2.B (by decide) (by unfold wTm; omega)]; exact hsp
  unfold M_makeTerm
  rw [e1]
  simp only [Option.bind_some] at e2 ⊢
  rw [e2]
  simp only [Option.bind_some, hsp2]
  unfold mkT
  by_cases c : sp = true
  · rw [if_pos c]
    have i1 : ∀ a, a < 256 → M_isTerm R2 (nI a) 0 0 = some (decide (stemT st (small tp p k) = [a])) := fun a ha => M_isTerm1 t2 hS ha
    have i2 : ∀ a b, a < 256 → b < 256 → 0 < b → M_isTerm R2 (nI a) (nI b) 0 = some (decide (stemT st (small tp p k) = [a, b])) := fun a b ha hb hb0 => M_isTerm2 t2 hS ha hb hb0
    have i3 : ∀ a b d, a < 256 → b < 256 → d < 256 → 0 < d → M_isTerm R2 (nI a) (nI b) (nI d) = some (decide (stemT st (small tp p k) = [a, b, d])) := fun a b d ha hb hd hd0 => M_isTerm3 t2 hS ha hb hd hd0
    rw [show (97 : Int32) = nI 97 from rfl, show (110 : Int32) = nI 110 from rfl, show (100 : Int32) = nI 100 from rfl, show (105 : Int32) = nI 105 from rfl, show (115 : Int32) = nI 115 from rfl, show (116 : Int32) = nI 116 from rfl, show (111 : Int32) = nI 111 from rfl, show (102 : Int32) = nI 102 from rfl, show (114 : Int32) = nI 114 from rfl, show (104 : Int32) = nI 104 from rfl, show (101 : Int32) = nI 101 from rfl]
    rw [i1 97 (by omega), i2 97 110 (by omega) (by omega) (by omega), i3 97 110 100 (by omega) (by omega) (by omega) (by omega), i2 105 110 (by omega) (by omega) (by omega), i2 105 115 (by omega) (by omega) (by omega), i2 105 116 (by omega) (by omega) (by omega), i2 111 102 (by omega) (by omega) (by omega), i2 111 110 (by omega) (by omega) (by omega), i2 111 114 (by omega) (by omega) (by omega), i3 116 104 101 (by omega) (by omega) (by omega) (by omega), i2 116 111 (by omega) (by omega) (by omega)]
    simp only [Option.bind_some, decide_eq_true_eq]
    generalize stemT st (small tp p k) = t at *
    have n10 : ¬ (1 : Int32) = 0 := by decide
    by_cases hm : t ∈ stopL
    · refine ⟨pI R2 38 0, ?_, Rp.tr k2 (Rp.pI (W := wTm) (by unfold wTm; omega)) (fun _ _ _ z => z), ?_⟩
      · simp only [stopL, List.mem_cons, List.not_mem_nil, or_false] at hm
        rcases hm with h | h | h | h | h | h | h | h | h | h | h <;> subst h <;> simp [n10]
      · rw [if_pos ⟨c, hm⟩]
        exact ⟨by simp only [pI, pL, pB, up2_s, up2_ne]; rfl, fun i hi => absurd hi (by simp)⟩
    · refine ⟨R2, ?_, k2, ?_⟩
      · simp only [stopL, List.mem_cons, List.not_mem_nil, or_false, not_or] at hm
        simp only [hm, if_true, if_false, not_true_eq_false, not_false_eq_true, true_and, and_true, false_and, and_false, true_or, or_true, false_or, or_false, decide_true, decide_false, Bool.false_eq_true, reduceCtorEq, Option.bind_some, Option.map_some, Option.map_none, Option.bind_none, jn_l, jn_r, jn_n, se_l, se_r]
      · rw [if_neg (fun z => hm z.2)]
        exact t2
  · rw [if_neg c, if_neg (fun z => c z.1)]
    exact ⟨R2, rfl, k2, t2⟩
