/-! THE REFERENCE'S CALLS: segment -/
/-- a loop that looks for one -/
theorem lp_find {f : Int32 → Option (Int32 ⊕ (Unit ⊕ Unit))} (P : Nat → Prop) (n : Nat) (hs : ∀ i, i < n → f (nI i) = some (if bP (P i) = true then .inr (.inl ()) else .inl (nI (i + 1)))) (he : f (nI n) = some (.inr (.inr ()))) : lp f (nI 0) = some (if bP (∃ i, i < n ∧ P i) = true then .inl () else .inr ()) := by
  refine lp_run (p := fun j => !bP (P j)) n 0 (fun j h1 h2 h3 => ?_) ?_
  · have h3 : bP (P j) = false := by simpa using h3
    rw [hs j (by omega), h3]
    rfl
  · have hr := run_ge (fun j => !bP (P j)) n 0
    have ho := run_out (fun j => !bP (P j)) n 0
    have hi := run_in (fun j => !bP (P j)) n 0
    generalize run (fun j => !bP (P j)) n 0 = r at *
    by_cases c : r < n
    · have ho : bP (P r) = true := by simpa using ho (by omega)
      rw [hs r c, ho, bP_t.mpr ⟨r, c, bP_t.mp ho⟩]
      rfl
    · have e : r = n := by omega
      have : bP (∃ i, i < n ∧ P i) = false := Bool.eq_false_iff.mpr (fun q => by
        obtain ⟨i, h1, h2⟩ := bP_t.mp q
        have := hi i (by omega) (by omega)
        rw [bP_t.mpr h2] at this
        cases this)
      rw [e, he, this]
      rfl
theorem M_isFirst_ok {R : RS} {D : List DocT} {dl : Nat → Bool} {G : List SegT} (hD : rDocs R D dl) (hG : rSegs R G) (hDL : D.length ≤ 400) (hT : okTx D) {s f k j : Nat} (hs : s < G.length) (hs4 : G.length < 400) (hd : ∀ d, d ∈ (gA G s).2 → d < D.length) (hl : (gA G s).2.length ≤ 400) (hf : f < 2) (hk : k < (gA G s).2.length) (hj : j < tkN D f ((gA G s).2.getD k 0)) (hn : tmA D f ((gA G s).2.getD k 0) j ≠ []) : M_isFirst R (nI s) (nI f) (nI k) (nI j) = some (bP (fstT D (gA G s).2 f k j)) := by
  obtain ⟨-, -, gd⟩ := hG.2 s hs
  have hdk := hd _ (getD_mem (d := 0) hk)
  obtain ⟨htl, -⟩ := hT _ f hdk hf
  have htl : tkN D f ((gA G s).2.getD k 0) ≤ 50 + 150 * f := htl
  unfold M_isFirst M_base
  simp (disch := first | assumption | omega | (simp only [gT_sI, gT_sL, gT_sR, gT_sB]; first | assumption | omega)) only [Option.bind_some, ldI_ok, ldL_ok, ldR_ok, ldB_ok, stI_ok, stL_ok, stR_ok, stB_ok, chk_ok, raI_k, raL_k, raR_k, raB_k, waI_k, waL_k, waB_k, waR_k, alen_k, gT_sI, gT_sL, gT_sR, gT_sB, gN_sI, gN_sL, gN_sR, gN_sB, gI_sL, gI_sR, gI_sB, gL_sI, gL_sR, gL_sB, gR_sI, gR_sL, gR_sB, gB_sI, gB_sL, gB_sR, gI_sIs, gL_sLs, gR_sRs, gB_sBs, gI_sIn, gL_sLn, gR_sRn, gB_sBn, rdI_ok, rdL_ok, rdB_ok, wrI_ok, wrL_ok, wrB_ok, nl, nI_add, nI_mul, iSub, iEq, iLe, iLt, iEqN, iNEq, iNN, iLtN, iNLt, iLeN, iNLe, iAddN, iNAdd, iMin, iMax, iDiv, iRem, gd k hk]
  have hA := fun d hdd => M_hasTerm_ok hD hDL hT (d := d) (f := f) (d' := (gA G s).2.getD k 0) (k' := j) hdd hf hdk hj
  generalize hds : (gA G s).2 = ds at *
  have hlp : lp (fun q : Int32 => M_isFirst_l24 R (nI s) (nI f) (nI k) (nI j) (nI (250 * ds.getD k 0 + 50 * f + j)) q) (nI 0) = some (if bP (∃ i, i < k ∧ hasB D f (ds.getD i 0) (tmA D f (ds.getD k 0) j)) = true then .inl () else .inr ()) := by
    refine lp_find (fun i => hasB D f (ds.getD i 0) (tmA D f (ds.getD k 0) j)) k (fun i hi => ?_) ?_
    · unfold M_isFirst_l24
      simp (disch := first | assumption | omega | (simp only [gT_sI, gT_sL, gT_sR, gT_sB]; first | assumption | omega)) only [Option.bind_some, ldI_ok, ldL_ok, ldR_ok, ldB_ok, stI_ok, stL_ok, stR_ok, stB_ok, chk_ok, raI_k, raL_k, raR_k, raB_k, waI_k, waL_k, waB_k, waR_k, alen_k, gT_sI, gT_sL, gT_sR, gT_sB, gN_sI, gN_sL, gN_sR, gN_sB, gI_sL, gI_sR, gI_sB, gL_sI, gL_sR, gL_sB, gR_sI, gR_sL, gR_sB, gB_sI, gB_sL, gB_sR, gI_sIs, gL_sLs, gR_sRs, gB_sBs, gI_sIn, gL_sLn, gR_sRn, gB_sBn, rdI_ok, rdL_ok, rdB_ok, wrI_ok, wrL_ok, wrB_ok, nl, nI_add, nI_mul, iSub, iEq, iLe, iLt, iEqN, iNEq, iNN, iLtN, iNLt, iLeN, iNLe, iAddN, iNAdd, iMin, iMax, iDiv, iRem, gd i (by omega)]
      rw [if_neg (by omega), hA _ (hd _ (getD_mem (by omega)))]
      simp only [Option.bind_some]
      split <;> rfl
    · unfold M_isFirst_l24
      simp (disch := omega) only [nl, nI_add, nI_mul, iSub, iEq, iLe, iLt, iEqN, iNEq, iNN, iLtN, iNLt, iLeN, iNLe, iAddN, iNAdd, iMin, iMax, iDiv, iRem]
      rw [if_pos (Nat.le_refl _)]
  have hlp2 : lp (fun q : Int32 => M_isFirst_l78 R (nI f) (nI j) (nI (250 * ds.getD k 0 + 50 * f + j)) (nI (ds.getD k 0)) q) (nI 0) = some (if bP (∃ i, i < j ∧ tmA D f (ds.getD k 0) i = tmA D f (ds.getD k 0) j) = true then .inl () else .inr ()) := by
    refine lp_find (fun i => tmA D f (ds.getD k 0) i = tmA D f (ds.getD k 0) j) j (fun i hi => ?_) ?_
    · unfold M_isFirst_l78 M_base
      simp (disch := omega) only [nl, nI_add, nI_mul, iSub, iEq, iLe, iLt, iEqN, iNEq, iNN, iLtN, iNLt, iLeN, iNLe, iAddN, iNAdd, iMin, iMax, iDiv, iRem]
      simp only [Option.bind_some, nI_mul, nI_add]
      rw [if_neg (by omega), M_areAlike_ok hD hDL hT hdk hf (show i < tkN D f (ds.getD k 0) by omega) hdk hj, bP_of]
      simp only [Option.bind_some]
      split <;> rfl
    · unfold M_isFirst_l78
      simp (disch := omega) only [nl, nI_add, nI_mul, iSub, iEq, iLe, iLt, iEqN, iNEq, iNN, iLtN, iNLt, iLeN, iNLe, iAddN, iNAdd, iMin, iMax, iDiv, iRem]
      rw [if_pos (Nat.le_refl _)]
  rw [hlp]
  by_cases c1 : ∃ i, i < k ∧ hasB D f (ds.getD i 0) (tmA D f (ds.getD k 0) j)
  · rw [bP_t.mpr c1]
    have : bP (fstT D ds f k j) = false := Bool.eq_false_iff.mpr (fun q => by
      obtain ⟨i, h1, h2⟩ := c1
      exact (bP_t.mp q).2.1 i h1 h2)
    rw [this]
    rfl
  · rw [Bool.eq_false_iff.mpr (fun q => c1 (bP_t.mp q))]
    simp only [Bool.false_eq_true, if_false, Option.bind_some, se_r]
    rw [hlp2]
    by_cases c2 : ∃ i, i < j ∧ tmA D f (ds.getD k 0) i = tmA D f (ds.getD k 0) j
    · rw [bP_t.mpr c2]
      have : bP (fstT D ds f k j) = false := Bool.eq_false_iff.mpr (fun q => by
        obtain ⟨i, h1, h2⟩ := c2
        exact (bP_t.mp q).2.2 i h1 h2)
      rw [this]
      rfl
    · rw [Bool.eq_false_iff.mpr (fun q => c2 (bP_t.mp q))]
      have : bP (fstT D ds f k j) = true := bP_t.mpr ⟨hn, fun i hi q => c1 ⟨i, hi, q⟩, fun i hi q => c2 ⟨i, hi, q⟩⟩
      rw [this]
      rfl
theorem M_differentTerms_ok {R : RS} {D : List DocT} {dl : Nat → Bool} {G : List SegT} (hD : rDocs R D dl) (hG : rSegs R G) (hDL : D.length ≤ 400) (hT : okTx D) {s f : Nat} (hs : s < G.length) (hs4 : G.length < 400) (hd : ∀ d, d ∈ (gA G s).2 → d < D.length) (hl : (gA G s).2.length ≤ 400) (hf : f < 2) : M_differentTerms R (nI s) (nI f) = some (nI (nDf D (gA G s).2 f)) := by
  obtain ⟨-, gm, gd⟩ := hG.2 s hs
  unfold M_differentTerms
  have hlp : lp (fun q : Int32 × Int32 => M_differentTerms_l5 R (nI s) (nI f) q.1 q.2) (nI 0, nI 0) = some (nI (nDf D (gA G s).2 f)) := by
    refine lp_sum (c := fun k => cN (fun j => bP (fstT D (gA G s).2 f k j)) (tkN D f ((gA G s).2.getD k 0))) (gA G s).2.length 0 (fun k hk => ?_) ?_
    · rw [Nat.zero_add]
      have hdk := hd _ (getD_mem (d := 0) hk)
      obtain ⟨htl, hok⟩ := hT _ f hdk hf
      have u0 : R.1 6 (2 * (gA G s).2.getD k 0 + f) = nI (tkN D f ((gA G s).2.getD k 0)) := (hD.2.2.2 _ f hdk hf).1
      have u1 := (hD.2.2.2 _ f hdk hf).2
      have htl : tkN D f ((gA G s).2.getD k 0) ≤ 50 + 150 * f := htl
      have hF := fun j hj hn => M_isFirst_ok hD hG hDL hT hs hs4 hd hl hf (k := k) (j := j) hk hj hn
      unfold M_differentTerms_l5
      simp (disch := first | assumption | omega | (simp only [gT_sI, gT_sL, gT_sR, gT_sB]; first | assumption | omega)) only [Option.bind_some, ldI_ok, ldL_ok, ldR_ok, ldB_ok, stI_ok, stL_ok, stR_ok, stB_ok, chk_ok, raI_k, raL_k, raR_k, raB_k, waI_k, waL_k, waB_k, waR_k, alen_k, gT_sI, gT_sL, gT_sR, gT_sB, gN_sI, gN_sL, gN_sR, gN_sB, gI_sL, gI_sR, gI_sB, gL_sI, gL_sR, gL_sB, gR_sI, gR_sL, gR_sB, gB_sI, gB_sL, gB_sR, gI_sIs, gL_sLs, gR_sRs, gB_sBs, gI_sIn, gL_sLn, gR_sRn, gB_sBn, rdI_ok, rdL_ok, rdB_ok, wrI_ok, wrL_ok, wrB_ok, gm, gd k hk]
      simp (disch := first | assumption | omega | (simp only [gT_sI, gT_sL, gT_sR, gT_sB]; first | assumption | omega)) only [nl, nI_add, nI_mul, iSub, iEq, iLe, iLt, iEqN, iNEq, iNN, iLtN, iNLt, iLeN, iNLe, iAddN, iNAdd, iMin, iMax, iDiv, iRem, Option.bind_some, ldI_ok, ldL_ok, ldR_ok, ldB_ok, stI_ok, stL_ok, stR_ok, stB_ok, chk_ok, raI_k, raL_k, raR_k, raB_k, waI_k, waL_k, waB_k, waR_k, alen_k, gT_sI, gT_sL, gT_sR, gT_sB, gN_sI, gN_sL, gN_sR, gN_sB, gI_sL, gI_sR, gI_sB, gL_sI, gL_sR, gL_sB, gR_sI, gR_sL, gR_sB, gB_sI, gB_sL, gB_sR, gI_sIs, gL_sLs, gR_sRs, gB_sBs, gI_sIn, gL_sLn, gR_sRn, gB_sBn, rdI_ok, rdL_ok, rdB_ok, wrI_ok, wrL_ok, wrB_ok, gd k hk]
      rw [if_neg (by omega)]
      generalize sN (fun k => cN (fun j => bP (fstT D (gA G s).2 f k j)) (tkN D f ((gA G s).2.getD k 0))) k = base
      generalize hds : (gA G s).2 = ds at *
      have hlp2 : lp (fun q : Int32 × Int32 => M_differentTerms_l34 R (nI s) (nI f) q.1 (nI k) (nI (ds.getD k 0)) q.2) (nI base, nI 0) = some (nI (base + cN (fun j => bP (fstT D ds f k j)) (tkN D f (ds.getD k 0)))) := by
        refine lp_seq (fun j => (nI (base + cN (fun j => bP (fstT D ds f k j)) j), nI j)) (m := tkN D f (ds.getD k 0)) (fun j hj => ?_) ?_
        · obtain ⟨-, -, u3, -⟩ := u1 j hj
          have hl3 : (tA (dTok (dA D (ds.getD k 0)) f) j).2.2 = tmA D f (ds.getD k 0) j := rfl
          rw [hl3] at u3
          have hl12 := (hok _ (getD_mem (d := (0, 0, [])) hj)).2.2.1
          have hl12 : (tmA D f (ds.getD k 0) j).length ≤ 12 := hl12
          unfold M_differentTerms_l34 M_base
          simp (disch := first | assumption | omega | (simp only [gT_sI, gT_sL, gT_sR, gT_sB]; first | assumption | omega)) only [Option.bind_some, ldI_ok, ldL_ok, ldR_ok, ldB_ok, stI_ok, stL_ok, stR_ok, stB_ok, chk_ok, raI_k, raL_k, raR_k, raB_k, waI_k, waL_k, waB_k, waR_k, alen_k, gT_sI, gT_sL, gT_sR, gT_sB, gN_sI, gN_sL, gN_sR, gN_sB, gI_sL, gI_sR, gI_sB, gL_sI, gL_sR, gL_sB, gR_sI, gR_sL, gR_sB, gB_sI, gB_sL, gB_sR, gI_sIs, gL_sLs, gR_sRs, gB_sBs, gI_sIn, gL_sLn, gR_sRn, gB_sBn, rdI_ok, rdL_ok, rdB_ok, wrI_ok, wrL_ok, wrB_ok, nl, nI_add, nI_mul, iSub, iEq, iLe, iLt, iEqN, iNEq, iNN, iLtN, iNLt, iLeN, iNLe, iAddN, iNAdd, iMin, iMax, iDiv, iRem, u0, u3]
          rw [if_neg (by omega), cN_s]
          by_cases c : tmA D f (ds.getD k 0) j = []
          · have : bP (fstT D ds f k j) = false := Bool.eq_false_iff.mpr (fun q => (bP_t.mp q).1 c)
            rw [if_pos (by rw [c]; exact Nat.le_refl _), this]
            simp [nl, nI_add]
          · have := List.length_pos_iff.mpr c
            rw [if_neg (by omega), hF j hj c]
            cases bP (fstT D ds f k j) <;> simp only [if_true, if_false, not_true_eq_false, not_false_eq_true, true_and, and_true, false_and, and_false, true_or, or_true, false_or, or_false, decide_true, decide_false, Bool.false_eq_true, reduceCtorEq, Option.bind_some, Option.map_some, Option.map_none, Option.bind_none, jn_l, jn_r, jn_n, se_l, se_r, nl, nI_add, Nat.add_assoc, Nat.add_zero]
        · unfold M_differentTerms_l34
          simp (disch := first | assumption | omega | (simp only [gT_sI, gT_sL, gT_sR, gT_sB]; first | assumption | omega)) only [Option.bind_some, ldI_ok, ldL_ok, ldR_ok, ldB_ok, stI_ok, stL_ok, stR_ok, stB_ok, chk_ok, raI_k, raL_k, raR_k, raB_k, waI_k, waL_k, waB_k, waR_k, alen_k, gT_sI, gT_sL, gT_sR, gT_sB, gN_sI, gN_sL, gN_sR, gN_sB, gI_sL, gI_sR, gI_sB, gL_sI, gL_sR, gL_sB, gR_sI, gR_sL, gR_sB, gB_sI, gB_sL, gB_sR, gI_sIs, gL_sLs, gR_sRs, gB_sBs, gI_sIn, gL_sLn, gR_sRn, gB_sBn, rdI_ok, rdL_ok, rdB_ok, wrI_ok, wrL_ok, wrB_ok, nl, nI_add, nI_mul, iSub, iEq, iLe, iLt, iEqN, iNEq, iNN, iLtN, iNLt, iLeN, iNLe, iAddN, iNAdd, iMin, iMax, iDiv, iRem, u0]
          rw [if_pos (Nat.le_refl _)]
      rw [hlp2]
      simp only [Option.bind_some, nl, nI_add]
    · rw [Nat.zero_add]
      unfold M_differentTerms_l5
      simp (disch := first | assumption | omega | (simp only [gT_sI, gT_sL, gT_sR, gT_sB]; first | assumption | omega)) only [Option.bind_some, ldI_ok, ldL_ok, ldR_ok, ldB_ok, stI_ok, stL_ok, stR_ok, stB_ok, chk_ok, raI_k, raL_k, raR_k, raB_k, waI_k, waL_k, waB_k, waR_k, alen_k, gT_sI, gT_sL, gT_sR, gT_sB, gN_sI, gN_sL, gN_sR, gN_sB, gI_sL, gI_sR, gI_sB, gL_sI, gL_sR, gL_sB, gR_sI, gR_sL, gR_sB, gB_sI, gB_sL, gB_sR, gI_sIs, gL_sLs, gR_sRs, gB_sBs, gI_sIn, gL_sLn, gR_sRn, gB_sBn, rdI_ok, rdL_ok, rdB_ok, wrI_ok, wrL_ok, wrB_ok, nl, nI_add, nI_mul, iSub, iEq, iLe, iLt, iEqN, iNEq, iNN, iLtN, iNLt, iLeN, iNLe, iAddN, iNAdd, iMin, iMax, iDiv, iRem, gm]
      rw [if_pos (Nat.le_refl _)]
      rfl
  rw [show (0 : Int32) = nI 0 from rfl, hlp]
  rfl
theorem M_segment_ok {R : RS} {tp : Nat → Nat} {n : Nat} {D : List DocT} {dl : Nat → Bool} {bs : Nat} {G : List SegT} {V : Nat → VwT} {A : AnT} {nr : Option (List Nat)} {mg : Nat} {st sp : Bool} (h : rH R tp n D dl bs G V A nr mg st sp) (hDL : D.length ≤ 400) (hT : okTx D) (hds : ∀ s, s ∈ G → ∀ d, d ∈ s.2 → d < D.length) (htl : tot G ≤ 400) (hs4 : G.length < 400) (x w : Int32) : M_segment R x w = some (segS D dl G x w) := by
  obtain ⟨-, hD, -, hG, -⟩ := h
  have g0 := hG.1
  unfold M_segment segS
  rw [M_in_ok]
  by_cases w0 : w < 0
  · rw [if_pos w0]
    have : ¬ (0 ≤ w) := Int32.not_le.mpr w0
    simp only [this, if_true, if_false, not_true_eq_false, not_false_eq_true, true_and, and_true, false_and, and_false, true_or, or_true, false_or, or_false, decide_true, decide_false, Bool.false_eq_true, reduceCtorEq, Option.bind_some, Option.map_some, Option.map_none, Option.bind_none, jn_l, jn_r, jn_n, se_l, se_r]
  have w0' : 0 ≤ w := Int32.not_lt.mp w0
  rw [if_neg w0]
  by_cases w4 : w ≤ 4
  · rw [if_pos w4]
    simp only [w0', w4, if_true, if_false, not_true_eq_false, not_false_eq_true, true_and, and_true, false_and, and_false, true_or, or_true, false_or, or_false, decide_true, decide_false, Bool.false_eq_true, reduceCtorEq, Option.bind_some, Option.map_some, Option.map_none, Option.bind_none, jn_l, jn_r, jn_n, se_l, se_r]
    rw [M_in_ok, g0]
    have e : (decide (0 ≤ x ∧ x ≤ nI G.length - 1)) = decide (0 ≤ x ∧ x < nI G.length) := by
      rw [decide_eq_decide]
      rcases i32_cases x with z | ⟨j, hj, rfl⟩
      · have : ¬ (0 ≤ x) := Int32.not_le.mpr z
        simp only [this, false_and]
      · by_cases h0 : G.length = 0
        · rw [h0, show nI 0 - 1 = -nI 1 from by decide, iLeN hj (by omega), iLt hj (by omega)]
          simp only [and_false, false_iff, Nat.not_lt_zero, not_false_eq_true]
        · have e1 : (0 ≤ nI j) = True := eq_true (nI_pos' (by omega))
          rw [show (1 : Int32) = nI 1 from rfl, iSub (show 1 ≤ G.length by omega), iLe hj (by omega), iLt hj (by omega), e1, true_and, true_and]
          omega
    rw [e]
    by_cases c : 0 ≤ x ∧ x < nI G.length
    · rw [decide_eq_true c, if_pos c]
      obtain ⟨c0, c1⟩ := c
      rcases i32_cases x with z | ⟨s, hs, rfl⟩
      · exact absurd z (Int32.not_lt.mpr c0)
      rw [iLt hs (by omega)] at c1
      obtain ⟨g1, g2, g3⟩ := hG.2 s c1
      have hd := hds _ (gA_mem c1)
      have hl : (gA G s).2.length ≤ 400 := by
        have := sm_mem (fun s => s.2.length) G _ (gA_mem c1)
        unfold tot at htl
        have this : (gA G s).2.length ≤ sm (fun s => s.2.length) G := this
        omega
      have n0 := M_differentTerms_ok hD hG hDL hT c1 hs4 hd hl (f := 0) (by omega)
      have n1 := M_differentTerms_ok hD hG hDL hT c1 hs4 hd hl (f := 1) (by omega)
      simp only [Option.bind_some, if_true, nI_clamp (show s < 2147483648 by omega)]
      by_cases w1 : w = 0
      · rw [if_neg (by simp [w1]), if_pos w1]
        simp (disch := first | assumption | omega | (simp only [gT_sI, gT_sL, gT_sR, gT_sB]; first | assumption | omega)) only [Option.bind_some, ldI_ok, ldL_ok, ldR_ok, ldB_ok, stI_ok, stL_ok, stR_ok, stB_ok, chk_ok, raI_k, raL_k, raR_k, raB_k, waI_k, waL_k, waB_k, waR_k, alen_k, gT_sI, gT_sL, gT_sR, gT_sB, gN_sI, gN_sL, gN_sR, gN_sB, gI_sL, gI_sR, gI_sB, gL_sI, gL_sR, gL_sB, gR_sI, gR_sL, gR_sB, gB_sI, gB_sL, gB_sR, gI_sIs, gL_sLs, gR_sRs, gB_sBs, gI_sIn, gL_sLn, gR_sRn, gB_sBn, rdI_ok, rdL_ok, rdB_ok, wrI_ok, wrL_ok, wrB_ok, g1]
      rw [if_pos w1, if_neg w1]
      by_cases w1 : w = 1
      · rw [if_neg (by simp [w1]), if_pos w1]
        simp (disch := first | assumption | omega | (simp only [gT_sI, gT_sL, gT_sR, gT_sB]; first | assumption | omega)) only [Option.bind_some, ldI_ok, ldL_ok, ldR_ok, ldB_ok, stI_ok, stL_ok, stR_ok, stB_ok, chk_ok, raI_k, raL_k, raR_k, raB_k, waI_k, waL_k, waB_k, waR_k, alen_k, gT_sI, gT_sL, gT_sR, gT_sB, gN_sI, gN_sL, gN_sR, gN_sB, gI_sL, gI_sR, gI_sB, gL_sI, gL_sR, gL_sB, gR_sI, gR_sL, gR_sB, gB_sI, gB_sL, gB_sR, gI_sIs, gL_sLs, gR_sRs, gB_sBs, gI_sIn, gL_sLn, gR_sRn, gB_sBn, rdI_ok, rdL_ok, rdB_ok, wrI_ok, wrL_ok, wrB_ok, g2]
      rw [if_pos w1, if_neg w1]
      by_cases w1 : w = 2
      · rw [if_pos (by rw [w1]; decide), if_pos w1]
        have hlp : lp (fun q : Int32 × Int32 => M_segment_l70 R (nI s) q.1 q.2) (nI 0, nI 0) = some (nI (cN (fun k => dl ((gA G s).2.getD k 0)) (gA G s).2.length)) := by
          refine lp_sum (c := fun k => if dl ((gA G s).2.getD k 0) = true then 1 else 0) (gA G s).2.length 0 (fun k hk => ?_) ?_
          · rw [Nat.zero_add]
            have dk := hd _ (getD_mem (d := 0) hk)
            have dd := (hD.2.1 _ dk).2.2.2
            unfold M_segment_l70
            simp (disch := first | assumption | omega | (simp only [gT_sI, gT_sL, gT_sR, gT_sB]; first | assumption | omega)) only [Option.bind_some, ldI_ok, ldL_ok, ldR_ok, ldB_ok, stI_ok, stL_ok, stR_ok, stB_ok, chk_ok, raI_k, raL_k, raR_k, raB_k, waI_k, waL_k, waB_k, waR_k, alen_k, gT_sI, gT_sL, gT_sR, gT_sB, gN_sI, gN_sL, gN_sR, gN_sB, gI_sL, gI_sR, gI_sB, gL_sI, gL_sR, gL_sB, gR_sI, gR_sL, gR_sB, gB_sI, gB_sL, gB_sR, gI_sIs, gL_sLs, gR_sRs, gB_sBs, gI_sIn, gL_sLn, gR_sRn, gB_sBn, rdI_ok, rdL_ok, rdB_ok, wrI_ok, wrL_ok, wrB_ok, nl, nI_add, nI_mul, iSub, iEq, iLe, iLt, iEqN, iNEq, iNN, iLtN, iNLt, iLeN, iNLe, iAddN, iNAdd, iMin, iMax, iDiv, iRem, g2, g3 k hk, dd]
            rw [if_neg (by omega)]
            cases dl ((gA G s).2.getD k 0) <;> simp only [if_true, if_false, not_true_eq_false, not_false_eq_true, true_and, and_true, false_and, and_false, true_or, or_true, false_or, or_false, decide_true, decide_false, Bool.false_eq_true, reduceCtorEq, Option.bind_some, Option.map_some, Option.map_none, Option.bind_none, jn_l, jn_r, jn_n, se_l, se_r, nl, nI_add, Nat.add_zero]
          · rw [Nat.zero_add]
            unfold M_segment_l70
            simp (disch := first | assumption | omega | (simp only [gT_sI, gT_sL, gT_sR, gT_sB]; first | assumption | omega)) only [Option.bind_some, ldI_ok, ldL_ok, ldR_ok, ldB_ok, stI_ok, stL_ok, stR_ok, stB_ok, chk_ok, raI_k, raL_k, raR_k, raB_k, waI_k, waL_k, waB_k, waR_k, alen_k, gT_sI, gT_sL, gT_sR, gT_sB, gN_sI, gN_sL, gN_sR, gN_sB, gI_sL, gI_sR, gI_sB, gL_sI, gL_sR, gL_sB, gR_sI, gR_sL, gR_sB, gB_sI, gB_sL, gB_sR, gI_sIs, gL_sLs, gR_sRs, gB_sBs, gI_sIn, gL_sLn, gR_sRn, gB_sBn, rdI_ok, rdL_ok, rdB_ok, wrI_ok, wrL_ok, wrB_ok, nl, nI_add, nI_mul, iSub, iEq, iLe, iLt, iEqN, iNEq, iNN, iLtN, iNLt, iLeN, iNLe, iAddN, iNAdd, iMin, iMax, iDiv, iRem, g2]
            rw [if_pos (Nat.le_refl _)]
            rfl
        rw [show (0 : Int32) = nI 0 from rfl, hlp]
        rfl
      rw [if_neg w1]
      have hw : w = 3 ∨ w = 4 := by
        rcases i32_cases w with z | ⟨i, hi, rfl⟩
        · exact absurd z w0
        · simp (disch := omega) only [nl, nI_add, nI_mul, iSub, iEq, iLe, iLt, iEqN, iNEq, iNN, iLtN, iNLt, iLeN, iNLe, iAddN, iNAdd, iMin, iMax, iDiv, iRem] at *
          omega
      rcases hw with rfl | rfl
      · rw [if_neg (by decide), if_pos rfl, show (3 - 3 : Int32) = nI 0 from rfl, n0]
        rfl
      · rw [if_neg (by decide), if_neg (by decide), show (4 - 3 : Int32) = nI 1 from rfl, n1]
        rfl
    · rw [decide_eq_false c, if_neg c]
      rfl
  · rw [if_neg w4]
    simp only [w4, if_true, if_false, not_true_eq_false, not_false_eq_true, true_and, and_true, false_and, and_false, true_or, or_true, false_or, or_false, decide_true, decide_false, Bool.false_eq_true, reduceCtorEq, Option.bind_some, Option.map_some, Option.map_none, Option.bind_none, jn_l, jn_r, jn_n, se_l, se_r]
