/-! THE REFERENCE'S CALLS: delete, close, and merging -/
/-- no two documents that are not deleted have one key -/
def uqK (D : List DocT) (dl : Nat → Bool) : Prop := ∀ i k, i < D.length → k < D.length → dl i = false → dl k = false → dKey (dA D i) = dKey (dA D k) → i = k
theorem fdS_at {D : List DocT} {dl : Nat → Bool} {key : Int64} (h : fdS D dl key < D.length) : dl (fdS D dl key) = false ∧ dKey (dA D (fdS D dl key)) = key := by
  have ho : (!fdP D dl key (fdS D dl key)) = false := run_out (fun i => !fdP D dl key i) D.length 0 (by unfold fdS at h; omega)
  have ho : fdP D dl key (fdS D dl key) = true := by simpa using ho
  unfold fdP at ho
  rw [Bool.and_eq_true] at ho
  exact ⟨by simpa using ho.1, of_decide_eq_true ho.2⟩
theorem fdS_not {D : List DocT} {dl : Nat → Bool} {key : Int64} {i : Nat} (h : i < fdS D dl key) : fdP D dl key i = false := by
  have := run_in (fun i => !fdP D dl key i) D.length 0 i (by omega) h
  simpa using this
theorem M_find_ok {R : RS} {D : List DocT} {dl : Nat → Bool} (hD : rDocs R D dl) (hL : D.length ≤ 400) (hu : uqK D dl) (key : Int64) : M_find R key = some (if fdS D dl key < D.length then nI (fdS D dl key) else -1) := by
  have hle := fdS_le D dl key
  unfold M_find
  have hlp : lp (fun q : Int32 × Int32 => M_find_l5 R key q.1 q.2) (-1, nI 0) = some (if fdS D dl key < D.length then nI (fdS D dl key) else -1) := by
    have := lp_seq (f := fun q : Int32 × Int32 => M_find_l5 R key q.1 q.2) (fun i => ((if fdS D dl key < i then nI (fdS D dl key) else -1), nI i)) (m := D.length) (b := if fdS D dl key < D.length then nI (fdS D dl key) else -1) (fun i hi => ?_) ?_
    · rw [if_neg (by omega)] at this
      exact this
    · obtain ⟨d1, d2, d3, d4⟩ := hD.2.1 i hi
      unfold M_find_l5
      rw [hD.1]
      simp (disch := first | assumption | omega | (simp only [gT_sI, gT_sL, gT_sR, gT_sB]; first | assumption | omega)) only [Option.bind_some, ldI_ok, ldL_ok, ldR_ok, ldB_ok, stI_ok, stL_ok, stR_ok, stB_ok, chk_ok, raI_k, raL_k, raR_k, raB_k, waI_k, waL_k, waB_k, waR_k, alen_k, gT_sI, gT_sL, gT_sR, gT_sB, gN_sI, gN_sL, gN_sR, gN_sB, gI_sL, gI_sR, gI_sB, gL_sI, gL_sR, gL_sB, gR_sI, gR_sL, gR_sB, gB_sI, gB_sL, gB_sR, gI_sIs, gL_sLs, gR_sRs, gB_sBs, gI_sIn, gL_sLn, gR_sRn, gB_sBn, rdI_ok, rdL_ok, rdB_ok, wrI_ok, wrL_ok, wrB_ok, nl, nI_add, nI_mul, iSub, iEq, iLe, iLt, iEqN, iNEq, iNN, iLtN, iNLt, iLeN, iNLe, iAddN, iNAdd, iMin, iMax, iDiv, iRem, d1, d4]
      rw [if_neg (by omega)]
      by_cases c : fdP D dl key i = true
      · have c' := c
        unfold fdP at c'
        rw [Bool.and_eq_true] at c'
        have c1 : dl i = false := by simpa using c'.1
        have c2 : dKey (dA D i) = key := of_decide_eq_true c'.2
        have e : fdS D dl key = i := by
          apply Nat.le_antisymm
          · apply Nat.le_of_not_lt
            intro q
            rw [fdS_not q] at c
            cases c
          · apply Nat.le_of_not_lt
            intro q
            obtain ⟨a1, a2⟩ := fdS_at (D := D) (dl := dl) (key := key) (by omega)
            have := hu _ i (by omega) hi a1 c1 (by rw [a2, c2])
            omega
        rw [e]
        simp only [c1, c2, if_true, if_false, not_true_eq_false, not_false_eq_true, true_and, and_true, false_and, and_false, true_or, or_true, false_or, or_false, decide_true, decide_false, Bool.false_eq_true, reduceCtorEq, Option.bind_some, Option.map_some, Option.map_none, Option.bind_none, jn_l, jn_r, jn_n, se_l, se_r]
        rw [if_pos (by omega)]
      · have hn : ¬ (dKey (dA D i) = key ∧ dl i = false) := fun q => c (by unfold fdP; rw [q.2]; simp [q.1])
        have hne : fdS D dl key ≠ i := fun q => by
          have := fdS_at (D := D) (dl := dl) (key := key) (by omega)
          rw [q] at this
          exact hn ⟨this.2, this.1⟩
        have e1 : (if fdS D dl key < i + 1 then nI (fdS D dl key) else -1) = (if fdS D dl key < i then nI (fdS D dl key) else -1) := by
          by_cases q : fdS D dl key < i
          · rw [if_pos q, if_pos (by omega)]
          · rw [if_neg q, if_neg (by omega)]
        have e1' : (if fdS D dl key < i + 1 then nI (fdS D dl key) else -nI 1) = (if fdS D dl key < i then nI (fdS D dl key) else -nI 1) := e1
        by_cases q : dKey (dA D i) = key
        · cases hdi : dl i with
          | true => simp only [q, if_true, if_false, not_true_eq_false, not_false_eq_true, true_and, and_true, false_and, and_false, true_or, or_true, false_or, or_false, decide_true, decide_false, Bool.false_eq_true, reduceCtorEq, Option.bind_some, Option.map_some, Option.map_none, Option.bind_none, jn_l, jn_r, jn_n, se_l, se_r]; first | rw [e1] | rw [e1']
          | false => exact absurd ⟨q, hdi⟩ hn
        · simp only [q, if_true, if_false, not_true_eq_false, not_false_eq_true, true_and, and_true, false_and, and_false, true_or, or_true, false_or, or_false, decide_true, decide_false, Bool.false_eq_true, reduceCtorEq, Option.bind_some, Option.map_some, Option.map_none, Option.bind_none, jn_l, jn_r, jn_n, se_l, se_r]; first | rw [e1] | rw [e1']
    · unfold M_find_l5
      rw [hD.1]
      simp (disch := omega) only [iLe]
      rw [if_pos (by omega)]
  rw [show (0 : Int32) = nI 0 from rfl, hlp]
  rfl
theorem rH_del {R : RS} {tp : Nat → Nat} {n : Nat} {D : List DocT} {dl : Nat → Bool} {bs : Nat} {G : List SegT} {V : Nat → VwT} {A : AnT} {nr : Option (List Nat)} {mg : Nat} {st sp : Bool} (h : rH R tp n D dl bs G V A nr mg st sp) {key : Int64} (hc : fdS D dl key < D.length) : rH (R.1, R.2.1, up2 R.2.2 5 (fdS D dl key) true) tp n D (dlS D dl key) bs G V A nr mg st sp := by
  obtain ⟨h1, h2, h3, h4, h5, h6, h7, h8, h9, h10⟩ := h
  have k : Rp (fun t c _ => t = 3 ∧ c = 5) R (R.1, R.2.1, up2 R.2.2 5 (fdS D dl key) true) := Rp.wB ⟨rfl, rfl⟩
  refine ⟨h1.rp k (by omega) (fun _ => by omega), ⟨h2.1, fun i hi => ?_, fun i hi => ?_, h2.2.2.2⟩, h3.rp k (by omega) (fun _ => by omega), h4.rp k (by omega) (fun _ _ _ _ => by omega), fun i hi => (h5 i hi).rp k (fun _ _ _ _ _ => by omega), h6.rp k ⟨by omega, by omega, by omega⟩ (fun _ _ _ _ => by omega), h7.rp k (by omega) (fun _ => by omega), h8, ?_, ?_⟩
  · obtain ⟨d1, d2, d3, d4⟩ := h2.2.1 i hi
    refine ⟨d1, d2, d3, ?_⟩
    unfold dlS
    simp only
    by_cases q : i = fdS D dl key
    · rw [q, up2_s, if_pos ⟨rfl, hc⟩]
    · rw [up2_ne (by omega), if_neg (fun z => q z.1)]
      exact d4
  · simp only
    rw [up2_ne (by omega)]
    exact h2.2.2.1 i hi
  · simp only
    rw [up2_ne (by omega)]
    exact h9
  · simp only
    rw [up2_ne (by omega)]
    exact h10
theorem dlS_no {D : List DocT} {dl : Nat → Bool} {key : Int64} (h : ¬ fdS D dl key < D.length) : dlS D dl key = dl := by
  funext i
  unfold dlS
  rw [if_neg (by omega)]
theorem M_delete_ok {R : RS} {tp : Nat → Nat} {n : Nat} {D : List DocT} {dl : Nat → Bool} {bs : Nat} {G : List SegT} {V : Nat → VwT} {A : AnT} {nr : Option (List Nat)} {mg : Nat} {st sp : Bool} (h : rH R tp n D dl bs G V A nr mg st sp) (hL : D.length ≤ 400) (hu : uqK D dl) (key : Int64) : ∃ R', M_delete R key = some (decide (fdS D dl key < D.length), R') ∧ rH R' tp n D (dlS D dl key) bs G V A nr mg st sp := by
  unfold M_delete
  rw [M_find_ok h.2.1 hL hu key]
  have hm1 : ¬ (nI (fdS D dl key) = -1) ∨ ¬ fdS D dl key < D.length := by
    by_cases c : fdS D dl key < D.length
    · left
      have := iEqN (a := fdS D dl key) (b := 1) (by omega) (by omega)
      intro q
      exact absurd q (by rw [show (-1 : Int32) = -nI 1 from rfl, this]; exact not_false)
    · exact Or.inr c
  by_cases c : fdS D dl key < D.length
  · rw [if_pos c]
    simp only [Option.bind_some]
    rw [if_pos (by rcases hm1 with q | q; exact q; exact absurd c q), wrB_ok (by omega) (by omega)]
    exact ⟨_, by simp [c], rH_del h c⟩
  · rw [if_neg c, dlS_no c]
    simp only [Option.bind_some]
    rw [if_neg (by simp)]
    exact ⟨R, by simp [c], h⟩
theorem M_close_ok {R : RS} {tp : Nat → Nat} {n : Nat} {D : List DocT} {dl : Nat → Bool} {bs : Nat} {G : List SegT} {V : Nat → VwT} {A : AnT} {nr : Option (List Nat)} {mg : Nat} {st sp : Bool} (h : rH R tp n D dl bs G V A nr mg st sp) (x : Int32) : ∃ R', M_close R x = some ((closeS V x).1, R') ∧ rH R' tp n D dl bs G (closeS V x).2 A nr mg st sp := by
  have h0 := h
  obtain ⟨h1, h2, h3, h4, h5, h6, h7, h8, h9, h10⟩ := h
  unfold M_close closeS
  rw [M_isView_ok h5]
  cases hx : vAt V x with
  | none => exact ⟨R, rfl, h0⟩
  | some i =>
    obtain ⟨hi, rfl, ho⟩ := vAt_ok hx
    simp only [Option.isSome_some, if_true, if_false, not_true_eq_false, not_false_eq_true, true_and, and_true, false_and, and_false, true_or, or_true, false_or, or_false, decide_true, decide_false, Bool.false_eq_true, reduceCtorEq, Option.bind_some, Option.map_some, Option.map_none, Option.bind_none, jn_l, jn_r, jn_n, se_l, se_r]
    rw [wrB_ok (by omega) (by omega)]
    have k : Rp (fun t c j => t = 3 ∧ c = 15 ∧ j = i) R (R.1, R.2.1, up2 R.2.2 15 i false) := Rp.wB ⟨rfl, rfl, rfl⟩
    refine ⟨_, rfl, h1.rp k (by omega) (fun _ => by omega), h2.rp k (by omega) (fun _ _ _ _ _ => by omega), h3.rp k (by omega) (fun _ => by omega), h4.rp k (by omega) (fun _ _ _ _ => by omega), fun j hj => ?_, h6.rp k ⟨by omega, by omega, by omega⟩ (fun _ _ _ _ => by omega), h7.rp k (by omega) (fun _ => by omega), h8, ?_, ?_⟩
    · unfold vSet
      by_cases q : j = i
      · subst q
        rw [if_pos rfl]
        exact ⟨up2_s _ _ _ _, fun z => by cases z⟩
      · rw [if_neg q]
        refine ⟨?_, fun ho' => ?_⟩
        · simp only
          rw [up2_ne (by omega)]
          exact (h5 j hj).1
        · obtain ⟨a, b, c⟩ := (h5 j hj).2 ho'
          refine ⟨a, b, fun k' hk => ⟨(c k' hk).1, ?_⟩⟩
          simp only
          rw [up2_ne (by omega)]
          exact (c k' hk).2
    · simp only
      rw [up2_ne (by omega)]
      exact h9
    · simp only
      rw [up2_ne (by omega)]
      exact h10
/-! segments of the reference -/
def rSg (R : RS) (k : Nat) (x : SegT) : Prop := R.1 12 k = nI x.1 ∧ R.1 13 k = nI x.2.length ∧ ∀ i, i < x.2.length → R.1 14 (400 * k + i) = nI (x.2.getD i 0)
def wMv (b : Nat) : Nat → Nat → Nat → Prop := fun t c k => t = 0 ∧ ((c = 12 ∧ k = b) ∨ (c = 13 ∧ k = b) ∨ (c = 14 ∧ 400 * b ≤ k ∧ k < 400 * b + 400))
theorem rSg.rp {R R' : RS} {k : Nat} {x : SegT} {W : Nat → Nat → Nat → Prop} (h : rSg R k x) (hk : Rp W R R') (h1 : ¬ W 0 12 k) (h2 : ¬ W 0 13 k) (h3 : ∀ i, i < x.2.length → ¬ W 0 14 (400 * k + i)) : rSg R' k x :=
  ⟨by rw [hk.I (by decide) h1]; exact h.1, by rw [hk.I (by decide) h2]; exact h.2.1, fun i hi => by rw [hk.I (by decide) (h3 i hi)]; exact h.2.2 i hi⟩
theorem M_move_ok {R : RS} {a b : Nat} {x : SegT} (ha : a < 420) (hb : b < 420) (hx : x.2.length ≤ 400) (h : rSg R a x) : ∃ R', M_move R (nI a) (nI b) = some R' ∧ Rp (wMv b) R R' ∧ rSg R' b x := by
  unfold M_move
  simp (disch := omega) only [nl, nI_add, nI_mul, iSub, iEq, iLe, iLt, iEqN, iNEq, iNN, iLtN, iNLt, iLeN, iNLe, iAddN, iNAdd, iMin, iMax, iDiv, iRem]
  by_cases c : a = b
  · subst c
    rw [if_neg (by simp)]
    exact ⟨R, rfl, Rp.rf, h⟩
  · rw [if_pos c]
    obtain ⟨h1, h2, h3⟩ := h
    simp (disch := first | assumption | omega | (simp only [gT_sI, gT_sL, gT_sR, gT_sB]; first | assumption | omega)) only [Option.bind_some, ldI_ok, ldL_ok, ldR_ok, ldB_ok, stI_ok, stL_ok, stR_ok, stB_ok, chk_ok, raI_k, raL_k, raR_k, raB_k, waI_k, waL_k, waB_k, waR_k, alen_k, gT_sI, gT_sL, gT_sR, gT_sB, gN_sI, gN_sL, gN_sR, gN_sB, gI_sL, gI_sR, gI_sB, gL_sI, gL_sR, gL_sB, gR_sI, gR_sL, gR_sB, gB_sI, gB_sL, gB_sR, gI_sIs, gL_sLs, gR_sRs, gB_sBs, gI_sIn, gL_sLn, gR_sRn, gB_sBn, rdI_ok, rdL_ok, rdB_ok, wrI_ok, wrL_ok, wrB_ok, h1]
    simp (disch := omega) only [pI, pL, pB, up2_s, up2_ne]
    rw [h2]
    generalize hR1 : ((up2 (up2 R.1 12 b (nI x.1)) 13 b (nI x.2.length), R.2) : RS) = R1
    have k1 : Rp (wMv b) R R1 := by
      rw [← hR1]
      exact Rp.tr (Rp.wI (W := wMv b) ⟨rfl, Or.inl ⟨rfl, rfl⟩⟩) (Rp.wI (W := wMv b) ⟨rfl, Or.inr (Or.inl ⟨rfl, rfl⟩)⟩) (fun _ _ _ q => q)
    have a1 : R1.1 13 a = nI x.2.length := by rw [k1.I (by decide) (by unfold wMv; omega)]; exact h2
    have b1 : R1.1 12 b = nI x.1 := by rw [← hR1]; simp (disch := omega) only [pI, pL, pB, up2_s, up2_ne]
    have b2 : R1.1 13 b = nI x.2.length := by rw [← hR1]; simp (disch := omega) only [pI, pL, pB, up2_s, up2_ne]
    clear hR1
    obtain ⟨z, hz, z1, z2⟩ : ∃ z, lp (fun q : Int32 × RS => M_move_l32 q.2 (nI a) (nI b) q.1) (nI 0, R1) = some z ∧ (Rp (wMv b) R z ∧ rSg z b x) := by
      refine lp_for (fun i Y => (nI i, Y)) x.2.length (fun i Y => Rp (wMv b) R Y ∧ Y.1 13 a = nI x.2.length ∧ Y.1 12 b = nI x.1 ∧ Y.1 13 b = nI x.2.length ∧ ∀ k, k < i → Y.1 14 (400 * b + k) = nI (x.2.getD k 0)) _ (fun i Y hi hI => ?_) (fun Y hI => ?_) x.2.length 0 _ (by omega) ⟨k1, a1, b1, b2, fun k hk => absurd hk (by omega)⟩
      · left
        obtain ⟨y1, y2, y3, y4, y5⟩ := hI
        have hsrc : Y.1 14 (400 * a + i) = nI (x.2.getD i 0) := by rw [y1.I (by decide) (by unfold wMv; omega)]; exact h3 i hi
        unfold M_move_l32
        simp (disch := first | assumption | omega | (simp only [gT_sI, gT_sL, gT_sR, gT_sB]; first | assumption | omega)) only [Option.bind_some, ldI_ok, ldL_ok, ldR_ok, ldB_ok, stI_ok, stL_ok, stR_ok, stB_ok, chk_ok, raI_k, raL_k, raR_k, raB_k, waI_k, waL_k, waB_k, waR_k, alen_k, gT_sI, gT_sL, gT_sR, gT_sB, gN_sI, gN_sL, gN_sR, gN_sB, gI_sL, gI_sR, gI_sB, gL_sI, gL_sR, gL_sB, gR_sI, gR_sL, gR_sB, gB_sI, gB_sL, gB_sR, gI_sIs, gL_sLs, gR_sRs, gB_sBs, gI_sIn, gL_sLn, gR_sRn, gB_sBn, rdI_ok, rdL_ok, rdB_ok, wrI_ok, wrL_ok, wrB_ok, y2]
        simp (disch := omega) only [nl, nI_add, nI_mul, iSub, iEq, iLe, iLt, iEqN, iNEq, iNN, iLtN, iNLt, iLeN, iNLe, iAddN, iNAdd, iMin, iMax, iDiv, iRem]
        rw [if_neg (by omega)]
        simp (disch := first | assumption | omega | (simp only [gT_sI, gT_sL, gT_sR, gT_sB]; first | assumption | omega)) only [Option.bind_some, ldI_ok, ldL_ok, ldR_ok, ldB_ok, stI_ok, stL_ok, stR_ok, stB_ok, chk_ok, raI_k, raL_k, raR_k, raB_k, waI_k, waL_k, waB_k, waR_k, alen_k, gT_sI, gT_sL, gT_sR, gT_sB, gN_sI, gN_sL, gN_sR, gN_sB, gI_sL, gI_sR, gI_sB, gL_sI, gL_sR, gL_sB, gR_sI, gR_sL, gR_sB, gB_sI, gB_sL, gB_sR, gI_sIs, gL_sLs, gR_sRs, gB_sBs, gI_sIn, gL_sLn, gR_sRn, gB_sBn, rdI_ok, rdL_ok, rdB_ok, wrI_ok, wrL_ok, wrB_ok, hsrc]
        refine ⟨_, rfl, Rp.tr y1 (Rp.wI (W := wMv b) ⟨rfl, Or.inr (Or.inr ⟨rfl, by omega, by omega⟩)⟩) (fun _ _ _ q => q), ?_, ?_, ?_, fun k hk => ?_⟩
        · simp (disch := omega) only [pI, pL, pB, up2_s, up2_ne]; exact y2
        · simp (disch := omega) only [pI, pL, pB, up2_s, up2_ne]; exact y3
        · simp (disch := omega) only [pI, pL, pB, up2_s, up2_ne]; exact y4
        · by_cases q : k = i
          · subst q; simp only [pI, pL, pB, up2_s, up2_ne]
          · simp (disch := omega) only [pI, pL, pB, up2_s, up2_ne]; exact y5 k (by omega)
      · obtain ⟨y1, y2, y3, y4, y5⟩ := hI
        refine ⟨Y, ?_, y1, y3, y4, y5⟩
        unfold M_move_l32
        simp (disch := first | assumption | omega | (simp only [gT_sI, gT_sL, gT_sR, gT_sB]; first | assumption | omega)) only [Option.bind_some, ldI_ok, ldL_ok, ldR_ok, ldB_ok, stI_ok, stL_ok, stR_ok, stB_ok, chk_ok, raI_k, raL_k, raR_k, raB_k, waI_k, waL_k, waB_k, waR_k, alen_k, gT_sI, gT_sL, gT_sR, gT_sB, gN_sI, gN_sL, gN_sR, gN_sB, gI_sL, gI_sR, gI_sB, gL_sI, gL_sR, gL_sB, gR_sI, gR_sL, gR_sB, gB_sI, gB_sL, gB_sR, gI_sIs, gL_sLs, gR_sRs, gB_sBs, gI_sIn, gL_sLn, gR_sRn, gB_sBn, rdI_ok, rdL_ok, rdB_ok, wrI_ok, wrL_ok, wrB_ok, y2]
        simp (disch := omega) only [nl, nI_add, nI_mul, iSub, iEq, iLe, iLt, iEqN, iNEq, iNN, iLtN, iNLt, iLeN, iNLe, iAddN, iNAdd, iMin, iMax, iDiv, iRem]
        rw [if_pos (by omega)]
    try simp only [nl] at hz
    try simp only [nl]
    rw [hz]
    exact ⟨z, rfl, z1, z2⟩
