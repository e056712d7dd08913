/-! NEAR of the reference: less, holders, the look -/
theorem M_isLess_ok {R : RS} {a b : List Nat} {u v : Nat} (hu : u < 100000) (hv : v < 100000) (ha : isTerm a) (hb : isTerm b) (ka : tkA R u a) (kb : tkA R v b) : M_isLess R (nI u) (nI v) = some (decide (enc a < enc b)) := by
  have hal := ha.1
  have hbl := hb.1
  obtain ⟨a1, a2⟩ := ka
  obtain ⟨b1, b2⟩ := kb
  have hr := run_ge (fun k => decide (a.getD k 0 = b.getD k 0)) (min a.length b.length) 0
  have hin := run_in (fun k => decide (a.getD k 0 = b.getD k 0)) (min a.length b.length) 0
  have hout := run_out (fun k => decide (a.getD k 0 = b.getD k 0)) (min a.length b.length) 0
  have hlp : lp (fun q : Int32 => M_isLess_l2 R (nI u) (nI v) q) (nI 0) = some (nI (run (fun k => decide (a.getD k 0 = b.getD k 0)) (min a.length b.length) 0)) := by
    refine lp_run (p := fun k => decide (a.getD k 0 = b.getD k 0)) (min a.length b.length) 0 (fun k h1 h2 h3 => ?_) ?_
    · have h3 := of_decide_eq_true h3
      have c1 := isTerm_at ha (k := k) (by omega)
      unfold isTb at c1
      unfold M_isLess_l2
      simp (disch := first | assumption | omega | (simp only [gT_sI, gT_sL, gT_sR, gT_sB]; first | assumption | omega)) only [Option.bind_some, ldI_ok, ldL_ok, ldR_ok, ldB_ok, stI_ok, stL_ok, stR_ok, stB_ok, chk_ok, raI_k, raL_k, raR_k, raB_k, waI_k, waL_k, waB_k, waR_k, alen_k, gT_sI, gT_sL, gT_sR, gT_sB, gN_sI, gN_sL, gN_sR, gN_sB, gI_sL, gI_sR, gI_sB, gL_sI, gL_sR, gL_sB, gR_sI, gR_sL, gR_sB, gB_sI, gB_sL, gB_sR, gI_sIs, gL_sLs, gR_sRs, gB_sBs, gI_sIn, gL_sLn, gR_sRn, gB_sBn, rdI_ok, rdL_ok, rdB_ok, wrI_ok, wrL_ok, wrB_ok, a1, b1]
      simp (disch := omega) only [nl, nI_add, nI_mul, iSub, iEq, iLe, iLt, iEqN, iNEq, iNN, iLtN, iNLt, iLeN, iNLe, iAddN, iNAdd, iMin, iMax, iDiv, iRem]
      rw [if_neg (by omega), if_neg (by omega)]
      simp (disch := first | assumption | omega | (simp only [gT_sI, gT_sL, gT_sR, gT_sB]; first | assumption | omega)) only [Option.bind_some, ldI_ok, ldL_ok, ldR_ok, ldB_ok, stI_ok, stL_ok, stR_ok, stB_ok, chk_ok, raI_k, raL_k, raR_k, raB_k, waI_k, waL_k, waB_k, waR_k, alen_k, gT_sI, gT_sL, gT_sR, gT_sB, gN_sI, gN_sL, gN_sR, gN_sB, gI_sL, gI_sR, gI_sB, gL_sI, gL_sR, gL_sB, gR_sI, gR_sL, gR_sB, gB_sI, gB_sL, gB_sR, gI_sIs, gL_sLs, gR_sRs, gB_sBs, gI_sIn, gL_sLn, gR_sRn, gB_sBn, rdI_ok, rdL_ok, rdB_ok, wrI_ok, wrL_ok, wrB_ok, a2 k (by omega), b2 k (by omega)]
      rw [h3, if_neg (by simp)]
    · generalize run (fun k => decide (a.getD k 0 = b.getD k 0)) (min a.length b.length) 0 = r at *
      unfold M_isLess_l2
      simp (disch := first | assumption | omega | (simp only [gT_sI, gT_sL, gT_sR, gT_sB]; first | assumption | omega)) only [Option.bind_some, ldI_ok, ldL_ok, ldR_ok, ldB_ok, stI_ok, stL_ok, stR_ok, stB_ok, chk_ok, raI_k, raL_k, raR_k, raB_k, waI_k, waL_k, waB_k, waR_k, alen_k, gT_sI, gT_sL, gT_sR, gT_sB, gN_sI, gN_sL, gN_sR, gN_sB, gI_sL, gI_sR, gI_sB, gL_sI, gL_sR, gL_sB, gR_sI, gR_sL, gR_sB, gB_sI, gB_sL, gB_sR, gI_sIs, gL_sLs, gR_sRs, gB_sBs, gI_sIn, gL_sLn, gR_sRn, gB_sBn, rdI_ok, rdL_ok, rdB_ok, wrI_ok, wrL_ok, wrB_ok, a1, b1]
      simp (disch := omega) only [nl, nI_add, nI_mul, iSub, iEq, iLe, iLt, iEqN, iNEq, iNN, iLtN, iNLt, iLeN, iNLe, iAddN, iNAdd, iMin, iMax, iDiv, iRem]
      by_cases q1 : a.length ≤ r
      · rw [if_pos q1]
      · rw [if_neg q1]
        by_cases q2 : b.length ≤ r
        · rw [if_pos q2]
        · rw [if_neg q2]
          have h3 := of_decide_eq_false (hout (by omega))
          have c1 := isTerm_at ha (k := r) (by omega)
          have c2 := isTerm_at hb (k := r) (by omega)
          unfold isTb at c1 c2
          simp (disch := first | assumption | omega | (simp only [gT_sI, gT_sL, gT_sR, gT_sB]; first | assumption | omega)) only [Option.bind_some, ldI_ok, ldL_ok, ldR_ok, ldB_ok, stI_ok, stL_ok, stR_ok, stB_ok, chk_ok, raI_k, raL_k, raR_k, raB_k, waI_k, waL_k, waB_k, waR_k, alen_k, gT_sI, gT_sL, gT_sR, gT_sB, gN_sI, gN_sL, gN_sR, gN_sB, gI_sL, gI_sR, gI_sB, gL_sI, gL_sR, gL_sB, gR_sI, gR_sL, gR_sB, gB_sI, gB_sL, gB_sR, gI_sIs, gL_sLs, gR_sRs, gB_sBs, gI_sIn, gL_sLn, gR_sRn, gB_sBn, rdI_ok, rdL_ok, rdB_ok, wrI_ok, wrL_ok, wrB_ok, a2 r (by omega), b2 r (by omega)]
          simp only [iEq (show a.getD r 0 < 2147483648 by omega) (show b.getD r 0 < 2147483648 by omega)]
          rw [if_pos h3]
  unfold M_isLess
  rw [show (0 : Int32) = nI 0 from rfl, hlp]
  generalize run (fun k => decide (a.getD k 0 = b.getD k 0)) (min a.length b.length) 0 = r at *
  have hin : ∀ k, k < r → a.getD k 0 = b.getD k 0 := fun k hk => of_decide_eq_true (hin k (by omega) hk)
  have hex : enc a < enc b ↔ r < b.length ∧ (r = a.length ∨ a.getD r 0 < b.getD r 0) := by
    rw [enc_lt_iff ha hb]
    constructor
    · rintro ⟨k, h1, h2, h3, h4⟩
      rcases Nat.lt_trichotomy k r with z | z | z
      · have := hin k z
        omega
      · subst z
        exact ⟨h1, h4⟩
      · by_cases c : r < min a.length b.length
        · have h5 := of_decide_eq_false (hout (by omega))
          exact absurd (h2 r z) h5
        · omega
    · rintro ⟨h1, h2⟩
      exact ⟨r, h1, hin, by omega, h2⟩
  simp (disch := first | assumption | omega | (simp only [gT_sI, gT_sL, gT_sR, gT_sB]; first | assumption | omega)) only [Option.bind_some, ldI_ok, ldL_ok, ldR_ok, ldB_ok, stI_ok, stL_ok, stR_ok, stB_ok, chk_ok, raI_k, raL_k, raR_k, raB_k, waI_k, waL_k, waB_k, waR_k, alen_k, gT_sI, gT_sL, gT_sR, gT_sB, gN_sI, gN_sL, gN_sR, gN_sB, gI_sL, gI_sR, gI_sB, gL_sI, gL_sR, gL_sB, gR_sI, gR_sL, gR_sB, gB_sI, gB_sL, gB_sR, gI_sIs, gL_sLs, gR_sRs, gB_sBs, gI_sIn, gL_sLn, gR_sRn, gB_sBn, rdI_ok, rdL_ok, rdB_ok, wrI_ok, wrL_ok, wrB_ok, a1, b1]
  simp (disch := omega) only [nl, nI_add, nI_mul, iSub, iEq, iLe, iLt, iEqN, iNEq, iNN, iLtN, iNLt, iLeN, iNLe, iAddN, iNAdd, iMin, iMax, iDiv, iRem]
  by_cases q1 : b.length ≤ r
  · rw [if_pos q1, decide_eq_false (fun z => by have := (hex.mp z).1; omega)]
  · rw [if_neg q1]
    by_cases q2 : r = a.length
    · rw [if_pos q2, decide_eq_true (hex.mpr ⟨by omega, .inl q2⟩)]
    · rw [if_neg q2]
      have c1 := isTerm_at ha (k := r) (by omega)
      have c2 := isTerm_at hb (k := r) (by omega)
      unfold isTb at c1 c2
      simp (disch := first | assumption | omega | (simp only [gT_sI, gT_sL, gT_sR, gT_sB]; first | assumption | omega)) only [Option.bind_some, ldI_ok, ldL_ok, ldR_ok, ldB_ok, stI_ok, stL_ok, stR_ok, stB_ok, chk_ok, raI_k, raL_k, raR_k, raB_k, waI_k, waL_k, waB_k, waR_k, alen_k, gT_sI, gT_sL, gT_sR, gT_sB, gN_sI, gN_sL, gN_sR, gN_sB, gI_sL, gI_sR, gI_sB, gL_sI, gL_sR, gL_sB, gR_sI, gR_sL, gR_sB, gB_sI, gB_sL, gB_sR, gI_sIs, gL_sLs, gR_sRs, gB_sBs, gI_sIn, gL_sLn, gR_sRn, gB_sBn, rdI_ok, rdL_ok, rdB_ok, wrI_ok, wrL_ok, wrB_ok, a2 r (by omega), b2 r (by omega)]
      simp only [iLe (show b.getD r 0 < 2147483648 by omega) (show a.getD r 0 < 2147483648 by omega)]
      by_cases q3 : b.getD r 0 ≤ a.getD r 0
      · rw [if_pos q3, decide_eq_false (fun z => by have := (hex.mp z).2; omega)]
      · rw [if_neg q3, decide_eq_true (hex.mpr ⟨by omega, .inr (by omega)⟩)]
theorem M_dfOf_ok {R : RS} {D : List DocT} {dl : Nat → Bool} {i : Nat} {v : VwT} (hD : rDocs R D dl) (hV : rView R i v) (hDL : D.length ≤ 400) (hT : okTx D) (hi : i < 4) (ho : v.1 = true) (hd : ∀ d, d ∈ vDocs v → d < D.length) (hvl : (vDocs v).length ≤ 400) {d k : Nat} (hd' : d < D.length) (hk : k < tkN D 1 d) : M_dfOf R (nI i) (nI (250 * d + 50 * 1 + k)) = some (nI (dfS D v 1 (enc (tmA D 1 d k)))) := by
  obtain ⟨v1, v2, v3⟩ := hV.2 ho
  have ht : isTerm (tmA D 1 d k) := ((hT d 1 hd' (by omega)).2 _ (getD_mem (d := (0, 0, [])) hk)).2.2
  have hA := fun y hy => M_hasTerm_ok hD hDL hT (d := y) (f := 1) (d' := d) (k' := k) hy (by omega) hd' hk
  unfold M_dfOf dfS
  have hlp : lp (fun q : Int32 × Int32 => M_dfOf_l5 R (nI i) (nI (250 * d + 50 * 1 + k)) q.1 q.2) (nI 0, nI 0) = some (nI (cN (fun m => hasT D 1 (enc (tmA D 1 d k)) ((vDocs v).getD m 0)) (vDocs v).length)) := by
    refine lp_sum (c := fun m => if hasT D 1 (enc (tmA D 1 d k)) ((vDocs v).getD m 0) = true then 1 else 0) (vDocs v).length 0 (fun m hm => ?_) ?_
    · rw [Nat.zero_add]
      have hdm := hd _ (getD_mem (d := 0) hm)
      unfold M_dfOf_l5
      simp (disch := first | assumption | omega | (simp only [gT_sI, gT_sL, gT_sR, gT_sB]; first | assumption | omega)) only [Option.bind_some, ldI_ok, ldL_ok, ldR_ok, ldB_ok, stI_ok, stL_ok, stR_ok, stB_ok, chk_ok, raI_k, raL_k, raR_k, raB_k, waI_k, waL_k, waB_k, waR_k, alen_k, gT_sI, gT_sL, gT_sR, gT_sB, gN_sI, gN_sL, gN_sR, gN_sB, gI_sL, gI_sR, gI_sB, gL_sI, gL_sR, gL_sB, gR_sI, gR_sL, gR_sB, gB_sI, gB_sL, gB_sR, gI_sIs, gL_sLs, gR_sRs, gB_sBs, gI_sIn, gL_sLn, gR_sRn, gB_sBn, rdI_ok, rdL_ok, rdB_ok, wrI_ok, wrL_ok, wrB_ok, v2]
      simp (disch := omega) only [nl, nI_add, nI_mul, iSub, iEq, iLe, iLt, iEqN, iNEq, iNN, iLtN, iNLt, iLeN, iNLe, iAddN, iNAdd, iMin, iMax, iDiv, iRem]
      rw [if_neg (by omega)]
      simp (disch := first | assumption | omega | (simp only [gT_sI, gT_sL, gT_sR, gT_sB]; first | assumption | omega)) only [Option.bind_some, ldI_ok, ldL_ok, ldR_ok, ldB_ok, stI_ok, stL_ok, stR_ok, stB_ok, chk_ok, raI_k, raL_k, raR_k, raB_k, waI_k, waL_k, waB_k, waR_k, alen_k, gT_sI, gT_sL, gT_sR, gT_sB, gN_sI, gN_sL, gN_sR, gN_sB, gI_sL, gI_sR, gI_sB, gL_sI, gL_sR, gL_sB, gR_sI, gR_sL, gR_sB, gB_sI, gB_sL, gB_sR, gI_sIs, gL_sLs, gR_sRs, gB_sBs, gI_sIn, gL_sLn, gR_sRn, gB_sBn, rdI_ok, rdL_ok, rdB_ok, wrI_ok, wrL_ok, wrB_ok, (v3 m hm).1]
      rw [hA _ hdm]
      have e : bP (hasB D 1 ((vDocs v).getD m 0) (tmA D 1 d k)) = hasT D 1 (enc (tmA D 1 d k)) ((vDocs v).getD m 0) := by
        rw [Bool.eq_iff_iff, bP_t]
        unfold hasT
        rw [decide_eq_true_eq]
        exact (tcn_has hT hdm (by omega) ht).symm
      rw [e]
      cases hasT D 1 (enc (tmA D 1 d k)) ((vDocs v).getD m 0) <;> simp only [if_true, if_false, not_true_eq_false, not_false_eq_true, true_and, and_true, false_and, and_false, true_or, or_true, false_or, or_false, decide_true, decide_false, Bool.false_eq_true, reduceCtorEq, Option.bind_some, Option.map_some, Option.map_none, Option.bind_none, jn_l, jn_r, jn_n, se_l, se_r, nl, nI_add, Nat.add_zero]
    · rw [Nat.zero_add]
      unfold M_dfOf_l5
      simp (disch := first | assumption | omega | (simp only [gT_sI, gT_sL, gT_sR, gT_sB]; first | assumption | omega)) only [Option.bind_some, ldI_ok, ldL_ok, ldR_ok, ldB_ok, stI_ok, stL_ok, stR_ok, stB_ok, chk_ok, raI_k, raL_k, raR_k, raB_k, waI_k, waL_k, waB_k, waR_k, alen_k, gT_sI, gT_sL, gT_sR, gT_sB, gN_sI, gN_sL, gN_sR, gN_sB, gI_sL, gI_sR, gI_sB, gL_sI, gL_sR, gL_sB, gR_sI, gR_sL, gR_sB, gB_sI, gB_sL, gB_sR, gI_sIs, gL_sLs, gR_sRs, gB_sBs, gI_sIn, gL_sLn, gR_sRn, gB_sBn, rdI_ok, rdL_ok, rdB_ok, wrI_ok, wrL_ok, wrB_ok, v2]
      simp (disch := omega) only [nl, nI_add, nI_mul, iSub, iEq, iLe, iLt, iEqN, iNEq, iNN, iLtN, iNLt, iLeN, iNLe, iAddN, iNAdd, iMin, iMax, iDiv, iRem]
      rw [if_pos (Nat.le_refl _)]
      rfl
  rw [show (0 : Int32) = nI 0 from rfl, hlp]
  rfl
