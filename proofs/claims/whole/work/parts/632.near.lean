/-! NEAR: the class's edits -/
def isNe (σ : Mem) (n : Nat) : Prop := (gT σ n).1 = 2 ∧ gT σ (n + 1) = (100, 12) ∧ gT σ (n + 2) = (100, 12) ∧ gT σ (n + 3) = (100, 13) ∧ gR σ n 4 = some (n + 1) ∧ gR σ n 6 = some (n + 2) ∧ gR σ n 7 = some (n + 3) ∧ n + 4 ≤ gN σ
theorem isNe.kp {σ σ' : Mem} {n : Nat} {W : Nat → Nat → Nat → Prop} (h : isNe σ n) (hk : Kp W σ σ') (hw : ∀ k, ¬ W 2 n k) : isNe σ' n := by
  obtain ⟨a, b, c, d, r1, r2, r3, hN⟩ := h
  have := hk.n
  refine ⟨?_, ?_, ?_, ?_, ?_, ?_, ?_, by omega⟩
  · rw [hk.T (by omega)]; exact a
  · rw [hk.T (by omega)]; exact b
  · rw [hk.T (by omega)]; exact c
  · rw [hk.T (by omega)]; exact d
  · rw [hk.R (by omega) (hw _)]; exact r1
  · rw [hk.R (by omega) (hw _)]; exact r2
  · rw [hk.R (by omega) (hw _)]; exact r3
def wRw (n : Nat) : Nat → Nat → Nat → Prop := fun t a _ => t = 0 ∧ a = n + 3
def wEd (n : Nat) : Nat → Nat → Nat → Prop := fun t a _ => t = 0 ∧ (a = n + 2 ∨ a = n + 3)
theorem abs_2 : ∀ a, a < 13 → ∀ b, b < 13 → (absI (nI a - nI b) ≤ 2 ↔ a ≤ b + 2 ∧ b ≤ a + 2) := by decide +kernel
theorem Ne_editsTo_ok {σ : Mem} {n : Nat} {w t : List Nat} (h : isNe σ n) (hw : isTerm w) (ht : isTerm t) (h1 : ∀ k, k < 12 → gI σ (n + 1) k = nI (dg w k)) (h5 : gI σ n 5 = nI w.length) : ∃ σ' r, Ne_editsTo σ n (lN (enc t)) = some (nI r, σ') ∧ Kp (wEd n) σ σ' ∧ gN σ' = gN σ ∧ gU σ' = gU σ ∧ r < 100 ∧ (r = edT w t ∨ (r = 3 ∧ 2 < edT w t)) := by
  have hwl := hw.1
  have htl := ht.1
  have t0 := h.1
  have r6 := h.2.2.2.2.2.1
  have hN := h.2.2.2.2.2.2.2
  obtain ⟨σ1, e1, k1, n1, u1, s1⟩ := Ne_spell_ok h.2.2.1 (by omega) ht
  have H1 := h.kp k1 (fun k => by omega)
  obtain ⟨a0, a1, a2, a3, b1, b2, b3, hN1⟩ := H1
  obtain ⟨p1, p2⟩ : (gT σ1 (n + 1)).1 = 100 + 0 ∧ (gT σ1 (n + 1)).2 = 12 := by rw [a1]; exact ⟨rfl, rfl⟩
  obtain ⟨p3, p4⟩ : (gT σ1 (n + 2)).1 = 100 + 0 ∧ (gT σ1 (n + 2)).2 = 12 := by rw [a2]; exact ⟨rfl, rfl⟩
  obtain ⟨p5, p6⟩ : (gT σ1 (n + 3)).1 = 100 + 0 ∧ (gT σ1 (n + 3)).2 = 13 := by rw [a3]; exact ⟨rfl, rfl⟩
  have w5 : gI σ1 n 5 = nI w.length := by rw [k1.I (by omega) (by omega)]; exact h5
  have w1 : ∀ k, k < 12 → gI σ1 (n + 1) k = nI (dg w k) := fun k hk => by rw [k1.I (by omega) (by omega)]; exact h1 k hk
  unfold Ne_editsTo
  simp (disch := first | assumption | omega | (simp only [gT_sI, gT_sL, gT_sR, gT_sB]; first | assumption | omega)) only [Option.bind_some, ldI_ok, ldL_ok, ldR_ok, ldB_ok, stI_ok, stL_ok, stR_ok, stB_ok, chk_ok, raI_k, raL_k, raR_k, raB_k, waI_k, waL_k, waB_k, waR_k, alen_k, gT_sI, gT_sL, gT_sR, gT_sB, gN_sI, gN_sL, gN_sR, gN_sB, gI_sL, gI_sR, gI_sB, gL_sI, gL_sR, gL_sB, gR_sI, gR_sL, gR_sB, gB_sI, gB_sL, gB_sR, gI_sIs, gL_sLs, gR_sRs, gB_sBs, gI_sIn, gL_sLn, gR_sRn, gB_sBn, rdI_ok, rdL_ok, rdB_ok, wrI_ok, wrL_ok, wrB_ok, r6]
  rw [e1]
  simp (disch := first | assumption | omega | (simp only [gT_sI, gT_sL, gT_sR, gT_sB]; first | assumption | omega)) only [Option.bind_some, ldI_ok, ldL_ok, ldR_ok, ldB_ok, stI_ok, stL_ok, stR_ok, stB_ok, chk_ok, raI_k, raL_k, raR_k, raB_k, waI_k, waL_k, waB_k, waR_k, alen_k, gT_sI, gT_sL, gT_sR, gT_sB, gN_sI, gN_sL, gN_sR, gN_sB, gI_sL, gI_sR, gI_sB, gL_sI, gL_sR, gL_sB, gR_sI, gR_sL, gR_sB, gB_sI, gB_sL, gB_sR, gI_sIs, gL_sLs, gR_sRs, gB_sBs, gI_sIn, gL_sLn, gR_sRn, gB_sBn, rdI_ok, rdL_ok, rdB_ok, wrI_ok, wrL_ok, wrB_ok, w5]
  have hab := abs_2 t.length (by omega) w.length (by omega)
  by_cases c : absI (nI t.length - nI w.length) ≤ 2
  · rw [if_pos c]
    -- the first row
    obtain ⟨σ2, e2, k2, n2, u2, s2⟩ : ∃ z, lp (fun q : Int32 × Mem => Ne_editsTo_l27 q.2 n (nI t.length) q.1) (nI 0, σ1) = some z ∧ (Kp (wRw n) σ1 z ∧ gN z = gN σ1 ∧ gU z = gU σ1 ∧ ∀ k, k ≤ t.length → gI z (n + 3) k = nI (ed w t 0 k)) := by
      refine lp_for (fun i (s : Mem) => (nI i, s)) (t.length + 1) (fun i s => Kp (wRw n) σ1 s ∧ gN s = gN σ1 ∧ gU s = gU σ1 ∧ ∀ k, k < i → gI s (n + 3) k = nI (ed w t 0 k)) _ (fun i s hi hI => ?_) (fun s hI => ?_) (t.length + 1) 0 _ (by omega) ⟨Kp.rf, rfl, rfl, fun k hk => absurd hk (by omega)⟩
      · left
        obtain ⟨y1, y2, y3, y4⟩ := hI
        have q0 : (gT s n).1 = 2 := by rw [y1.T (by omega)]; exact a0
        have q5 : (gT s (n + 3)).1 = 100 + 0 := by rw [y1.T (by omega)]; exact p5
        have q6 : (gT s (n + 3)).2 = 13 := by rw [y1.T (by omega)]; exact p6
        have q7 : gR s n 7 = some (n + 3) := by rw [y1.R (by omega) (by unfold wRw; omega)]; exact b3
        unfold Ne_editsTo_l27
        simp (disch := omega) only [nl, nI_add, nI_mul, iSub, iEq, iLe, iLt, iEqN, iNEq, iNN, iLtN, iNLt, iLeN, iNLe, iAddN, iNAdd, iMin, iMax, iDiv, iRem]
        rw [if_neg (by omega)]
        simp (disch := first | assumption | omega | (simp only [gT_sI, gT_sL, gT_sR, gT_sB]; first | assumption | omega)) only [Option.bind_some, ldI_ok, ldL_ok, ldR_ok, ldB_ok, stI_ok, stL_ok, stR_ok, stB_ok, chk_ok, raI_k, raL_k, raR_k, raB_k, waI_k, waL_k, waB_k, waR_k, alen_k, gT_sI, gT_sL, gT_sR, gT_sB, gN_sI, gN_sL, gN_sR, gN_sB, gI_sL, gI_sR, gI_sB, gL_sI, gL_sR, gL_sB, gR_sI, gR_sL, gR_sB, gB_sI, gB_sL, gB_sR, gI_sIs, gL_sLs, gR_sRs, gB_sBs, gI_sIn, gL_sLn, gR_sRn, gB_sBn, rdI_ok, rdL_ok, rdB_ok, wrI_ok, wrL_ok, wrB_ok, q7]
        refine ⟨_, rfl, Kp.tr y1 (Kp.sI ⟨rfl, rfl⟩) (fun _ _ _ _ q => q), y2, y3, fun k hk => ?_⟩
        by_cases z : k = i
        · subst z; rw [gI_sIs, ed_0]
        · rw [gI_sIn (by omega)]; exact y4 k (by omega)
      · obtain ⟨y1, y2, y3, y4⟩ := hI
        refine ⟨s, ?_, y1, y2, y3, fun k hk => y4 k (by omega)⟩
        unfold Ne_editsTo_l27
        simp (disch := omega) only [nl, nI_add, nI_mul, iSub, iEq, iLe, iLt, iEqN, iNEq, iNN, iLtN, iNLt, iLeN, iNLe, iAddN, iNAdd, iMin, iMax, iDiv, iRem]
        rw [if_pos (by omega)]
    rw [show (0 : Int32) = nI 0 from rfl, e2]
    simp only [Option.bind_some]
    obtain ⟨σ3, e3, k3, n3, u3, s3⟩ : ∃ z, lp (fun q : Int32 × Mem => Ne_editsTo_l51 q.2 n (nI t.length) q.1) (nI (0 + 1), σ2) = some z ∧ (Kp (wRw n) σ1 z ∧ gN z = gN σ1 ∧ gU z = gU σ1 ∧ ∀ k, k ≤ t.length → gI z (n + 3) k = nI (ed w t w.length k)) := by
      refine lp_for (fun i (s : Mem) => (nI (i + 1), s)) w.length (fun i s => Kp (wRw n) σ1 s ∧ gN s = gN σ1 ∧ gU s = gU σ1 ∧ ∀ k, k ≤ t.length → gI s (n + 3) k = nI (ed w t i k)) _ (fun i s hi hI => ?_) (fun s hI => ?_) w.length 0 _ (by omega) ⟨k2, n2, u2, s2⟩
      · left
        obtain ⟨y1, y2, y3, y4⟩ := hI
        have q0 : (gT s n).1 = 2 := by rw [y1.T (by omega)]; exact a0
        have q5 : (gT s (n + 3)).1 = 100 + 0 := by rw [y1.T (by omega)]; exact p5
        have q6 : (gT s (n + 3)).2 = 13 := by rw [y1.T (by omega)]; exact p6
        have q7 : gR s n 7 = some (n + 3) := by rw [y1.R (by omega) (by unfold wRw; omega)]; exact b3
        have q8 : gI s n 5 = nI w.length := by rw [y1.I (by omega) (by unfold wRw; omega)]; exact w5
        have d0 := y4 0 (by omega)
        unfold Ne_editsTo_l51
        simp (disch := first | assumption | omega | (simp only [gT_sI, gT_sL, gT_sR, gT_sB]; first | assumption | omega)) only [Option.bind_some, ldI_ok, ldL_ok, ldR_ok, ldB_ok, stI_ok, stL_ok, stR_ok, stB_ok, chk_ok, raI_k, raL_k, raR_k, raB_k, waI_k, waL_k, waB_k, waR_k, alen_k, gT_sI, gT_sL, gT_sR, gT_sB, gN_sI, gN_sL, gN_sR, gN_sB, gI_sL, gI_sR, gI_sB, gL_sI, gL_sR, gL_sB, gR_sI, gR_sL, gR_sB, gB_sI, gB_sL, gB_sR, gI_sIs, gL_sLs, gR_sRs, gB_sBs, gI_sIn, gL_sLn, gR_sRn, gB_sBn, rdI_ok, rdL_ok, rdB_ok, wrI_ok, wrL_ok, wrB_ok, q8]
        simp (disch := omega) only [nl, nI_add, nI_mul, iSub, iEq, iLe, iLt, iEqN, iNEq, iNN, iLtN, iNLt, iLeN, iNLe, iAddN, iNAdd, iMin, iMax, iDiv, iRem]
        rw [if_neg (by omega)]
        simp (disch := first | assumption | omega | (simp only [gT_sI, gT_sL, gT_sR, gT_sB]; first | assumption | omega)) only [Option.bind_some, ldI_ok, ldL_ok, ldR_ok, ldB_ok, stI_ok, stL_ok, stR_ok, stB_ok, chk_ok, raI_k, raL_k, raR_k, raB_k, waI_k, waL_k, waB_k, waR_k, alen_k, gT_sI, gT_sL, gT_sR, gT_sB, gN_sI, gN_sL, gN_sR, gN_sB, gI_sL, gI_sR, gI_sB, gL_sI, gL_sR, gL_sB, gR_sI, gR_sL, gR_sB, gB_sI, gB_sL, gB_sR, gI_sIs, gL_sLs, gR_sRs, gB_sBs, gI_sIn, gL_sLn, gR_sRn, gB_sBn, rdI_ok, rdL_ok, rdB_ok, wrI_ok, wrL_ok, wrB_ok, q7, d0]
        obtain ⟨z, hz, g1, g2, g3, g4⟩ : ∃ z, lp (fun q : Int32 × Int32 × Mem => Ne_editsTo_l79 q.2.2 n (nI t.length) (nI (i + 1)) q.1 q.2.1) (nI (ed w t i 0), nI (0 + 1), sI s (n + 3) 0 (nI (i + 1))) = some z ∧ (Kp (wRw n) σ1 z ∧ gN z = gN σ1 ∧ gU z = gU σ1 ∧ ∀ k, k ≤ t.length → gI z (n + 3) k = nI (ed w t (i + 1) k)) := by
          refine lp_for (fun m (x : Mem) => (nI (ed w t i m), nI (m + 1), x)) t.length (fun m x => Kp (wRw n) σ1 x ∧ gN x = gN σ1 ∧ gU x = gU σ1 ∧ (∀ k, k ≤ m → gI x (n + 3) k = nI (ed w t (i + 1) k)) ∧ ∀ k, m < k → k ≤ t.length → gI x (n + 3) k = nI (ed w t i k)) _ (fun m x hm hI => ?_) (fun x hI => ?_) t.length 0 _ (by omega) ⟨Kp.tr y1 (Kp.sI ⟨rfl, rfl⟩) (fun _ _ _ _ q => q), y2, y3, fun k hk => ?_, fun k h1 h2 => ?_⟩
          · left
            obtain ⟨v1, v2, v3, v4, v5⟩ := hI
            have q0 : (gT x n).1 = 2 := by rw [v1.T (by omega)]; exact a0
            have q1 : (gT x (n + 1)).1 = 100 + 0 := by rw [v1.T (by omega)]; exact p1
            have q2 : (gT x (n + 1)).2 = 12 := by rw [v1.T (by omega)]; exact p2
            have q3 : (gT x (n + 2)).1 = 100 + 0 := by rw [v1.T (by omega)]; exact p3
            have q4 : (gT x (n + 2)).2 = 12 := by rw [v1.T (by omega)]; exact p4
            have q5 : (gT x (n + 3)).1 = 100 + 0 := by rw [v1.T (by omega)]; exact p5
            have q6 : (gT x (n + 3)).2 = 13 := by rw [v1.T (by omega)]; exact p6
            have q7 : gR x n 7 = some (n + 3) := by rw [v1.R (by omega) (by unfold wRw; omega)]; exact b3
            have q8 : gR x n 4 = some (n + 1) := by rw [v1.R (by omega) (by unfold wRw; omega)]; exact b1
            have q9 : gR x n 6 = some (n + 2) := by rw [v1.R (by omega) (by unfold wRw; omega)]; exact b2
            have x1 : gI x (n + 1) i = nI (dg w i) := by rw [v1.I (by omega) (by unfold wRw; omega)]; exact w1 i (by omega)
            have x2 : gI x (n + 2) m = nI (dg t m) := by rw [v1.I (by omega) (by unfold wRw; omega)]; exact s1 m (by omega)
            have x3 := v4 m (Nat.le_refl _)
            have x4 := v5 (m + 1) (by omega) (by omega)
            have l1 := ed_le w t i m
            have l2 := ed_le w t i (m + 1)
            have l3 := ed_le w t (i + 1) m
            have l4 := dg_lt w i
            have l5 := dg_lt t m
            have hdg : (dg w i = dg t m) = (w.getD i 0 = t.getD m 0) := propext ⟨fun q => sgn_inj (isTerm_at hw hi) (isTerm_at ht hm) q, fun q => by unfold dg; rw [q]⟩
            unfold Ne_editsTo_l79
            simp (disch := omega) only [nl, nI_add, nI_mul, iSub, iEq, iLe, iLt, iEqN, iNEq, iNN, iLtN, iNLt, iLeN, iNLe, iAddN, iNAdd, iMin, iMax, iDiv, iRem]
            rw [if_neg (by omega)]
            simp only [Nat.add_sub_cancel]
            simp (disch := first | assumption | omega | (simp only [gT_sI, gT_sL, gT_sR, gT_sB]; first | assumption | omega)) only [Option.bind_some, ldI_ok, ldL_ok, ldR_ok, ldB_ok, stI_ok, stL_ok, stR_ok, stB_ok, chk_ok, raI_k, raL_k, raR_k, raB_k, waI_k, waL_k, waB_k, waR_k, alen_k, gT_sI, gT_sL, gT_sR, gT_sB, gN_sI, gN_sL, gN_sR, gN_sB, gI_sL, gI_sR, gI_sB, gL_sI, gL_sR, gL_sB, gR_sI, gR_sL, gR_sB, gB_sI, gB_sL, gB_sR, gI_sIs, gL_sLs, gR_sRs, gB_sBs, gI_sIn, gL_sLn, gR_sRn, gB_sBn, rdI_ok, rdL_ok, rdB_ok, wrI_ok, wrL_ok, wrB_ok, q7, q8, q9, x1, x2, x3, x4]
            simp (disch := omega) only [nl, nI_add, nI_mul, iSub, iEq, iLe, iLt, iEqN, iNEq, iNN, iLtN, iNLt, iLeN, iNLe, iAddN, iNAdd, iMin, iMax, iDiv, iRem, hdg]
            refine ⟨sI x (n + 3) (m + 1) (nI (ed w t (i + 1) (m + 1))), ?_, Kp.tr v1 (Kp.sI ⟨rfl, rfl⟩) (fun _ _ _ _ q => q), v2, v3, fun k hk => ?_, fun k h1 h2 => ?_⟩
            · rw [ed_s]
              by_cases c : w.getD i 0 = t.getD m 0
              · simp only [c, if_true, if_false, not_true_eq_false, not_false_eq_true, true_and, and_true, false_and, and_false, true_or, or_true, false_or, or_false, decide_true, decide_false, Bool.false_eq_true, reduceCtorEq, Option.bind_some, Option.map_some, Option.map_none, Option.bind_none, jn_l, jn_r, jn_n, se_l, se_r]
                simp (disch := omega) only [nl, nI_add, nI_mul, iSub, iEq, iLe, iLt, iEqN, iNEq, iNN, iLtN, iNLt, iLeN, iNLe, iAddN, iNAdd, iMin, iMax, iDiv, iRem]
              · simp only [c, if_true, if_false, not_true_eq_false, not_false_eq_true, true_and, and_true, false_and, and_false, true_or, or_true, false_or, or_false, decide_true, decide_false, Bool.false_eq_true, reduceCtorEq, Option.bind_some, Option.map_some, Option.map_none, Option.bind_none, jn_l, jn_r, jn_n, se_l, se_r]
                simp (disch := omega) only [nl, nI_add, nI_mul, iSub, iEq, iLe, iLt, iEqN, iNEq, iNN, iLtN, iNLt, iLeN, iNLe, iAddN, iNAdd, iMin, iMax, iDiv, iRem]
            · by_cases z : k = m + 1
              · subst z; rw [gI_sIs]
              · rw [gI_sIn (by omega)]; exact v4 k (by omega)
            · rw [gI_sIn (by omega)]; exact v5 k (by omega) h2
          · obtain ⟨v1, v2, v3, v4, v5⟩ := hI
            refine ⟨x, ?_, v1, v2, v3, v4⟩
            unfold Ne_editsTo_l79
            simp (disch := omega) only [nl, nI_add, nI_mul, iSub, iEq, iLe, iLt, iEqN, iNEq, iNN, iLtN, iNLt, iLeN, iNLe, iAddN, iNAdd, iMin, iMax, iDiv, iRem]
            rw [if_pos (by omega)]
          · have : k = 0 := by omega
            subst this
            rw [gI_sIs, ed_z]
          · rw [gI_sIn (by omega)]; exact y4 k h2
        rw [hz]
        exact ⟨z, rfl, g1, g2, g3, g4⟩
      · obtain ⟨y1, y2, y3, y4⟩ := hI
        have q0 : (gT s n).1 = 2 := by rw [y1.T (by omega)]; exact a0
        have q8 : gI s n 5 = nI w.length := by rw [y1.I (by omega) (by unfold wRw; omega)]; exact w5
        refine ⟨s, ?_, y1, y2, y3, y4⟩
        unfold Ne_editsTo_l51
        simp (disch := first | assumption | omega | (simp only [gT_sI, gT_sL, gT_sR, gT_sB]; first | assumption | omega)) only [Option.bind_some, ldI_ok, ldL_ok, ldR_ok, ldB_ok, stI_ok, stL_ok, stR_ok, stB_ok, chk_ok, raI_k, raL_k, raR_k, raB_k, waI_k, waL_k, waB_k, waR_k, alen_k, gT_sI, gT_sL, gT_sR, gT_sB, gN_sI, gN_sL, gN_sR, gN_sB, gI_sL, gI_sR, gI_sB, gL_sI, gL_sR, gL_sB, gR_sI, gR_sL, gR_sB, gB_sI, gB_sL, gB_sR, gI_sIs, gL_sLs, gR_sRs, gB_sBs, gI_sIn, gL_sLn, gR_sRn, gB_sBn, rdI_ok, rdL_ok, rdB_ok, wrI_ok, wrL_ok, wrB_ok, q8]
        simp (disch := omega) only [nl, nI_add, nI_mul, iSub, iEq, iLe, iLt, iEqN, iNEq, iNN, iLtN, iNLt, iLeN, iNLe, iAddN, iNAdd, iMin, iMax, iDiv, iRem]
        rw [if_pos (by omega)]
    rw [show (1 : Int32) = nI (0 + 1) from rfl, e3]
    have q0 : (gT σ3 n).1 = 2 := by rw [k3.T (by omega)]; exact a0
    have q5 : (gT σ3 (n + 3)).1 = 100 + 0 := by rw [k3.T (by omega)]; exact p5
    have q6 : (gT σ3 (n + 3)).2 = 13 := by rw [k3.T (by omega)]; exact p6
    have q7 : gR σ3 n 7 = some (n + 3) := by rw [k3.R (by omega) (by unfold wRw; omega)]; exact b3
    simp (disch := first | assumption | omega | (simp only [gT_sI, gT_sL, gT_sR, gT_sB]; first | assumption | omega)) only [Option.bind_some, ldI_ok, ldL_ok, ldR_ok, ldB_ok, stI_ok, stL_ok, stR_ok, stB_ok, chk_ok, raI_k, raL_k, raR_k, raB_k, waI_k, waL_k, waB_k, waR_k, alen_k, gT_sI, gT_sL, gT_sR, gT_sB, gN_sI, gN_sL, gN_sR, gN_sB, gI_sL, gI_sR, gI_sB, gL_sI, gL_sR, gL_sB, gR_sI, gR_sL, gR_sB, gB_sI, gB_sL, gB_sR, gI_sIs, gL_sLs, gR_sRs, gB_sBs, gI_sIn, gL_sLn, gR_sRn, gB_sBn, rdI_ok, rdL_ok, rdB_ok, wrI_ok, wrL_ok, wrB_ok, q7, s3 t.length (Nat.le_refl _)]
    have := ed_le w t w.length t.length
    refine ⟨σ3, _, rfl, Kp.tr (k1.mono (fun _ _ _ _ q => by unfold wEd; omega)) k3 (fun _ _ _ _ q => by unfold wRw at q; unfold wEd; omega), by omega, by omega, by omega, .inl rfl⟩
  · rw [if_neg c]
    have := ed_ge w t w.length t.length
    refine ⟨σ1, 3, rfl, k1.mono (fun _ _ _ _ q => by unfold wEd; omega), n1, u1, by omega, .inr ⟨rfl, ?_⟩⟩
    unfold edT
    rw [hab] at c
    omega
/-! the class compares -/
def wCm (n : Nat) : Nat → Nat → Nat → Prop := fun t a k => (t = 0 ∧ (a = n + 2 ∨ a = n + 3)) ∨ (t = 0 ∧ a = n ∧ (k = 1 ∨ k = 2)) ∨ (t = 1 ∧ a = n ∧ k = 3)
def edO (w : List Nat) (b : Option (List Nat)) : Nat := match b with
  | none => 3
  | some b => edT w b
/-- the neighbour's object knows the best so far -/
def neB (σ : Mem) (n : Nat) (w : List Nat) (df : Nat → Nat) (b : Option (List Nat)) : Prop := gI σ n 1 = nI (edO w b) ∧ ∀ u, b = some u → gI σ n 2 = nI (df (enc u)) ∧ gL σ n 3 = lN (enc u)
theorem edO_n {w : List Nat} : edO w none = 3 := rfl
theorem edO_s {w u : List Nat} : edO w (some u) = edT w u := rfl
theorem Ne_compare_ok {e : Nat} {da : Nat → Nat} {σ : Mem} {st sp : Bool} {D : List DocT} {i : Nat} {v : VwT} (hF : cFix e σ st sp) (hV : cView e da σ D i v) (hi : i < 4) (ho : v.1 = true) {w t : List Nat} (hw : isTerm w) (ht : isTerm t) (hn : t ≠ []) (h : isNe σ (e + 351)) (h1 : ∀ k, k < 12 → gI σ (e + 351 + 1) k = nI (dg w k)) (h5 : gI σ (e + 351) 5 = nI w.length) {b : Option (List Nat)} {S S' : List Nat → Prop} (hS : nB w (dfS D v 1) S b) (hs : ∀ u, S' u ↔ S u ∨ u = t) (hb : neB σ (e + 351) w (dfS D v 1) b) : ∃ σ' b', Ne_compare σ (e + 351) (lN (enc t)) (some (e + (8 + 4 * i))) = some σ' ∧ Kp (wCm (e + 351)) σ σ' ∧ gN σ' = gN σ ∧ gU σ' = gU σ ∧ nB w (dfS D v 1) S' b' ∧ neB σ' (e + 351) w (dfS D v 1) b' := by
  have t0 := h.1
  have hNe := hF.N
  obtain ⟨σ1, r, e1, k1, n1, u1, r1, r2⟩ := Ne_editsTo_ok h hw ht h1 h5
  have k1' : Kp (wCm (e + 351)) σ σ1 := k1.mono (fun _ _ _ _ q => by unfold wEd at q; unfold wCm; omega)
  have T0 : (gT σ1 (e + 351)).1 = 2 := by rw [k1.T (by omega)]; exact t0
  have hvl : (vDocs v).length ≤ 400 := (hV.2 ho).2.2.2.2.1
  have hdf : ∀ t, dfS D v 1 t ≤ 400 := fun t => Nat.le_trans (cN_le _ _) hvl
  have hew := hw.1
  have hE : ∀ u, isTerm u → edT w u ≤ 24 := fun u hu => by
    have := ed_le w u w.length u.length
    have := hu.1
    unfold edT
    omega
  have B1 : gI σ1 (e + 351) 1 = nI (edO w b) := by rw [k1.I (by omega) (by unfold wEd; omega)]; exact hb.1
  have B2 : ∀ u, b = some u → gI σ1 (e + 351) 2 = nI (dfS D v 1 (enc u)) ∧ gL σ1 (e + 351) 3 = lN (enc u) := fun u hu => by
    rw [k1.I (by omega) (by unfold wEd; omega), k1.L (by omega) (by unfold wEd; omega)]
    exact hb.2 u hu
  have F1 := hF.kp k1 (fun c k hc => ⟨fun q => by unfold wEd at q; omega, fun q => by unfold wEd at q; omega, fun q => by unfold wEd at q; omega⟩)
  have V1 := hV.kp k1 hNe (fun t a k h1 h2 q => by unfold wEd at q; omega) hi (fun t c k h1 h2 q => by unfold wEd at q; omega)
  have hho := Vi_holders_ok F1 V1 hi ho (f := 1) (t := enc t) (by omega) (by have := enc_lt ht.1; omega)
  have he0 : ¬ enc t = 0 := fun z => hn ((enc_0 ht).mp z)
  rw [if_neg he0] at hho
  obtain ⟨tv, -⟩ := F1.vt hi
  have hte := enc_lt ht.1
  have hno : ¬ nbOk w (dfS D v 1) t b → ∃ σ' b', some σ1 = some σ' ∧ Kp (wCm (e + 351)) σ σ' ∧ gN σ' = gN σ ∧ gU σ' = gU σ ∧ nB w (dfS D v 1) S' b' ∧ neB σ' (e + 351) w (dfS D v 1) b' := fun q => ⟨σ1, b, rfl, k1', n1, u1, nB_n hS hs q, B1, B2⟩
  have hrE := hE t ht
  unfold Ne_compare
  rw [chk_ok t0]
  simp only [Option.bind_some]
  rw [e1]
  simp only [Option.bind_some]
  have c2 : (2 < nI r) = (2 < r) := iLt (a := 2) (by omega) (by omega)
  simp only [c2]
  by_cases c : 2 < r
  · rw [if_pos c]
    exact hno (fun q => by have := q.1; omega)
  · rw [if_neg c]
    have hr : r = edT w t := by omega
    subst hr
    simp (disch := first | assumption | omega | (simp only [gT_sI, gT_sL, gT_sR, gT_sB]; first | assumption | omega)) only [Option.bind_some, ldI_ok, ldL_ok, ldR_ok, ldB_ok, stI_ok, stL_ok, stR_ok, stB_ok, chk_ok, raI_k, raL_k, raR_k, raB_k, waI_k, waL_k, waB_k, waR_k, alen_k, gT_sI, gT_sL, gT_sR, gT_sB, gN_sI, gN_sL, gN_sR, gN_sB, gI_sL, gI_sR, gI_sB, gL_sI, gL_sR, gL_sB, gR_sI, gR_sL, gR_sB, gB_sI, gB_sL, gB_sR, gI_sIs, gL_sLs, gR_sRs, gB_sBs, gI_sIn, gL_sLn, gR_sRn, gB_sBn, rdI_ok, rdL_ok, rdB_ok, wrI_ok, wrL_ok, wrB_ok, B1]
    have hbe : edO w b < 100 := by
      cases b with
      | none => rw [edO_n]; omega
      | some u => have := hE u hS.2.1; rw [edO_s]; omega
    simp only [iLe (show edT w t < 2147483648 by omega) (show edO w b < 2147483648 by omega), iLt (show edT w t < 2147483648 by omega) (show edO w b < 2147483648 by omega)]
    by_cases d : edT w t ≤ edO w b
    · rw [if_pos d]
      rw [show (1 : Int32) = nI 1 from rfl, hho]
      simp only [Option.bind_some]
      have hfin : ∀ z : Int32, (z = 0 ∧ ¬ nbOk w (dfS D v 1) t b) ∨ (z = nI 1 ∧ nbOk w (dfS D v 1) t b) → ∃ σ' b', (if z = 0 then some σ1 else some (sL (sI (sI σ1 (e + 351) 1 (nI (edT w t))) (e + 351) 2 (nI (dfS D v 1 (enc t)))) (e + 351) 3 (lN (enc t)))) = some σ' ∧ Kp (wCm (e + 351)) σ σ' ∧ gN σ' = gN σ ∧ gU σ' = gU σ ∧ nB w (dfS D v 1) S' b' ∧ neB σ' (e + 351) w (dfS D v 1) b' := fun z hz => by
        rcases hz with ⟨rfl, q⟩ | ⟨rfl, q⟩
        · rw [if_pos rfl]
          exact hno q
        · rw [if_neg (by decide)]
          refine ⟨_, some t, rfl, Kp.tr (Kp.tr (Kp.tr k1' (Kp.sI (W := wCm (e + 351)) ?_) (fun _ _ _ _ q => q)) (Kp.sI (W := wCm (e + 351)) ?_) (fun _ _ _ _ q => q)) (Kp.sL (W := wCm (e + 351)) ?_) (fun _ _ _ _ q => q), n1, u1, nB_y hS ht hn hs q, ?_, fun u hu => ?_⟩
          · unfold wCm; omega
          · unfold wCm; omega
          · unfold wCm; omega
          · simp (disch := first | assumption | omega | (simp only [gT_sI, gT_sL, gT_sR, gT_sB]; first | assumption | omega)) only [Option.bind_some, ldI_ok, ldL_ok, ldR_ok, ldB_ok, stI_ok, stL_ok, stR_ok, stB_ok, chk_ok, raI_k, raL_k, raR_k, raB_k, waI_k, waL_k, waB_k, waR_k, alen_k, gT_sI, gT_sL, gT_sR, gT_sB, gN_sI, gN_sL, gN_sR, gN_sB, gI_sL, gI_sR, gI_sB, gL_sI, gL_sR, gL_sB, gR_sI, gR_sL, gR_sB, gB_sI, gB_sL, gB_sR, gI_sIs, gL_sLs, gR_sRs, gB_sBs, gI_sIn, gL_sLn, gR_sRn, gB_sBn, rdI_ok, rdL_ok, rdB_ok, wrI_ok, wrL_ok, wrB_ok]
            rfl
          · cases hu
            simp (disch := first | assumption | omega | (simp only [gT_sI, gT_sL, gT_sR, gT_sB]; first | assumption | omega)) only [Option.bind_some, ldI_ok, ldL_ok, ldR_ok, ldB_ok, stI_ok, stL_ok, stR_ok, stB_ok, chk_ok, raI_k, raL_k, raR_k, raB_k, waI_k, waL_k, waB_k, waR_k, alen_k, gT_sI, gT_sL, gT_sR, gT_sB, gN_sI, gN_sL, gN_sR, gN_sB, gI_sL, gI_sR, gI_sB, gL_sI, gL_sR, gL_sB, gR_sI, gR_sL, gR_sB, gB_sI, gB_sL, gB_sR, gI_sIs, gL_sLs, gR_sRs, gB_sBs, gI_sIn, gL_sLn, gR_sRn, gB_sBn, rdI_ok, rdL_ok, rdB_ok, wrI_ok, wrL_ok, wrB_ok]
            exact ⟨trivial, trivial⟩
      cases b with
      | none =>
        rw [if_pos (show edT w t < edO w none by rw [edO_n]; omega)]
        exact hfin _ (.inr ⟨rfl, by omega, fun u hu => by cases hu⟩)
      | some u =>
        obtain ⟨b2, b3⟩ := B2 u rfl
        have hul := enc_lt hS.2.1.1
        rw [edO_s] at d
        by_cases d1 : edT w t < edO w (some u)
        · rw [if_pos d1]
          exact hfin _ (.inr ⟨rfl, by omega, fun u' hu => by cases hu; exact .inl d1⟩)
        · rw [if_neg d1]
          rw [edO_s] at d1
          have l1 := hdf (enc t)
          have l2 := hdf (enc u)
          simp (disch := first | assumption | omega | (simp only [gT_sI, gT_sL, gT_sR, gT_sB]; first | assumption | omega)) only [Option.bind_some, ldI_ok, ldL_ok, ldR_ok, ldB_ok, stI_ok, stL_ok, stR_ok, stB_ok, chk_ok, raI_k, raL_k, raR_k, raB_k, waI_k, waL_k, waB_k, waR_k, alen_k, gT_sI, gT_sL, gT_sR, gT_sB, gN_sI, gN_sL, gN_sR, gN_sB, gI_sL, gI_sR, gI_sB, gL_sI, gL_sR, gL_sB, gR_sI, gR_sL, gR_sB, gB_sI, gB_sL, gB_sR, gI_sIs, gL_sLs, gR_sRs, gB_sBs, gI_sIn, gL_sLn, gR_sRn, gB_sBn, rdI_ok, rdL_ok, rdB_ok, wrI_ok, wrL_ok, wrB_ok, b2, b3]
          simp (disch := omega) only [iLt, iEq, lLe]
          by_cases d2 : dfS D v 1 (enc u) < dfS D v 1 (enc t)
          · rw [if_pos d2]
            exact hfin _ (.inr ⟨rfl, by omega, fun u' hu => by cases hu; exact .inr ⟨by omega, .inl d2⟩⟩)
          · rw [if_neg d2]
            by_cases d3 : dfS D v 1 (enc t) = dfS D v 1 (enc u)
            · rw [if_neg (by omega)]
              by_cases d4 : enc u ≤ enc t
              · rw [if_pos d4]
                exact hfin _ (.inl ⟨rfl, fun q => by have := q.2 u rfl; unfold nrT at this; omega⟩)
              · rw [if_neg d4]
                exact hfin _ (.inr ⟨rfl, by omega, fun u' hu => by cases hu; exact .inr ⟨by omega, .inr ⟨by omega, by omega⟩⟩⟩)
            · rw [if_pos d3]
              exact hfin _ (.inl ⟨rfl, fun q => by have := q.2 u rfl; unfold nrT at this; omega⟩)
    · rw [if_neg d]
      refine hno (fun q => ?_)
      cases b with
      | none => rw [edO_n] at d; have := q.1; omega
      | some u => rw [edO_s] at d; have := q.2 u rfl; unfold nrT at this; omega
