/-! THE REFERENCE: the least full level, merge, refresh -/
def rSgs (R : RS) (n : Nat) (G : List SegT) : Prop := R.1 0 16 = nI n ∧ ∀ k, k < n → rSg R k (gA G k)
theorem rSegs.s {R : RS} {G : List SegT} (h : rSegs R G) : rSgs R G.length G := h
theorem M_fourOf_ok {R : RS} {G : List SegT} (hG : rSegs R G) (h16 : G.length ≤ 100) (hlv : ∀ s, s ∈ G → s.1 < 6) : M_fourOf R = some (if four G < 6 then nI (four G) else -1) := by
  have hlv' : ∀ k, k < G.length → (gA G k).1 < 6 := fun k hk => hlv _ (gA_mem hk)
  have hcl : ∀ l, lvc G l G.length ≤ 100 := fun l => Nat.le_trans (cN_le _ _) h16
  have hin : ∀ s, s < G.length → ∀ x1, lp (fun q : Int32 × Int32 => M_fourOf_l17 R x1 (nI s) q.1 q.2) (nI 0, nI 0) = some (nI (lvc G (gA G s).1 G.length)) := fun s hs x1 => by
    refine lp_sum (c := fun k => if decide ((gA G k).1 = (gA G s).1) = true then 1 else 0) G.length 0 (fun k hk => ?_) ?_
    · rw [Nat.zero_add]
      have a1 := hlv' k hk
      have a2 := hlv' s hs
      unfold M_fourOf_l17
      rw [hG.1]
      simp (disch := first | assumption | omega | (simp only [gT_sI, gT_sL, gT_sR, gT_sB]; first | assumption | omega)) only [Option.bind_some, ldI_ok, ldL_ok, ldR_ok, ldB_ok, stI_ok, stL_ok, stR_ok, stB_ok, chk_ok, raI_k, raL_k, raR_k, raB_k, waI_k, waL_k, waB_k, waR_k, alen_k, gT_sI, gT_sL, gT_sR, gT_sB, gN_sI, gN_sL, gN_sR, gN_sB, gI_sL, gI_sR, gI_sB, gL_sI, gL_sR, gL_sB, gR_sI, gR_sL, gR_sB, gB_sI, gB_sL, gB_sR, gI_sIs, gL_sLs, gR_sRs, gB_sBs, gI_sIn, gL_sLn, gR_sRn, gB_sBn, rdI_ok, rdL_ok, rdB_ok, wrI_ok, wrL_ok, wrB_ok, (hG.2 k hk).1, (hG.2 s hs).1]
      simp (disch := omega) only [nl, nI_add, nI_mul, iSub, iEq, iLe, iLt, iEqN, iNEq, iNN, iLtN, iNLt, iLeN, iNLe, iAddN, iNAdd, iMin, iMax, iDiv, iRem]
      rw [if_neg (by omega)]
      by_cases c : (gA G k).1 = (gA G s).1
      · simp only [c, if_true, if_false, not_true_eq_false, not_false_eq_true, true_and, and_true, false_and, and_false, true_or, or_true, false_or, or_false, decide_true, decide_false, Bool.false_eq_true, reduceCtorEq, Option.bind_some, Option.map_some, Option.map_none, Option.bind_none, jn_l, jn_r, jn_n, se_l, se_r, nI_add]
      · simp only [c, if_true, if_false, not_true_eq_false, not_false_eq_true, true_and, and_true, false_and, and_false, true_or, or_true, false_or, or_false, decide_true, decide_false, Bool.false_eq_true, reduceCtorEq, Option.bind_some, Option.map_some, Option.map_none, Option.bind_none, jn_l, jn_r, jn_n, se_l, se_r, nI_add]
    · rw [Nat.zero_add]
      unfold M_fourOf_l17
      rw [hG.1]
      simp (disch := omega) only [nl, nI_add, nI_mul, iSub, iEq, iLe, iLt, iEqN, iNEq, iNN, iLtN, iNLt, iLeN, iNLe, iAddN, iNAdd, iMin, iMax, iDiv, iRem]
      rw [if_pos (by omega)]
      rfl
  have hlp := lp_for (f := fun q : Int32 × Int32 => M_fourOf_l4 R q.1 q.2) (fun s (x : Int32) => (x, nI s)) G.length (fun s x => (x = -1 ∧ ∀ k, k < s → lvc G (gA G k).1 G.length < 4) ∨ ∃ v, x = nI v ∧ v < 6 ∧ 4 ≤ lvc G v G.length ∧ ∀ k, k < s → 4 ≤ lvc G (gA G k).1 G.length → v ≤ (gA G k).1) (fun b => b = if four G < 6 then nI (four G) else -1) (fun s x hs hI => ?_) (fun x hI => ?_) G.length 0 (-1) (by omega) (Or.inl ⟨rfl, fun k hk => absurd hk (by omega)⟩)
  · obtain ⟨b, hb, rfl⟩ := hlp
    unfold M_fourOf
    rw [show (0 : Int32) = nI 0 from rfl, hb]
    rfl
  · left
    have a1 := hlv' s hs
    unfold M_fourOf_l4
    rw [hG.1]
    simp only [iLe (show G.length < 2147483648 by omega) (show s < 2147483648 by omega)]
    rw [if_neg (by omega), show (0 : Int32) = nI 0 from rfl, hin s hs x]
    have c4 : (nI (lvc G (gA G s).1 G.length) < 4) = (lvc G (gA G s).1 G.length < 4) := iLt (b := 4) (by have := hcl (gA G s).1; omega) (by omega)
    simp only [Option.bind_some, c4]
    by_cases c : lvc G (gA G s).1 G.length < 4
    · rw [if_pos c]
      refine ⟨x, by simp only [Option.bind_some, nl, nI_add], ?_⟩
      rcases hI with ⟨h1, h2⟩ | ⟨v, h1, h2, h3, h4⟩
      · refine Or.inl ⟨h1, fun k hk => ?_⟩
        by_cases q : k = s
        · rw [q]; exact c
        · exact h2 k (by omega)
      · refine Or.inr ⟨v, h1, h2, h3, fun k hk hk2 => ?_⟩
        by_cases q : k = s
        · rw [q] at hk2; omega
        · exact h4 k (by omega) hk2
    · rw [if_neg c]
      rcases hI with ⟨h1, h2⟩ | ⟨v, h1, h2, h3, h4⟩
      · rw [if_pos h1]
        simp only [jn_r]
        simp (disch := first | assumption | omega | (simp only [gT_sI, gT_sL, gT_sR, gT_sB]; first | assumption | omega)) only [Option.bind_some, ldI_ok, ldL_ok, ldR_ok, ldB_ok, stI_ok, stL_ok, stR_ok, stB_ok, chk_ok, raI_k, raL_k, raR_k, raB_k, waI_k, waL_k, waB_k, waR_k, alen_k, gT_sI, gT_sL, gT_sR, gT_sB, gN_sI, gN_sL, gN_sR, gN_sB, gI_sL, gI_sR, gI_sB, gL_sI, gL_sR, gL_sB, gR_sI, gR_sL, gR_sB, gB_sI, gB_sL, gB_sR, gI_sIs, gL_sLs, gR_sRs, gB_sBs, gI_sIn, gL_sLn, gR_sRn, gB_sBn, rdI_ok, rdL_ok, rdB_ok, wrI_ok, wrL_ok, wrB_ok, (hG.2 s hs).1]
        refine ⟨nI (gA G s).1, by simp only [nl, nI_add], Or.inr ⟨_, rfl, a1, by omega, fun k hk hk2 => ?_⟩⟩
        by_cases q : k = s
        · rw [q]; exact Nat.le_refl _
        · have := h2 k (by omega)
          omega
      · subst h1
        have n1 : ¬ nI v = -1 := by
          have := iEqN (a := v) (b := 1) (by omega) (by omega)
          intro q
          exact absurd q (by rw [show (-1 : Int32) = -nI 1 from rfl, this]; exact not_false)
        rw [if_neg n1]
        simp (disch := first | assumption | omega | (simp only [gT_sI, gT_sL, gT_sR, gT_sB]; first | assumption | omega)) only [Option.bind_some, ldI_ok, ldL_ok, ldR_ok, ldB_ok, stI_ok, stL_ok, stR_ok, stB_ok, chk_ok, raI_k, raL_k, raR_k, raB_k, waI_k, waL_k, waB_k, waR_k, alen_k, gT_sI, gT_sL, gT_sR, gT_sB, gN_sI, gN_sL, gN_sR, gN_sB, gI_sL, gI_sR, gI_sB, gL_sI, gL_sR, gL_sB, gR_sI, gR_sL, gR_sB, gB_sI, gB_sL, gB_sR, gI_sIs, gL_sLs, gR_sRs, gB_sBs, gI_sIn, gL_sLn, gR_sRn, gB_sBn, rdI_ok, rdL_ok, rdB_ok, wrI_ok, wrL_ok, wrB_ok, (hG.2 s hs).1]
        simp only [iLe (show v < 2147483648 by omega) (show (gA G s).1 < 2147483648 by omega)]
        by_cases q : v ≤ (gA G s).1
        · rw [if_pos q]
          refine ⟨nI v, by simp only [jn_l, Option.bind_some, nl, nI_add], Or.inr ⟨v, rfl, h2, h3, fun k hk hk2 => ?_⟩⟩
          by_cases z : k = s
          · rw [z]; exact q
          · exact h4 k (by omega) hk2
        · rw [if_neg q]
          refine ⟨nI (gA G s).1, by simp only [jn_r, Option.bind_some, nl, nI_add], Or.inr ⟨_, rfl, a1, by omega, fun k hk hk2 => ?_⟩⟩
          by_cases z : k = s
          · rw [z]; exact Nat.le_refl _
          · have := h4 k (by omega) hk2
            omega
  · refine ⟨x, ?_, ?_⟩
    · unfold M_fourOf_l4
      rw [hG.1]
      simp only [iLe (show G.length < 2147483648 by omega) (show G.length < 2147483648 by omega)]
      rw [if_pos (Nat.le_refl _)]
    · have hex : ∀ l, 4 ≤ lvc G l G.length → ∃ k, k < G.length ∧ (gA G k).1 = l := fun l hl => by
        obtain ⟨k, h1, h2⟩ := cN_pos.mp (show 0 < cN (fun k => decide ((gA G k).1 = l)) G.length by unfold lvc at hl; omega)
        exact ⟨k, h1, of_decide_eq_true h2⟩
      rcases hI with ⟨h1, h2⟩ | ⟨v, h1, h2, h3, h4⟩
      · have : four G = 6 := run_eq (by omega) (by omega) (fun l _ _ => by
          rw [decide_eq_true_eq]
          apply Nat.lt_of_not_le
          intro q
          obtain ⟨k, k1, k2⟩ := hex l q
          have := h2 k k1
          rw [k2] at this
          omega) (fun q => by omega)
        rw [if_neg (by omega)]
        exact h1
      · have : four G = v := run_eq (by omega) (by omega) (fun l _ hl => by
          rw [decide_eq_true_eq]
          apply Nat.lt_of_not_le
          intro q
          obtain ⟨k, k1, k2⟩ := hex l q
          have := h4 k k1 (by rw [k2]; exact q)
          omega) (fun _ => by
          rw [decide_eq_false_iff_not]
          omega)
        rw [this, if_pos h2]
        exact h1
theorem Rp.w2I {W : Nat → Nat → Nat → Prop} {R : RS} {b k b' k' : Nat} {v v' : Int32} (h : W 0 b k) (h' : W 0 b' k') : Rp W R (up2 (up2 R.1 b k v) b' k' v', R.2) := Rp.tr (R' := (up2 R.1 b k v, R.2)) (Rp.wI h) (Rp.wI h') (fun _ _ _ q => q)
/-- where merging writes -/
def wMg : Nat → Nat → Nat → Prop := fun t c k => t = 0 ∧ ((c = 0 ∧ (k = 16 ∨ k = 20)) ∨ (12 ≤ c ∧ c ≤ 14) ∨ c = 28)
def rJn (R : RS) (g : List Nat) : Prop := ∀ k, k < g.length → R.1 28 k = nI (g.getD k 0)
theorem M_gather_ok {R : RS} {D : List DocT} {dl : Nat → Bool} {g : List Nat} {x : SegT} {i : Nat} (hD : rDocs R D dl) (hDL : D.length ≤ 400) (hx : rSg R i x) (hi : i < 400) (hds : ∀ d, d ∈ x.2 → d < D.length) (hg : rJn R g) (hl : g.length + x.2.length ≤ 400) (x1 x3 x4 x5 x7 : Int32) : ∃ R', lp (fun q : Int32 × Int32 × RS => M_merge_l63 q.2.2 x1 q.1 x3 x4 x5 (nI i) x7 q.2.1) (nI g.length, nI 0, R) = some (nI (g ++ liv dl x.2).length, R') ∧ Rp (fun t c _ => t = 0 ∧ c = 28) R R' ∧ rJn R' (g ++ liv dl x.2) := by
  have := lp_for (f := fun q : Int32 × Int32 × RS => M_merge_l63 q.2.2 x1 q.1 x3 x4 x5 (nI i) x7 q.2.1) (fun k (Y : RS) => (nI (g ++ liv dl (x.2.take k)).length, nI k, Y)) x.2.length (fun k Y => Rp (fun t c _ => t = 0 ∧ c = 28) R Y ∧ rJn Y (g ++ liv dl (x.2.take k))) (fun z => ∃ R', z = (nI (g ++ liv dl x.2).length, R') ∧ Rp (fun t c _ => t = 0 ∧ c = 28) R R' ∧ rJn R' (g ++ liv dl x.2)) (fun k Y hk hI => ?_) (fun Y hI => ?_) x.2.length 0 R (by omega) ⟨Rp.rf, by simpa [liv] using hg⟩
  · obtain ⟨b, hb, R', rfl, h1, h2⟩ := this
    simp only [List.take_zero, liv, List.filter_nil, List.append_nil] at hb
    exact ⟨R', hb, h1, h2⟩
  · left
    obtain ⟨y1, y2⟩ := hI
    have hY := hx.rp y1 (by omega) (by omega) (fun _ _ => by omega)
    have hDY := hD.rp y1 (by omega) (fun _ _ _ _ _ => by omega)
    obtain ⟨h1, h2, h3⟩ := hY
    have hdk := hds _ (getD_mem (d := 0) hk)
    have h3k := h3 k hk
    have h5 := (hDY.2.1 _ hdk).2.2.2
    have hll := liv_len dl (x.2.take k)
    rw [List.length_take] at hll
    rw [take_s hk, liv_app, ← List.append_assoc]
    have hlen : (g ++ liv dl (x.2.take k)).length < 400 := by rw [List.length_append]; omega
    generalize g ++ liv dl (x.2.take k) = L at *
    generalize x.2.getD k 0 = d at *
    unfold M_merge_l63
    simp (disch := first | assumption | omega | (simp only [gT_sI, gT_sL, gT_sR, gT_sB]; first | assumption | omega)) only [Option.bind_some, ldI_ok, ldL_ok, ldR_ok, ldB_ok, stI_ok, stL_ok, stR_ok, stB_ok, chk_ok, raI_k, raL_k, raR_k, raB_k, waI_k, waL_k, waB_k, waR_k, alen_k, gT_sI, gT_sL, gT_sR, gT_sB, gN_sI, gN_sL, gN_sR, gN_sB, gI_sL, gI_sR, gI_sB, gL_sI, gL_sR, gL_sB, gR_sI, gR_sL, gR_sB, gB_sI, gB_sL, gB_sR, gI_sIs, gL_sLs, gR_sRs, gB_sBs, gI_sIn, gL_sLn, gR_sRn, gB_sBn, rdI_ok, rdL_ok, rdB_ok, wrI_ok, wrL_ok, wrB_ok, h2]
    simp (disch := omega) only [nl, nI_add, nI_mul, iSub, iEq, iLe, iLt, iEqN, iNEq, iNN, iLtN, iNLt, iLeN, iNLe, iAddN, iNAdd, iMin, iMax, iDiv, iRem]
    rw [if_neg (by omega)]
    simp (disch := first | assumption | omega | (simp only [gT_sI, gT_sL, gT_sR, gT_sB]; first | assumption | omega)) only [Option.bind_some, ldI_ok, ldL_ok, ldR_ok, ldB_ok, stI_ok, stL_ok, stR_ok, stB_ok, chk_ok, raI_k, raL_k, raR_k, raB_k, waI_k, waL_k, waB_k, waR_k, alen_k, gT_sI, gT_sL, gT_sR, gT_sB, gN_sI, gN_sL, gN_sR, gN_sB, gI_sL, gI_sR, gI_sB, gL_sI, gL_sR, gL_sB, gR_sI, gR_sL, gR_sB, gB_sI, gB_sL, gB_sR, gI_sIs, gL_sLs, gR_sRs, gB_sBs, gI_sIn, gL_sLn, gR_sRn, gB_sBn, rdI_ok, rdL_ok, rdB_ok, wrI_ok, wrL_ok, wrB_ok, h3k, h5]
    cases hdl : dl d with
    | true =>
      have e1 : liv dl [d] = [] := by simp [liv, hdl]
      rw [e1, List.append_nil]
      simp only [if_true, if_false, not_true_eq_false, not_false_eq_true, true_and, and_true, false_and, and_false, true_or, or_true, false_or, or_false, decide_true, decide_false, Bool.false_eq_true, reduceCtorEq, Option.bind_some, Option.map_some, Option.map_none, Option.bind_none, jn_l, jn_r, jn_n, se_l, se_r]
      exact ⟨Y, rfl, y1, y2⟩
    | false =>
      have e1 : liv dl [d] = [d] := by simp [liv, hdl]
      rw [e1]
      simp only [if_true, if_false, not_true_eq_false, not_false_eq_true, true_and, and_true, false_and, and_false, true_or, or_true, false_or, or_false, decide_true, decide_false, Bool.false_eq_true, reduceCtorEq, Option.bind_some, Option.map_some, Option.map_none, Option.bind_none, jn_l, jn_r, jn_n, se_l, se_r, List.length_append, List.length_singleton, nl, nI_add]
      refine ⟨_, rfl, Rp.tr y1 (Rp.wI (W := fun t c _ => t = 0 ∧ c = 28) ⟨rfl, rfl⟩) (fun _ _ _ q => q), fun j hj => ?_⟩
      rw [List.length_append, List.length_singleton] at hj
      rw [getD_app]
      simp only
      by_cases q : j = L.length
      · subst q
        rw [up2_s, if_neg (by omega), if_pos rfl]
      · rw [up2_ne (by omega), if_pos (by omega)]
        exact y2 j (by omega)
  · obtain ⟨y1, y2⟩ := hI
    rw [List.take_length] at y2 ⊢
    have hY := hx.rp y1 (by omega) (by omega) (fun _ _ => by omega)
    refine ⟨(nI (g ++ liv dl x.2).length, Y), ?_, Y, rfl, y1, y2⟩
    unfold M_merge_l63
    simp (disch := first | assumption | omega | (simp only [gT_sI, gT_sL, gT_sR, gT_sB]; first | assumption | omega)) only [Option.bind_some, ldI_ok, ldL_ok, ldR_ok, ldB_ok, stI_ok, stL_ok, stR_ok, stB_ok, chk_ok, raI_k, raL_k, raR_k, raB_k, waI_k, waL_k, waB_k, waR_k, alen_k, gT_sI, gT_sL, gT_sR, gT_sB, gN_sI, gN_sL, gN_sR, gN_sB, gI_sL, gI_sR, gI_sB, gL_sI, gL_sR, gL_sB, gR_sI, gR_sL, gR_sB, gB_sI, gB_sL, gB_sR, gI_sIs, gL_sLs, gR_sRs, gB_sBs, gI_sIn, gL_sLn, gR_sRn, gB_sBn, rdI_ok, rdL_ok, rdB_ok, wrI_ok, wrL_ok, wrB_ok, hY.2.1]
    simp only [iLe (show x.2.length < 2147483648 by omega) (show x.2.length < 2147483648 by omega)]
    rw [if_pos (Nat.le_refl _)]
theorem M_merge_ok {R : RS} {D : List DocT} {dl : Nat → Bool} {G : List SegT} {l mg : Nat} (hD : rDocs R D dl) (hDL : D.length ≤ 400) (hG : rSegs R G) (hm : R.1 0 20 = nI mg) (hmg : mg < 1000) (h16 : G.length ≤ 16) (hl4 : 4 ≤ lvc G l G.length) (hl : l < 6) (hlv : ∀ s, s ∈ G → s.1 < 6) (hds : ∀ s, s ∈ G → ∀ d, d ∈ s.2 → d < D.length) (htot : tot G ≤ 64) : ∃ R', M_merge R (nI l) = some R' ∧ Rp wMg R R' ∧ rSegs R' (mgS dl l G) ∧ R'.1 0 20 = nI (mg + 1) := by
  have hM := fun i hi => mgI_ok dl l G i hi
  have hlv' : ∀ k, k < G.length → (gA G k).1 < 6 := fun k hk => hlv _ (gA_mem hk)
  have hdl : ∀ k, k < G.length → (gA G k).2.length ≤ 64 := fun k hk => Nat.le_trans (sm_mem (fun s => s.2.length) G _ (gA_mem hk)) htot
  have hgl : ∀ i, i ≤ G.length → (mgI dl l G i).2.2.2.length ≤ 64 := fun i hi => by
    have h8 := (hM i hi).2.2.2.2.2.2.2
    have h4 := (hM i hi).2.2.2.1
    have h9 : tot (G.take i) ≤ tot G := by
      have : tot G = tot (G.take i) + tot (G.drop i) := by
        unfold tot
        rw [← sm_app, List.take_append_drop]
      omega
    by_cases c : (mgI dl l G i).1 = 0
    · rw [if_pos c] at h8; omega
    · rw [if_neg c] at h8
      have := sm_mem (fun s => s.2.length) _ _ (gA_mem (h4 c).1)
      unfold tot at *
      have this : (gA (mgI dl l G i).2.1 (mgI dl l G i).2.2.1).2.length ≤ sm (fun s => s.2.length) (mgI dl l G i).2.1 := this
      omega
  have hKd : ∀ i, i ≤ G.length → ∀ s, s ∈ (mgI dl l G i).2.1 → s.2.length ≤ 64 := fun i hi s hs => Nat.le_trans (sm_mem (fun s => s.2.length) G _ ((hM i hi).2.2.2.2.1 s hs)) htot
  have k1 : Rp wMg R (pI R 20 (R.1 0 20 + 1)) := Rp.pI ⟨rfl, Or.inl ⟨rfl, Or.inr rfl⟩⟩
  obtain ⟨z, hz, z1, z2, z3, z4, z5, z6, z7⟩ : ∃ z, lp (fun q : Int32 × Int32 × Int32 × Int32 × Int32 × RS => M_merge_l23 q.2.2.2.2.2 (nI l) q.1 q.2.1 q.2.2.1 q.2.2.2.1 q.2.2.2.2.1) (nI 0, nI 0, -1, nI 0, nI 0, pI R 20 (R.1 0 20 + 1)) = some z ∧ (z.1 = nI (mgI dl l G G.length).2.2.2.length ∧ z.2.1 = nI (mgI dl l G G.length).2.2.1 ∧ z.2.2.1 = nI (mgI dl l G G.length).2.1.length ∧ Rp wMg R z.2.2.2 ∧ z.2.2.2.1 0 20 = nI (mg + 1) ∧ rJn z.2.2.2 (mgI dl l G G.length).2.2.2 ∧ ∀ k, k < (mgI dl l G G.length).2.1.length → rSg z.2.2.2 k (gA (mgI dl l G G.length).2.1 k)) := by
    have := lp_for (f := fun q : Int32 × Int32 × Int32 × Int32 × Int32 × RS => M_merge_l23 q.2.2.2.2.2 (nI l) q.1 q.2.1 q.2.2.1 q.2.2.2.1 q.2.2.2.2.1) (fun i (Y : RS) => (nI (mgI dl l G i).2.2.2.length, nI (mgI dl l G i).1, (if (mgI dl l G i).1 = 0 then -1 else nI (mgI dl l G i).2.2.1), nI (mgI dl l G i).2.1.length, nI i, Y)) G.length (fun i Y => Rp wMg R Y ∧ Y.1 0 20 = nI (mg + 1) ∧ Y.1 0 16 = nI G.length ∧ rJn Y (mgI dl l G i).2.2.2 ∧ (∀ k, k < (mgI dl l G i).2.1.length → rSg Y k (gA (mgI dl l G i).2.1 k)) ∧ ∀ k, i ≤ k → k < G.length → rSg Y k (gA G k)) (fun z => z.1 = nI (mgI dl l G G.length).2.2.2.length ∧ z.2.1 = nI (mgI dl l G G.length).2.2.1 ∧ z.2.2.1 = nI (mgI dl l G G.length).2.1.length ∧ Rp wMg R z.2.2.2 ∧ z.2.2.2.1 0 20 = nI (mg + 1) ∧ rJn z.2.2.2 (mgI dl l G G.length).2.2.2 ∧ ∀ k, k < (mgI dl l G G.length).2.1.length → rSg z.2.2.2 k (gA (mgI dl l G G.length).2.1 k)) (fun i Y hi hI => ?_) (fun Y hI => ?_) G.length 0 (pI R 20 (R.1 0 20 + 1)) (by omega) ⟨k1, by rw [hm]; simp only [pI, pL, pB, up2_s, up2_ne, nl, nI_add], by simp (disch := omega) only [pI, pL, pB, up2_s, up2_ne]; exact hG.1, fun k hk => absurd hk (by simp [mgI]), fun k hk => absurd hk (by simp [mgI]), fun k _ hk => (hG.2 k hk)⟩
    · exact this
    · left
      obtain ⟨y1, y2, y3, y4, y5, y6⟩ := hI
      have hDY := hD.rp y1 (by unfold wMg; omega) (fun _ _ _ _ _ => by unfold wMg; omega)
      have hxi := y6 i (Nat.le_refl _) hi
      obtain ⟨b1, b2, b3, b4, b5, b6, -, -⟩ := hM i (by omega)
      have hgi := hgl (i + 1) (by omega)
      have hgi0 := hgl i (by omega)
      have hlvi := hlv' i hi
      have hdli := hdl i hi
      have est : mgI dl l G (i + 1) = mgStep dl l (mgI dl l G i) (gA G i) := rfl
      have hKdi := hKd i (by omega)
      rw [est] at hgi ⊢
      generalize mgI dl l G i = M at *
      obtain ⟨m, K, p, g⟩ := M
      simp only at b1 b2 b3 b4 b5 b6 y4 y5 hgi0 hKdi ⊢
      have hKi : K.length ≤ i := by
        by_cases q : m = 0
        · rw [if_pos q] at b2; omega
        · rw [if_neg q] at b2; omega
      have hKd' : ∀ k, k < K.length → (gA K k).2.length ≤ 64 := fun k hk => hKdi _ (gA_mem hk)
      unfold M_merge_l23
      rw [y3]
      simp only [iLe (show G.length < 2147483648 by omega) (show i < 2147483648 by omega)]
      rw [if_neg (by omega)]
      simp (disch := first | assumption | omega | (simp only [gT_sI, gT_sL, gT_sR, gT_sB]; first | assumption | omega)) only [Option.bind_some, ldI_ok, ldL_ok, ldR_ok, ldB_ok, stI_ok, stL_ok, stR_ok, stB_ok, chk_ok, raI_k, raL_k, raR_k, raB_k, waI_k, waL_k, waB_k, waR_k, alen_k, gT_sI, gT_sL, gT_sR, gT_sB, gN_sI, gN_sL, gN_sR, gN_sB, gI_sL, gI_sR, gI_sB, gL_sI, gL_sR, gL_sB, gR_sI, gR_sL, gR_sB, gB_sI, gB_sL, gB_sR, gI_sIs, gL_sLs, gR_sRs, gB_sBs, gI_sIn, gL_sLn, gR_sRn, gB_sBn, rdI_ok, rdL_ok, rdB_ok, wrI_ok, wrL_ok, wrB_ok, hxi.1]
      have c4 : (4 ≤ nI m) = (4 ≤ m) := iLe (a := 4) (by omega) (by omega)
      simp only [iEq (show (gA G i).1 < 2147483648 by omega) (show l < 2147483648 by omega), c4]
      by_cases c : (gA G i).1 = l ∧ m < 4
      · obtain ⟨c1, c2⟩ := c
        have e1 : mgStep dl l (m, K, p, g) (gA G i) = (m + 1, (if m = 0 then K ++ [gA G i] else K), (if m = 0 then K.length else p), g ++ liv dl (gA G i).2) := by
          unfold mgStep
          simp only
          rw [if_pos ⟨c1, c2⟩]
        rw [if_neg (fun q => q c1), if_neg (by omega)]
        have n10 : ¬ (1 : Int32) = 0 := by decide
        simp only [Option.bind_some, n10, if_false]
        obtain ⟨Y2, e2, k2, g2⟩ := M_gather_ok hDY hDL hxi (by omega) (hds _ (gA_mem hi)) y4 (by omega) (nI l) (nI m) (if m = 0 then -1 else nI p) (nI K.length) 1
        rw [show (0 : Int32) = nI 0 from rfl, e2]
        rw [e1]
        simp only [Option.bind_some, jn_r]
        have kY : Rp wMg R Y2 := Rp.tr y1 k2 (fun t c k q => by unfold wMg; omega)
        have i20 : Y2.1 0 20 = nI (mg + 1) := by rw [k2.I (by decide) (by omega)]; exact y2
        have i16 : Y2.1 0 16 = nI G.length := by rw [k2.I (by decide) (by omega)]; exact y3
        have sK : ∀ k, k < K.length → rSg Y2 k (gA K k) := fun k hk => (y5 k hk).rp k2 (by omega) (by omega) (fun _ _ => by omega)
        have sG : ∀ k, i ≤ k → k < G.length → rSg Y2 k (gA G k) := fun k h1 h2 => (y6 k h1 h2).rp k2 (by omega) (by omega) (fun _ _ => by omega)
        by_cases q : m = 0
        · subst q
          have hKe : K.length = i := by rw [if_pos rfl] at b2; omega
          simp only [if_true]
          obtain ⟨Y3, e3, k3, s3⟩ := M_move_ok (a := i) (b := K.length) (by omega) (by omega) (by omega) (sG i (Nat.le_refl _) hi)
          rw [e3]
          simp only [Option.bind_some, nl, nI_add, List.length_append, List.length_singleton, Nat.zero_add]
          rw [if_neg (by omega)]
          refine ⟨Y3, rfl, Rp.tr kY k3 (fun t c k q => by unfold wMv at q; unfold wMg; omega), ?_, ?_, fun k hk => ?_, fun k hk => ?_, fun k h1 h2 => ?_⟩
          · rw [k3.I (by decide) (by unfold wMv; omega)]; exact i20
          · rw [k3.I (by decide) (by unfold wMv; omega)]; exact i16
          · rw [k3.I (by decide) (by unfold wMv; omega)]; exact g2 k hk
          · rw [gA_app]
            by_cases z : k < K.length
            · rw [if_pos z]
              have := hKd' k z
              exact (sK k z).rp k3 (by unfold wMv; omega) (by unfold wMv; omega) (fun _ _ => by unfold wMv; omega)
            · rw [if_neg z, if_pos (by omega), show k = K.length by omega]
              exact s3
          · have := hdl k h2
            exact (sG k (by omega) h2).rp k3 (by unfold wMv; omega) (by unfold wMv; omega) (fun _ _ => by unfold wMv; omega)
        · have n1 : ¬ nI p = -1 := by
            have hp := (b4 q).1
            have := iEqN (a := p) (b := 1) (by omega) (by omega)
            intro q
            exact absurd q (by rw [show (-1 : Int32) = -nI 1 from rfl, this]; exact not_false)
          simp only [q, if_false]
          rw [if_neg n1]
          simp only [jn_l, Option.bind_some, nl, nI_add]
          rw [if_neg (by omega)]
          exact ⟨Y2, rfl, kY, i20, i16, g2, sK, fun k h1 h2 => sG k (by omega) h2⟩
      · have e1 : mgStep dl l (m, K, p, g) (gA G i) = (m, K ++ [gA G i], p, g) := by
          unfold mgStep
          simp only
          rw [if_neg c]
        have e0 : (if ¬ (gA G i).1 = l then some (0 : Int32) else if 4 ≤ m then some 0 else some 1) = some 0 := by
          by_cases q : (gA G i).1 = l
          · rw [if_neg (fun z => z q), if_pos (by omega)]
          · rw [if_pos q]
        rw [e0]
        simp only [Option.bind_some, if_true, jn_r]
        obtain ⟨Y3, e3, k3, s3⟩ := M_move_ok (a := i) (b := K.length) (by omega) (by omega) (by omega) hxi
        rw [e3, e1]
        simp only [Option.bind_some, nl, nI_add, List.length_append, List.length_singleton]
        refine ⟨Y3, rfl, Rp.tr y1 k3 (fun t c k q => by unfold wMv at q; unfold wMg; omega), ?_, ?_, fun k hk => ?_, fun k hk => ?_, fun k h1 h2 => ?_⟩
        · rw [k3.I (by decide) (by unfold wMv; omega)]; exact y2
        · rw [k3.I (by decide) (by unfold wMv; omega)]; exact y3
        · rw [k3.I (by decide) (by unfold wMv; omega)]; exact y4 k hk
        · rw [gA_app]
          by_cases z : k < K.length
          · rw [if_pos z]
            have := hKd' k z
            exact (y5 k z).rp k3 (by unfold wMv; omega) (by unfold wMv; omega) (fun _ _ => by unfold wMv; omega)
          · rw [if_neg z, if_pos (by omega), show k = K.length by omega]
            exact s3
        · have := hdl k h2
          exact (y6 k (by omega) h2).rp k3 (by unfold wMv; omega) (by unfold wMv; omega) (fun _ _ => by unfold wMv; omega)
    · obtain ⟨y1, y2, y3, y4, y5, y6⟩ := hI
      have h4m := (hM G.length (Nat.le_refl _)).1
      have hm4 : (mgI dl l G G.length).1 ≠ 0 := by omega
      refine ⟨(nI (mgI dl l G G.length).2.2.2.length, nI (mgI dl l G G.length).2.2.1, nI (mgI dl l G G.length).2.1.length, Y), ?_, rfl, rfl, rfl, y1, y2, y4, y5⟩
      unfold M_merge_l23
      rw [y3]
      simp only [iLe (show G.length < 2147483648 by omega) (show G.length < 2147483648 by omega)]
      rw [if_pos (Nat.le_refl _), if_neg hm4]
  obtain ⟨b1, b2, b3, b4, b5, b6, -, -⟩ := hM G.length (Nat.le_refl _)
  have hgl' := hgl G.length (Nat.le_refl _)
  have hKd' := hKd G.length (Nat.le_refl _)
  have hfin := mgS_ok dl hl4
  unfold mgS at hfin ⊢
  generalize mgI dl l G G.length = M at *
  obtain ⟨m, K, p, g⟩ := M
  simp only at b1 b2 b3 b4 b5 b6 z1 z2 z3 z6 z7 hgl' hKd' hfin ⊢
  have m4 : m = 4 := by omega
  obtain ⟨b7, b8⟩ := b4 (by omega)
  rw [if_neg (by omega)] at b2
  have hKl : K.length ≤ 16 := by omega
  have hKd'' : ∀ k, k < K.length → (gA K k).2.length ≤ 64 := fun k hk => hKd' _ (gA_mem hk)
  obtain ⟨zn, zp, zk, Z⟩ := z
  simp only at z1 z2 z3 z4 z5 z6 z7
  subst z1 z2 z3
  unfold M_merge
  simp only [Option.bind_some]
  rw [show (0 : Int32) = nI 0 from rfl, hz]
  simp only [Option.bind_some]
  simp (disch := first | assumption | omega | (simp only [gT_sI, gT_sL, gT_sR, gT_sB]; first | assumption | omega)) only [Option.bind_some, ldI_ok, ldL_ok, ldR_ok, ldB_ok, stI_ok, stL_ok, stR_ok, stB_ok, chk_ok, raI_k, raL_k, raR_k, raB_k, waI_k, waL_k, waB_k, waR_k, alen_k, gT_sI, gT_sL, gT_sR, gT_sB, gN_sI, gN_sL, gN_sR, gN_sB, gI_sL, gI_sR, gI_sB, gL_sI, gL_sR, gL_sB, gR_sI, gR_sL, gR_sB, gB_sI, gB_sL, gB_sR, gI_sIs, gL_sLs, gR_sRs, gB_sBs, gI_sIn, gL_sLn, gR_sRn, gB_sBn, rdI_ok, rdL_ok, rdB_ok, wrI_ok, wrL_ok, wrB_ok]
  simp only [nl, nI_add]
  generalize hZ3 : ((up2 (up2 (pI Z 16 (nI K.length)).1 12 p (nI (l + 1))) 13 p (nI g.length), (pI Z 16 (nI K.length)).2) : RS) = Z3
  have k3 : Rp wMg R Z3 := by
    rw [← hZ3]
    exact Rp.tr (Rp.tr z4 (Rp.pI (W := wMg) ⟨rfl, Or.inl ⟨rfl, Or.inl rfl⟩⟩) (fun _ _ _ q => q)) (Rp.w2I (W := wMg) ⟨rfl, Or.inr (Or.inl ⟨by decide, by decide⟩)⟩ ⟨rfl, Or.inr (Or.inl ⟨by decide, by decide⟩)⟩) (fun _ _ _ q => q)
  have i16 : Z3.1 0 16 = nI K.length := by rw [← hZ3]; simp (disch := omega) only [pI, pL, pB, up2_s, up2_ne]
  have i20 : Z3.1 0 20 = nI (mg + 1) := by rw [← hZ3]; simp (disch := omega) only [pI, pL, pB, up2_s, up2_ne]; exact z5
  have p12 : Z3.1 12 p = nI (l + 1) := by rw [← hZ3]; simp (disch := omega) only [pI, pL, pB, up2_s, up2_ne]
  have p13 : Z3.1 13 p = nI g.length := by rw [← hZ3]; simp (disch := omega) only [pI, pL, pB, up2_s, up2_ne]
  have j3 : rJn Z3 g := fun k hk => by rw [← hZ3]; simp (disch := omega) only [pI, pL, pB, up2_s, up2_ne]; exact z6 k hk
  have s3 : ∀ k, k < K.length → k ≠ p → rSg Z3 k (gA K k) := fun k hk hkp => by
    obtain ⟨a1, a2, a3⟩ := z7 k hk
    rw [← hZ3]
    refine ⟨?_, ?_, fun i hi => ?_⟩
    · simp (disch := omega) only [pI, pL, pB, up2_s, up2_ne]; exact a1
    · simp (disch := omega) only [pI, pL, pB, up2_s, up2_ne]; exact a2
    · simp (disch := omega) only [pI, pL, pB, up2_s, up2_ne]; exact a3 i hi
  clear hZ3
  obtain ⟨z8, hz8, w1, w2, w3, w4⟩ : ∃ z, lp (fun q : Int32 × RS => M_merge_l199 q.2 (nI g.length) (nI p) q.1) (nI 0, Z3) = some z ∧ (Rp wMg R z ∧ z.1 0 16 = nI K.length ∧ z.1 0 20 = nI (mg + 1) ∧ ∀ k, k < K.length → rSg z k (if k = p then (l + 1, g) else gA K k)) := by
    refine lp_for (fun i Y => (nI i, Y)) g.length (fun i Y => Rp wMg R Y ∧ Y.1 0 16 = nI K.length ∧ Y.1 0 20 = nI (mg + 1) ∧ rJn Y g ∧ Y.1 12 p = nI (l + 1) ∧ Y.1 13 p = nI g.length ∧ (∀ j, j < i → Y.1 14 (400 * p + j) = nI (g.getD j 0)) ∧ ∀ k, k < K.length → k ≠ p → rSg Y k (gA K k)) _ (fun i Y hi hI => ?_) (fun Y hI => ?_) g.length 0 _ (by omega) ⟨k3, i16, i20, j3, p12, p13, fun j hj => absurd hj (by omega), s3⟩
    · left
      obtain ⟨y1, y2, y3, y4, y5, y6, y7, y8⟩ := hI
      unfold M_merge_l199
      simp (disch := omega) only [nl, nI_add, nI_mul, iSub, iEq, iLe, iLt, iEqN, iNEq, iNN, iLtN, iNLt, iLeN, iNLe, iAddN, iNAdd, iMin, iMax, iDiv, iRem]
      rw [if_neg (by omega)]
      simp (disch := first | assumption | omega | (simp only [gT_sI, gT_sL, gT_sR, gT_sB]; first | assumption | omega)) only [Option.bind_some, ldI_ok, ldL_ok, ldR_ok, ldB_ok, stI_ok, stL_ok, stR_ok, stB_ok, chk_ok, raI_k, raL_k, raR_k, raB_k, waI_k, waL_k, waB_k, waR_k, alen_k, gT_sI, gT_sL, gT_sR, gT_sB, gN_sI, gN_sL, gN_sR, gN_sB, gI_sL, gI_sR, gI_sB, gL_sI, gL_sR, gL_sB, gR_sI, gR_sL, gR_sB, gB_sI, gB_sL, gB_sR, gI_sIs, gL_sLs, gR_sRs, gB_sBs, gI_sIn, gL_sLn, gR_sRn, gB_sBn, rdI_ok, rdL_ok, rdB_ok, wrI_ok, wrL_ok, wrB_ok, y4 i hi]
      have kw : Rp (fun t c k => t = 0 ∧ c = 14 ∧ k = 400 * p + i) Y (up2 Y.1 14 (400 * p + i) (nI (g.getD i 0)), Y.2) := Rp.wI ⟨rfl, rfl, rfl⟩
      refine ⟨_, rfl, Rp.tr y1 kw (fun t c k q => by unfold wMg; omega), ?_, ?_, fun j hj => ?_, ?_, ?_, fun j hj => ?_, fun k hk hkp => ?_⟩
      · rw [kw.I (by decide) (by omega)]; exact y2
      · rw [kw.I (by decide) (by omega)]; exact y3
      · rw [kw.I (by decide) (by omega)]; exact y4 j hj
      · rw [kw.I (by decide) (by omega)]; exact y5
      · rw [kw.I (by decide) (by omega)]; exact y6
      · by_cases q : j = i
        · subst q; simp only [pI, pL, pB, up2_s, up2_ne]
        · rw [kw.I (by decide) (by omega)]; exact y7 j (by omega)
      · have := hKd'' k hk
        exact (y8 k hk hkp).rp kw (by omega) (by omega) (fun _ _ => by omega)
    · obtain ⟨y1, y2, y3, y4, y5, y6, y7, y8⟩ := hI
      refine ⟨Y, ?_, y1, y2, y3, fun k hk => ?_⟩
      · unfold M_merge_l199
        simp (disch := omega) only [nl, nI_add, nI_mul, iSub, iEq, iLe, iLt, iEqN, iNEq, iNN, iLtN, iNLt, iLeN, iNLe, iAddN, iNAdd, iMin, iMax, iDiv, iRem]
        rw [if_pos (by omega)]
      · by_cases q : k = p
        · rw [if_pos q, q]
          exact ⟨y5, y6, y7⟩
        · rw [if_neg q]
          exact y8 k hk q
  rw [hz8]
  simp only [Option.bind_some]
  by_cases hg0 : g = []
  · subst hg0
    rw [if_pos rfl] at hfin ⊢
    simp only [List.length_nil] at hz8 ⊢
    rw [if_pos (by decide)]
    have hea : ∀ k, gA (K.eraseIdx p) k = if k < p then gA K k else gA K (k + 1) := fun k => by
      unfold gA
      rw [List.getD_eq_getElem?_getD, List.getElem?_eraseIdx]
      split <;> rw [List.getD_eq_getElem?_getD]
    obtain ⟨z9, hz9, v1, v2, v3, v4⟩ : ∃ z, lp (fun q : Int32 × RS => M_merge_l243 q.2 q.1) (nI (p + 1), z8) = some z ∧ (Rp wMg R z ∧ z.1 0 16 = nI K.length ∧ z.1 0 20 = nI (mg + 1) ∧ ∀ k, k < K.length - 1 → rSg z k (gA (K.eraseIdx p) k)) := by
      have := lp_for (f := fun q : Int32 × RS => M_merge_l243 q.2 q.1) (fun i Y => (nI (p + 1 + i), Y)) (K.length - (p + 1)) (fun i Y => Rp wMg R Y ∧ Y.1 0 16 = nI K.length ∧ Y.1 0 20 = nI (mg + 1) ∧ (∀ k, k < p + i → rSg Y k (gA (K.eraseIdx p) k)) ∧ ∀ k, p + 1 + i ≤ k → k < K.length → rSg Y k (gA K k)) (fun z => Rp wMg R z ∧ z.1 0 16 = nI K.length ∧ z.1 0 20 = nI (mg + 1) ∧ ∀ k, k < K.length - 1 → rSg z k (gA (K.eraseIdx p) k)) (fun i Y hi hI => ?_) (fun Y hI => ?_) (K.length - (p + 1)) 0 z8 (by omega) ⟨w1, w2, w3, fun k hk => by
        have := w4 k (by omega)
        rw [if_neg (by omega)] at this
        rw [hea, if_pos (by omega)]
        exact this, fun k h1 h2 => by
        have := w4 k h2
        rw [if_neg (by omega)] at this
        exact this⟩
      · exact this
      · left
        obtain ⟨y1, y2, y3, y4, y5⟩ := hI
        have hd := hKd'' (p + 1 + i) (by omega)
        unfold M_merge_l243
        rw [y2]
        simp (disch := omega) only [nl, nI_add, nI_mul, iSub, iEq, iLe, iLt, iEqN, iNEq, iNN, iLtN, iNLt, iLeN, iNLe, iAddN, iNAdd, iMin, iMax, iDiv, iRem]
        rw [if_neg (by omega)]
        obtain ⟨Y2, e2, k2, s2⟩ := M_move_ok (a := p + 1 + i) (b := p + 1 + i - 1) (by omega) (by omega) (by omega) (y5 (p + 1 + i) (Nat.le_refl _) (by omega))
        rw [e2]
        refine ⟨Y2, rfl, Rp.tr y1 k2 (fun t c k q => by unfold wMv at q; unfold wMg; omega), ?_, ?_, fun k hk => ?_, fun k h1 h2 => ?_⟩
        · rw [k2.I (by decide) (by unfold wMv; omega)]; exact y2
        · rw [k2.I (by decide) (by unfold wMv; omega)]; exact y3
        · by_cases q : k = p + i
          · subst q
            rw [hea, if_neg (by omega)]
            rw [show p + 1 + i - 1 = p + i by omega, show p + 1 + i = p + i + 1 by omega] at s2
            exact s2
          · have := y4 k (by omega)
            refine this.rp k2 (by unfold wMv; omega) (by unfold wMv; omega) (fun j hj => ?_)
            have hl64 : (gA (K.eraseIdx p) k).2.length ≤ 64 := by
              rw [hea]
              split
              · exact hKd'' _ (by omega)
              · exact hKd'' _ (by omega)
            unfold wMv
            omega
        · have := hKd'' k h2
          exact (y5 k (by omega) h2).rp k2 (by unfold wMv; omega) (by unfold wMv; omega) (fun _ _ => by unfold wMv; omega)
      · obtain ⟨y1, y2, y3, y4, y5⟩ := hI
        refine ⟨Y, ?_, y1, y2, y3, fun k hk => y4 k (by omega)⟩
        unfold M_merge_l243
        rw [y2]
        simp (disch := omega) only [nl, nI_add, nI_mul, iSub, iEq, iLe, iLt, iEqN, iNEq, iNN, iLtN, iNLt, iLeN, iNLe, iAddN, iNAdd, iMin, iMax, iDiv, iRem]
        rw [if_pos (by omega)]
    rw [hz9]
    simp only [Option.bind_some, v2]
    simp (disch := omega) only [iSub]
    have k9 : Rp (fun t c k => t = 0 ∧ c = 0 ∧ k = 16) z9 (pI z9 16 (nI (K.length - 1))) := Rp.pI ⟨rfl, rfl, rfl⟩
    refine ⟨_, rfl, Rp.tr v1 k9 (fun t c k q => by unfold wMg; omega), ⟨?_, fun k hk => ?_⟩, ?_⟩
    · rw [List.length_eraseIdx, if_pos b7]
      simp only [pI, pL, pB, up2_s, up2_ne]
    · rw [List.length_eraseIdx, if_pos b7] at hk
      exact (v4 k hk).rp k9 (by omega) (by omega) (fun _ _ => by omega)
    · rw [k9.I (by decide) (by omega)]; exact v3
  · rw [if_neg hg0] at hfin ⊢
    have hgp : 0 < g.length := List.length_pos_iff.mpr hg0
    have c0 : (nI g.length ≤ nI 0) = (g.length ≤ 0) := iLe (by omega) (by omega)
    simp only [c0]
    rw [if_neg (by omega)]
    refine ⟨z8, rfl, w1, ⟨by rw [List.length_set]; exact w2, fun k hk => ?_⟩, w3⟩
    rw [List.length_set] at hk
    have := w4 k hk
    by_cases q : k = p
    · rw [if_pos q] at this
      have e1 : gA (K.set p (l + 1, g)) k = (l + 1, g) := by
        subst q
        unfold gA
        rw [List.getD_eq_getElem?_getD, List.getElem?_set_self hk]
        rfl
      rw [e1]
      exact this
    · rw [if_neg q] at this
      have e1 : gA (K.set p (l + 1, g)) k = gA K k := by
        unfold gA
        rw [List.getD_eq_getElem?_getD, List.getD_eq_getElem?_getD, List.getElem?_set_ne (by omega)]
      rw [e1]
      exact this
theorem M_merges_ok {D : List DocT} {dl : Nat → Bool} (hDL : D.length ≤ 400) : ∀ (f : Nat) (R : RS) (G : List SegT) (mg : Nat), rDocs R D dl → rSegs R G → R.1 0 20 = nI mg → mg + f < 900 → G.length ≤ 16 → mass G ≤ 64 → (∀ s, s ∈ G → ∀ d, d ∈ s.2 → d < D.length) → tot G ≤ 64 → G.length < 3 * f + 4 → ∃ R', lp (fun q : Int32 × RS => M_refresh_l87 q.2 q.1) ((if four G < 6 then nI (four G) else -1), R) = some R' ∧ Rp wMg R R' ∧ rSegs R' (mgL dl f G mg).1 ∧ R'.1 0 20 = nI (mgL dl f G mg).2
  | 0, R, G, mg, hD, hG, hm, hmg, h16, hma, hds, ht, hf => by
    have h6 : ¬ four G < 6 := fun c => by
      have h2 := four_at c
      have h3 := cN_le (fun k => decide ((gA G k).1 = four G)) G.length
      unfold lvc at h2
      omega
    refine ⟨R, ?_, Rp.rf, hG, hm⟩
    rw [if_neg h6]
    refine lp_out ?_
    unfold M_refresh_l87
    rw [if_pos rfl]
  | f + 1, R, G, mg, hD, hG, hm, hmg, h16, hma, hds, ht, hf => by
    rw [mgL]
    by_cases c : four G < 6
    · rw [if_pos c, if_pos c]
      have hlv : ∀ s, s ∈ G → s.1 < 6 := fun s hs => by have := lv_le hma hs; omega
      obtain ⟨a1, a2, a3, a4⟩ := mgS_ok dl (four_at c)
      obtain ⟨R1, e1, k1, g1, m1⟩ := M_merge_ok hD hDL hG hm (by omega) h16 (four_at c) c hlv hds ht
      have hds1 : ∀ s, s ∈ mgS dl (four G) G → ∀ d, d ∈ s.2 → d < D.length := fun s hs d hd => by
        obtain ⟨s', q1, q2⟩ := a2 s hs d hd
        exact hds s' q1 d q2
      have hlv1 : ∀ s, s ∈ mgS dl (four G) G → s.1 < 6 := fun s hs => by have := lv_le (Nat.le_trans a3 hma) hs; omega
      obtain ⟨R2, e2, k2, g2, m2⟩ := M_merges_ok hDL f R1 (mgS dl (four G) G) (mg + 1) (hD.rp k1 (by unfold wMg; omega) (fun _ _ _ _ _ => by unfold wMg; omega)) g1 m1 (by omega) (by omega) (by omega) hds1 (by omega) (by omega)
      refine ⟨R2, ?_, Rp.tr k1 k2 (fun _ _ _ q => q), g2, m2⟩
      rw [← e2]
      refine lp_on ?_
      unfold M_refresh_l87
      have n1 : ¬ nI (four G) = -1 := by
        have := iEqN (a := four G) (b := 1) (by omega) (by omega)
        intro q
        exact absurd q (by rw [show (-1 : Int32) = -nI 1 from rfl, this]; exact not_false)
      rw [if_neg n1, e1]
      simp only [Option.bind_some]
      rw [M_fourOf_ok g1 (by omega) hlv1]
      rfl
    · rw [if_neg c, if_neg c]
      refine ⟨R, ?_, Rp.rf, hG, hm⟩
      refine lp_out ?_
      unfold M_refresh_l87
      rw [if_pos rfl]
theorem bufL_len (D : List DocT) (dl : Nat → Bool) (bs : Nat) : (bufL dl bs D.length).length = bufS D dl bs := by
  unfold bufL bufS
  generalize D.length - bs = k
  induction k with
  | zero => rfl
  | succ k ih =>
    rw [range'_s, liv_app, List.length_append, ih, cN_s]
    congr 1
    unfold liv
    cases hd : dl (bs + k) <;> simp [hd]
theorem M_refresh_ok {R : RS} {tp : Nat → Nat} {n : Nat} {D : List DocT} {dl : Nat → Bool} {bs : Nat} {G : List SegT} {V : Nat → VwT} {A : AnT} {nr : Option (List Nat)} {mg : Nat} {st sp : Bool} (h : rH R tp n D dl bs G V A nr mg st sp) (ok : okG D bs G mg) : ∃ R', M_refresh R = some (nI (flS dl bs D.length G mg).1.length, R') ∧ rH R' tp n D dl D.length (flS dl bs D.length G mg).1 V A nr (flS dl bs D.length G mg).2 st sp := by
  obtain ⟨h1, h2, h3, h4, h5, h6, h7, h8, h9, h10⟩ := h
  obtain ⟨o1, o2, o3, o4, o5, o6, o7, o8⟩ := ok
  have hbl := bufL_len D dl bs
  have hbs : bufS D dl bs ≤ D.length - bs := cN_le _ _
  -- the new segment
  let wR : Nat → Nat → Nat → Prop := fun t c k => wMg t c k ∨ (t = 0 ∧ c = 0 ∧ k = 15)
  obtain ⟨R1, e1, k1, G1, m1⟩ : ∃ R1, (if nI (bufS D dl bs) ≤ 0 then some R else (some (pI R 16 ((R.1 0 16) + 1))).bind fun R4 => (wrI R4 12 420 (R.1 0 16) 0).bind fun R5 => (wrI R5 13 420 (R.1 0 16) 0).bind fun R6 => (lp (fun q => M_refresh_l38 q.2 (R.1 0 16) q.1) (0, R6)).bind fun z15 => some z15) = some R1 ∧ Rp wMg R R1 ∧ rSegs R1 (flG dl bs D.length G) ∧ R1.1 0 20 = nI mg := by
    have c0 : (nI (bufS D dl bs) ≤ 0) = (bufS D dl bs ≤ 0) := iLe (b := 0) (by omega) (by omega)
    simp only [c0]
    unfold flG
    by_cases c : bufL dl bs D.length = []
    · rw [if_pos c, if_pos (by rw [← hbl, c]; exact Nat.le_refl _)]
      exact ⟨R, rfl, Rp.rf, h4, h8⟩
    · have hp : 0 < (bufL dl bs D.length).length := List.length_pos_iff.mpr c
      rw [if_neg c, if_neg (by omega), h4.1]
      simp only [Option.bind_some]
      simp (disch := first | assumption | omega | (simp only [gT_sI, gT_sL, gT_sR, gT_sB]; first | assumption | omega)) only [Option.bind_some, ldI_ok, ldL_ok, ldR_ok, ldB_ok, stI_ok, stL_ok, stR_ok, stB_ok, chk_ok, raI_k, raL_k, raR_k, raB_k, waI_k, waL_k, waB_k, waR_k, alen_k, gT_sI, gT_sL, gT_sR, gT_sB, gN_sI, gN_sL, gN_sR, gN_sB, gI_sL, gI_sR, gI_sB, gL_sI, gL_sR, gL_sB, gR_sI, gR_sL, gR_sB, gB_sI, gB_sL, gB_sR, gI_sIs, gL_sLs, gR_sRs, gB_sBs, gI_sIn, gL_sLn, gR_sRn, gB_sBn, rdI_ok, rdL_ok, rdB_ok, wrI_ok, wrL_ok, wrB_ok]
      simp only [nl, nI_add]
      generalize hR6 : ((up2 (up2 (pI R 16 (nI (G.length + 1))).1 12 G.length (nI 0)) 13 G.length (nI 0), (pI R 16 (nI (G.length + 1))).2) : RS) = R6
      have k6 : Rp wMg R R6 := by
        rw [← hR6]
        exact Rp.tr (Rp.pI (W := wMg) ⟨rfl, Or.inl ⟨rfl, Or.inl rfl⟩⟩) (Rp.w2I (W := wMg) ⟨rfl, Or.inr (Or.inl ⟨by decide, by decide⟩)⟩ ⟨rfl, Or.inr (Or.inl ⟨by decide, by decide⟩)⟩) (fun _ _ _ q => q)
      have i16 : R6.1 0 16 = nI (G.length + 1) := by rw [← hR6]; simp (disch := omega) only [pI, pL, pB, up2_s, up2_ne]
      have i20 : R6.1 0 20 = nI mg := by rw [← hR6]; simp (disch := omega) only [pI, pL, pB, up2_s, up2_ne]; exact h8
      have a12 : R6.1 12 G.length = nI 0 := by rw [← hR6]; simp (disch := omega) only [pI, pL, pB, up2_s, up2_ne]
      have a13 : R6.1 13 G.length = nI 0 := by rw [← hR6]; simp (disch := omega) only [pI, pL, pB, up2_s, up2_ne]
      have htot : ∀ k, k < G.length → (gA G k).2.length ≤ 64 := fun k hk => by
        have := sm_mem (fun s => s.2.length) G _ (gA_mem hk)
        unfold tot at o6
        have this : (gA G k).2.length ≤ sm (fun s => s.2.length) G := this
        omega
      have s6 : ∀ k, k < G.length → rSg R6 k (gA G k) := fun k hk => by
        obtain ⟨a1, a2, a3⟩ := h4.2 k hk
        rw [← hR6]
        refine ⟨?_, ?_, fun i hi => ?_⟩
        · simp (disch := omega) only [pI, pL, pB, up2_s, up2_ne]; exact a1
        · simp (disch := omega) only [pI, pL, pB, up2_s, up2_ne]; exact a2
        · simp (disch := omega) only [pI, pL, pB, up2_s, up2_ne]; exact a3 i hi
      clear hR6
      obtain ⟨z, hz, z1, z2, z3, z4, z5⟩ : ∃ z, lp (fun q : Int32 × RS => M_refresh_l38 q.2 (nI G.length) q.1) (nI 0, R6) = some z ∧ (Rp wMg R z ∧ z.1 0 16 = nI (G.length + 1) ∧ z.1 0 20 = nI mg ∧ rSg z G.length (0, bufL dl bs D.length) ∧ ∀ k, k < G.length → rSg z k (gA G k)) := by
        refine lp_for (fun i Y => (nI i, Y)) (D.length - bs) (fun i Y => Rp wMg R Y ∧ Y.1 0 16 = nI (G.length + 1) ∧ Y.1 0 20 = nI mg ∧ rSg Y G.length (0, liv dl (List.range' bs i)) ∧ ∀ k, k < G.length → rSg Y k (gA G k)) _ (fun i Y hi hI => ?_) (fun Y hI => ?_) (D.length - bs) 0 _ (by omega) ⟨k6, i16, i20, ⟨a12, a13, fun j hj => absurd hj (by simp [liv])⟩, s6⟩
        · left
          obtain ⟨y1, y2, y3, y4, y5⟩ := hI
          have hBY := h3.rp y1 (by unfold wMg; omega) (fun _ => by unfold wMg; omega)
          have hDY := h2.rp y1 (by unfold wMg; omega) (fun _ _ _ _ _ => by unfold wMg; omega)
          have hd := (hDY.2.1 (bs + i) (by omega)).2.2.2
          have hbi := hBY.2 i hi
          have hll := liv_len dl (List.range' bs i)
          rw [List.length_range'] at hll
          rw [range'_s, liv_app]
          generalize liv dl (List.range' bs i) = L at *
          unfold M_refresh_l38
          rw [hBY.1]
          simp only [iLe (show D.length - bs < 2147483648 by omega) (show i < 2147483648 by omega)]
          rw [if_neg (by omega)]
          simp (disch := first | assumption | omega | (simp only [gT_sI, gT_sL, gT_sR, gT_sB]; first | assumption | omega)) only [Option.bind_some, ldI_ok, ldL_ok, ldR_ok, ldB_ok, stI_ok, stL_ok, stR_ok, stB_ok, chk_ok, raI_k, raL_k, raR_k, raB_k, waI_k, waL_k, waB_k, waR_k, alen_k, gT_sI, gT_sL, gT_sR, gT_sB, gN_sI, gN_sL, gN_sR, gN_sB, gI_sL, gI_sR, gI_sB, gL_sI, gL_sR, gL_sB, gR_sI, gR_sL, gR_sB, gB_sI, gB_sL, gB_sR, gI_sIs, gL_sLs, gR_sRs, gB_sBs, gI_sIn, gL_sLn, gR_sRn, gB_sBn, rdI_ok, rdL_ok, rdB_ok, wrI_ok, wrL_ok, wrB_ok, hbi, hd]
          cases hdl : dl (bs + i) with
          | true =>
            have e1 : liv dl [bs + i] = [] := by simp [liv, hdl]
            rw [e1, List.append_nil]
            simp only [if_true, if_false, not_true_eq_false, not_false_eq_true, true_and, and_true, false_and, and_false, true_or, or_true, false_or, or_false, decide_true, decide_false, Bool.false_eq_true, reduceCtorEq, Option.bind_some, Option.map_some, Option.map_none, Option.bind_none, jn_l, jn_r, jn_n, se_l, se_r, nl, nI_add]
            exact ⟨Y, rfl, y1, y2, y3, y4, y5⟩
          | false =>
            have e1 : liv dl [bs + i] = [bs + i] := by simp [liv, hdl]
            rw [e1]
            obtain ⟨q1, q2, q3⟩ := y4
            have q2' : Y.1 13 G.length = nI L.length := q2
            simp only [if_true, if_false, not_true_eq_false, not_false_eq_true, true_and, and_true, false_and, and_false, true_or, or_true, false_or, or_false, decide_true, decide_false, Bool.false_eq_true, reduceCtorEq, Option.bind_some, Option.map_some, Option.map_none, Option.bind_none, jn_l, jn_r, jn_n, se_l, se_r]
            unfold M_put
            simp (disch := first | assumption | omega | (simp only [gT_sI, gT_sL, gT_sR, gT_sB]; first | assumption | omega)) only [Option.bind_some, ldI_ok, ldL_ok, ldR_ok, ldB_ok, stI_ok, stL_ok, stR_ok, stB_ok, chk_ok, raI_k, raL_k, raR_k, raB_k, waI_k, waL_k, waB_k, waR_k, alen_k, gT_sI, gT_sL, gT_sR, gT_sB, gN_sI, gN_sL, gN_sR, gN_sB, gI_sL, gI_sR, gI_sB, gL_sI, gL_sR, gL_sB, gR_sI, gR_sL, gR_sB, gB_sI, gB_sL, gB_sR, gI_sIs, gL_sLs, gR_sRs, gB_sBs, gI_sIn, gL_sLn, gR_sRn, gB_sBn, rdI_ok, rdL_ok, rdB_ok, wrI_ok, wrL_ok, wrB_ok, q2']
            try simp (disch := omega) only [nl, nI_add, nI_mul, iSub, iEq, iLe, iLt, iEqN, iNEq, iNN, iLtN, iNLt, iLeN, iNLe, iAddN, iNAdd, iMin, iMax, iDiv, iRem]
            try simp (disch := first | assumption | omega | (simp only [gT_sI, gT_sL, gT_sR, gT_sB]; first | assumption | omega)) only [Option.bind_some, ldI_ok, ldL_ok, ldR_ok, ldB_ok, stI_ok, stL_ok, stR_ok, stB_ok, chk_ok, raI_k, raL_k, raR_k, raB_k, waI_k, waL_k, waB_k, waR_k, alen_k, gT_sI, gT_sL, gT_sR, gT_sB, gN_sI, gN_sL, gN_sR, gN_sB, gI_sL, gI_sR, gI_sB, gL_sI, gL_sR, gL_sB, gR_sI, gR_sL, gR_sB, gB_sI, gB_sL, gB_sR, gI_sIs, gL_sLs, gR_sRs, gB_sBs, gI_sIn, gL_sLn, gR_sRn, gB_sBn, rdI_ok, rdL_ok, rdB_ok, wrI_ok, wrL_ok, wrB_ok]
            try simp (disch := omega) only [pI, pL, pB, up2_s, up2_ne, q2']
            try simp (disch := omega) only [nl, nI_add, nI_mul, iSub, iEq, iLe, iLt, iEqN, iNEq, iNN, iLtN, iNLt, iLeN, iNLe, iAddN, iNAdd, iMin, iMax, iDiv, iRem]
            try simp (disch := first | assumption | omega | (simp only [gT_sI, gT_sL, gT_sR, gT_sB]; first | assumption | omega)) only [Option.bind_some, ldI_ok, ldL_ok, ldR_ok, ldB_ok, stI_ok, stL_ok, stR_ok, stB_ok, chk_ok, raI_k, raL_k, raR_k, raB_k, waI_k, waL_k, waB_k, waR_k, alen_k, gT_sI, gT_sL, gT_sR, gT_sB, gN_sI, gN_sL, gN_sR, gN_sB, gI_sL, gI_sR, gI_sB, gL_sI, gL_sR, gL_sB, gR_sI, gR_sL, gR_sB, gB_sI, gB_sL, gB_sR, gI_sIs, gL_sLs, gR_sRs, gB_sBs, gI_sIn, gL_sLn, gR_sRn, gB_sBn, rdI_ok, rdL_ok, rdB_ok, wrI_ok, wrL_ok, wrB_ok]
            try simp (disch := omega) only [pI, pL, pB, up2_s, up2_ne, q2']
            try simp (disch := omega) only [nl, nI_add, nI_mul, iSub, iEq, iLe, iLt, iEqN, iNEq, iNN, iLtN, iNLt, iLeN, iNLe, iAddN, iNAdd, iMin, iMax, iDiv, iRem]
            try simp (disch := first | assumption | omega | (simp only [gT_sI, gT_sL, gT_sR, gT_sB]; first | assumption | omega)) only [Option.bind_some, ldI_ok, ldL_ok, ldR_ok, ldB_ok, stI_ok, stL_ok, stR_ok, stB_ok, chk_ok, raI_k, raL_k, raR_k, raB_k, waI_k, waL_k, waB_k, waR_k, alen_k, gT_sI, gT_sL, gT_sR, gT_sB, gN_sI, gN_sL, gN_sR, gN_sB, gI_sL, gI_sR, gI_sB, gL_sI, gL_sR, gL_sB, gR_sI, gR_sL, gR_sB, gB_sI, gB_sL, gB_sR, gI_sIs, gL_sLs, gR_sRs, gB_sBs, gI_sIn, gL_sLn, gR_sRn, gB_sBn, rdI_ok, rdL_ok, rdB_ok, wrI_ok, wrL_ok, wrB_ok]
            have kw : Rp (fun t c k => t = 0 ∧ ((c = 14 ∧ k = 400 * G.length + L.length) ∨ (c = 13 ∧ k = G.length))) Y (up2 (up2 Y.1 14 (400 * G.length + L.length) (nI (bs + i))) 13 G.length (nI (L.length + 1)), Y.2) := Rp.w2I (by omega) (by omega)
            refine ⟨_, rfl, Rp.tr y1 kw (fun t c k q => by unfold wMg; omega), ?_, ?_, ⟨?_, ?_, fun j hj => ?_⟩, fun k hk => ?_⟩
            · rw [kw.I (by decide) (by omega)]; exact y2
            · rw [kw.I (by decide) (by omega)]; exact y3
            · rw [kw.I (by decide) (by omega)]; exact q1
            · simp only [pI, pL, pB, up2_s, up2_ne, List.length_append, List.length_singleton]
            · simp only [List.length_append, List.length_singleton] at hj
              rw [getD_app]
              by_cases q : j = L.length
              · subst q
                rw [if_neg (by omega), if_pos rfl]
                simp (disch := omega) only [pI, pL, pB, up2_s, up2_ne]
              · rw [if_pos (by omega), kw.I (by decide) (by omega)]
                exact q3 j (by show j < L.length; omega)
            · have := htot k hk
              exact (y5 k hk).rp kw (by omega) (by omega) (fun _ _ => by omega)
        · obtain ⟨y1, y2, y3, y4, y5⟩ := hI
          have hBY := h3.rp y1 (by unfold wMg; omega) (fun _ => by unfold wMg; omega)
          refine ⟨Y, ?_, y1, y2, y3, y4, y5⟩
          unfold M_refresh_l38
          rw [hBY.1]
          simp only [iLe (show D.length - bs < 2147483648 by omega) (show D.length - bs < 2147483648 by omega)]
          rw [if_pos (Nat.le_refl _)]
      rw [hz]
      refine ⟨z, rfl, z1, ⟨by rw [List.length_append]; exact z2, fun k hk => ?_⟩, z3⟩
      rw [List.length_append, List.length_singleton] at hk
      rw [gA_app]
      by_cases q : k < G.length
      · rw [if_pos q]; exact z5 k q
      · rw [if_neg q, if_pos (by omega), show k = G.length by omega]
        exact z4
  unfold M_refresh
  rw [M_inBuffer_ok h2 h3 o1 (by omega)]
  simp only [Option.bind_some] at e1 ⊢
  rw [e1]
  simp only [Option.bind_some]
  have k15 : Rp (fun t c k => t = 0 ∧ c = 0 ∧ k = 15) R1 (pI R1 15 0) := Rp.pI ⟨rfl, rfl, rfl⟩
  have hGl' : (flG dl bs D.length G).length ≤ 13 := by
    unfold flG
    split
    · omega
    · rw [List.length_append, List.length_singleton]; omega
  have hma' : mass (flG dl bs D.length G) ≤ 64 := by
    unfold flG
    split
    · omega
    · unfold mass at *
      rw [sm_app, sm_one]
      simp only [Nat.pow_zero]
      omega
  have ht' : tot (flG dl bs D.length G) ≤ 64 := by
    unfold flG
    split
    · omega
    · unfold tot at *
      rw [sm_app, sm_one]
      simp only
      omega
  have hds' : ∀ s, s ∈ flG dl bs D.length G → ∀ d, d ∈ s.2 → d < D.length := fun s hs => by
    unfold flG at hs
    split at hs
    · exact o5 s hs
    · rcases List.mem_append.mp hs with q | q
      · exact o5 s q
      · rw [List.mem_singleton.mp q]
        intro d hd
        have := (List.mem_filter.mp hd).1
        rw [List.mem_range'_1] at this
        omega
  have G2 : rSegs (pI R1 15 0) (flG dl bs D.length G) := ⟨by rw [k15.I (by decide) (by omega)]; exact G1.1, fun k hk => rSg.rp (G1.2 k hk) k15 (by omega) (by omega) (fun _ _ => by omega)⟩
  have kA : Rp wR R (pI R1 15 0) := Rp.tr (k1.mono (fun _ _ _ q => Or.inl q)) k15 (fun _ _ _ q => Or.inr q)
  have kA' : ∀ c k, wR 0 c k → c = 0 ∧ (k = 15 ∨ k = 16 ∨ k = 20) ∨ (12 ≤ c ∧ c ≤ 14) ∨ c = 28 := fun c k q => by
    rcases q with q | q
    · unfold wMg at q; omega
    · omega
  have kAt : ∀ t c k, wR t c k → t = 0 := fun t c k q => by
    rcases q with q | q
    · exact q.1
    · exact q.1
  have hD2 : rDocs (pI R1 15 0) D dl := h2.rp kA (fun q => by have := kA' _ _ q; omega) (fun t c k _ _ q => by have h := kAt _ _ _ q; subst h; have := kA' _ _ q; omega)
  rw [M_fourOf_ok G2 (by omega) (fun s hs => by have := lv_le hma' hs; omega)]
  simp only [Option.bind_some]
  obtain ⟨R3, e3, k3, G3, m3⟩ := M_merges_ok (by omega) 20 (pI R1 15 0) (flG dl bs D.length G) mg hD2 G2 (by rw [k15.I (by decide) (by omega)]; exact m1) (by omega) (by omega) hma' hds' ht' (by omega)
  rw [e3]
  have e5 : mgL dl 20 (flG dl bs D.length G) mg = flS dl bs D.length G mg := rfl
  rw [e5] at G3 m3
  have kB : Rp wR R R3 := Rp.tr kA k3 (fun _ _ _ q => Or.inl q)
  have no : ∀ c k, ¬ (c = 0 ∧ (k = 15 ∨ k = 16 ∨ k = 20) ∨ (12 ≤ c ∧ c ≤ 14) ∨ c = 28) → ∀ t, ¬ wR t c k := fun c k q t z => by have h := kAt _ _ _ z; subst h; exact q (kA' _ _ z)
  refine ⟨R3, by simp only [Option.bind_some, G3.1], h1.rp kB (no _ _ (by omega) _) (fun _ => no _ _ (by omega) _), h2.rp kB (no _ _ (by omega) _) (fun _ _ _ _ _ => no _ _ (by omega) _), ⟨?_, fun k hk => absurd hk (by omega)⟩, G3, fun i hi => (h5 i hi).rp kB (fun _ _ _ _ _ => no _ _ (by omega) _), h6.rp kB ⟨no _ _ (by omega) _, no _ _ (by omega) _, no _ _ (by omega) _⟩ (fun _ _ _ _ => no _ _ (by omega) _), h7.rp kB (no _ _ (by omega) _) (fun _ => no _ _ (by omega) _), m3, ?_, ?_⟩
  · rw [k3.I (by decide) (by unfold wMg; omega), Nat.sub_self]
    simp only [pI, pL, pB, up2_s, up2_ne]
    rfl
  · rw [kB.B (by decide) (no _ _ (by omega) _)]; exact h9
  · rw [kB.B (by decide) (no _ _ (by omega) _)]; exact h10
