/-! THE CLASS: gather, merge, flush -/
def cGat (e : Nat) (da : Nat → Nat) (σ : Mem) (g : List Nat) : Prop := gI σ e 10 = nI g.length ∧ ∀ k, k < g.length → gR σ (e + 6) k = some (da (g.getD k 0))
def wG (e : Nat) : Nat → Nat → Nat → Prop := fun t a k => (t = 0 ∧ a = e ∧ k = 10) ∨ (t = 2 ∧ a = e + 6)
def wM (e : Nat) : Nat → Nat → Nat → Prop := fun t a k => (t = 0 ∧ a = e ∧ k = 10) ∨ (t = 2 ∧ (a = e + 5 ∨ a = e + 6))
def wF (e : Nat) : Nat → Nat → Nat → Prop := fun t a k => (t = 0 ∧ a = e ∧ (k = 5 ∨ k = 7 ∨ k = 8 ∨ k = 10)) ∨ (t = 2 ∧ (a = e + 5 ∨ a = e + 6))
theorem wF_f {e : Nat} : Wf e (wF e) := fun c k hc => ⟨fun q => by unfold wF at q; unfold mtR; omega, fun q => by unfold wF at q; omega, fun q => by unfold wF at q; omega⟩
theorem wF_h {e : Nat} {σ : Mem} : Wh (e + 401) σ (wF e) := fun t a k h1 h2 h3 => by unfold wF at h3; omega
theorem wM_F {e : Nat} : ∀ t a k, wM e t a k → wF e t a k := fun t a k h => by unfold wM at h; unfold wF; omega
theorem wG_M {e : Nat} : ∀ t a k, wG e t a k → wM e t a k := fun t a k h => by unfold wG at h; unfold wM; omega
/-- what a flush works on -/
def cFD (e : Nat) (da : Nat → Nat) (σ : Mem) (D : List DocT) (dl : Nat → Bool) (st sp : Bool) : Prop := cFix e σ st sp ∧ cDocs e da σ D dl
theorem cFD.kp {e : Nat} {da : Nat → Nat} {σ σ' : Mem} {D : List DocT} {dl : Nat → Bool} {st sp : Bool} (h : cFD e da σ D dl st sp) (hk : Kp (wF e) σ σ') : cFD e da σ' D dl st sp :=
  ⟨h.1.kp hk wF_f, h.2.kp hk h.1.N wF_h (fun q => by unfold wF at q; omega) (fun k q => by unfold wF at q; omega) (fun i hi q => by unfold wF at q; omega)⟩
theorem E_gather_ok {e : Nat} {da : Nat → Nat} {σ : Mem} {D : List DocT} {dl : Nat → Bool} {st sp : Bool} {g : List Nat} (h : cFD e da σ D dl st sp) (hg : cGat e da σ g) (hgl : g.length < 400) {d : Nat} (hd : d < D.length) : ∃ σ', E_gather σ e (some (da d)) = some σ' ∧ Kp (wG e) σ σ' ∧ gN σ' = gN σ ∧ gU σ' = gU σ ∧ cGat e da σ' (g ++ liv dl [d]) := by
  obtain ⟨hF, hD⟩ := h
  have t0 := iFix0 hF
  obtain ⟨t6, t6'⟩ := iFix hF 6 104 400 (by decide) rfl
  have r9 : gR σ e 9 = some (e + 6) := hF.2.1.2.2.2.2.1
  have td := (hD.d hd).1.t
  unfold E_gather
  rw [E_isLive_ok hD hd]
  simp only [Option.bind_some]
  cases hdl : dl d with
  | true =>
    have e1 : liv dl [d] = [] := by simp [liv, hdl]
    rw [e1, List.append_nil]
    exact ⟨σ, rfl, Kp.rf, rfl, rfl, hg⟩
  | false =>
    have e1 : liv dl [d] = [d] := by simp [liv, hdl]
    rw [e1]
    simp only [Bool.not_false, if_true]
    simp (disch := first | assumption | omega | (simp only [gT_sI, gT_sL, gT_sR, gT_sB]; first | assumption | omega)) only [Option.bind_some, ldI_ok, ldL_ok, ldR_ok, ldB_ok, stI_ok, stL_ok, stR_ok, stB_ok, chk_ok, raI_k, raL_k, raR_k, raB_k, waI_k, waL_k, waB_k, waR_k, alen_k, gT_sI, gT_sL, gT_sR, gT_sB, gN_sI, gN_sL, gN_sR, gN_sB, gI_sL, gI_sR, gI_sB, gL_sI, gL_sR, gL_sB, gR_sI, gR_sL, gR_sB, gB_sI, gB_sL, gB_sR, gI_sIs, gL_sLs, gR_sRs, gB_sBs, gI_sIn, gL_sLn, gR_sRn, gB_sBn, rdI_ok, rdL_ok, rdB_ok, wrI_ok, wrL_ok, wrB_ok, hg.1, r9]
    simp (disch := omega) only [nl, nI_add, nI_mul, iSub, iEq, iLe, iLt, iEqN, iNEq, iNN, iLtN, iNLt, iLeN, iNLe, iAddN, iNAdd, iMin, iMax, iDiv, iRem]
    rw [if_neg (by omega)]
    try simp (disch := first | assumption | omega | (simp only [gT_sI, gT_sL, gT_sR, gT_sB]; first | assumption | omega)) only [Option.bind_some, ldI_ok, ldL_ok, ldR_ok, ldB_ok, stI_ok, stL_ok, stR_ok, stB_ok, chk_ok, raI_k, raL_k, raR_k, raB_k, waI_k, waL_k, waB_k, waR_k, alen_k, gT_sI, gT_sL, gT_sR, gT_sB, gN_sI, gN_sL, gN_sR, gN_sB, gI_sL, gI_sR, gI_sB, gL_sI, gL_sR, gL_sB, gR_sI, gR_sL, gR_sB, gB_sI, gB_sL, gB_sR, gI_sIs, gL_sLs, gR_sRs, gB_sBs, gI_sIn, gL_sLn, gR_sRn, gB_sBn, rdI_ok, rdL_ok, rdB_ok, wrI_ok, wrL_ok, wrB_ok, hg.1, r9]
    try simp (disch := omega) only [nl, nI_add, nI_mul, iSub, iEq, iLe, iLt, iEqN, iNEq, iNN, iLtN, iNLt, iLeN, iNLe, iAddN, iNAdd, iMin, iMax, iDiv, iRem]
    refine ⟨_, rfl, Kp.tr (W := wG e) (Kp.sR (W := wG e) (Or.inr ⟨rfl, rfl⟩)) (Kp.sI (W := wG e) (Or.inl ⟨rfl, rfl, rfl⟩)) (fun _ _ _ _ z => z), rfl, rfl, ?_, fun k hk => ?_⟩
    · rw [gI_sIs, List.length_append]
      rfl
    · rw [List.length_append, List.length_singleton] at hk
      rw [gR_sI, getD_app]
      by_cases c : k = g.length
      · subst c
        rw [gR_sRs, if_neg (by omega), if_pos rfl]
      · rw [gR_sRn (by omega), if_pos (by omega)]
        exact hg.2 k (by omega)
theorem liv_app (dl : Nat → Bool) (a b : List Nat) : liv dl (a ++ b) = liv dl a ++ liv dl b := List.filter_append _ _
theorem take_s {ds : List Nat} {k : Nat} (h : k < ds.length) : ds.take (k + 1) = ds.take k ++ [ds.getD k 0] := by
  rw [List.take_add_one, List.getElem?_eq_getElem h, Option.toList_some, List.getD_eq_getElem?_getD, List.getElem?_eq_getElem h]
  rfl
theorem E_gatherAll_ok {e : Nat} {da : Nat → Nat} {σ : Mem} {D : List DocT} {dl : Nat → Bool} {st sp : Bool} {g : List Nat} {s : Nat} {x : SegT} (h : cFD e da σ D dl st sp) (hg : cGat e da σ g) (hs : isSeg (e + 401) σ da D s x) (hx : ∀ d, d ∈ x.2 → d < D.length) (hgl : g.length + x.2.length ≤ 400) : ∃ σ', E_gatherAll σ e (some s) = some σ' ∧ Kp (wG e) σ σ' ∧ gN σ' = gN σ ∧ gU σ' = gU σ ∧ cGat e da σ' (g ++ liv dl x.2) := by
  obtain ⟨z, hz, z1, z2, z3, z4⟩ : ∃ z, lp (fun q : Int32 × Mem => E_gatherAll_l2 q.2 e (some s) q.1) (nI 0, σ) = some z ∧ (Kp (wG e) σ z ∧ gN z = gN σ ∧ gU z = gU σ ∧ cGat e da z (g ++ liv dl x.2)) := by
    refine lp_for (fun k (Y : Mem) => (nI k, Y)) x.2.length (fun k Y => Kp (wG e) σ Y ∧ gN Y = gN σ ∧ gU Y = gU σ ∧ cGat e da Y (g ++ liv dl (x.2.take k))) _ (fun k Y hk hI => ?_) (fun Y hI => ?_) x.2.length 0 _ (by omega) ⟨Kp.rf, rfl, rfl, by simpa [liv] using hg⟩
    · left
      obtain ⟨y1, y2, y3, y4⟩ := hI
      have kF : Kp (wF e) σ Y := y1.mono (fun t a k _ q => wM_F t a k (wG_M t a k q))
      have hY := h.kp kF
      obtain ⟨q, v, w, s1, s2, s3, s4, s5, s6, s7, s8, s9⟩ := hs.kp kF wF_h
      have t1 := s1.t
      have t2 := s6.t
      have t2' := s6.m
      have t0 := iFix0 hY.1
      unfold E_gatherAll_l2
      simp (disch := first | assumption | omega | (simp only [gT_sI, gT_sL, gT_sR, gT_sB]; first | assumption | omega)) only [Option.bind_some, ldI_ok, ldL_ok, ldR_ok, ldB_ok, stI_ok, stL_ok, stR_ok, stB_ok, chk_ok, raI_k, raL_k, raR_k, raB_k, waI_k, waL_k, waB_k, waR_k, alen_k, gT_sI, gT_sL, gT_sR, gT_sB, gN_sI, gN_sL, gN_sR, gN_sB, gI_sL, gI_sR, gI_sB, gL_sI, gL_sR, gL_sB, gR_sI, gR_sL, gR_sB, gB_sI, gB_sL, gB_sR, gI_sIs, gL_sLs, gR_sRs, gB_sBs, gI_sIn, gL_sLn, gR_sRn, gB_sBn, rdI_ok, rdL_ok, rdB_ok, wrI_ok, wrL_ok, wrB_ok, nl, nI_add, nI_mul, iSub, iEq, iLe, iLt, iEqN, iNEq, iNN, iLtN, iNLt, iLeN, iNLe, iAddN, iNAdd, iMin, iMax, iDiv, iRem, s3, t2', s7 k hk]
      rw [if_neg (by omega)]
      have hl := liv_len dl (x.2.take k)
      rw [List.length_take] at hl
      obtain ⟨Y2, e2, k2, n2, u2, g2⟩ := E_gather_ok hY y4 (by rw [List.length_append]; omega) (hx _ (getD_mem (d := 0) hk))
      rw [e2]
      refine ⟨_, rfl, Kp.tr y1 k2 (fun _ _ _ _ q => q), by omega, by omega, ?_⟩
      rw [take_s hk, liv_app, ← List.append_assoc]
      exact g2
    · obtain ⟨y1, y2, y3, y4⟩ := hI
      have kF : Kp (wF e) σ Y := y1.mono (fun t a k _ q => wM_F t a k (wG_M t a k q))
      obtain ⟨q, v, w, s1, s2, s3, s4, s5, s6, s7, s8, s9⟩ := hs.kp kF wF_h
      have t1 := s1.t
      have t2 := s6.t
      have t2' := s6.m
      rw [List.take_length] at y4
      refine ⟨Y, ?_, y1, y2, y3, y4⟩
      unfold E_gatherAll_l2
      simp (disch := first | assumption | omega | (simp only [gT_sI, gT_sL, gT_sR, gT_sB]; first | assumption | omega)) only [Option.bind_some, ldI_ok, ldL_ok, ldR_ok, ldB_ok, stI_ok, stL_ok, stR_ok, stB_ok, chk_ok, raI_k, raL_k, raR_k, raB_k, waI_k, waL_k, waB_k, waR_k, alen_k, gT_sI, gT_sL, gT_sR, gT_sB, gN_sI, gN_sL, gN_sR, gN_sB, gI_sL, gI_sR, gI_sB, gL_sI, gL_sR, gL_sB, gR_sI, gR_sL, gR_sB, gB_sI, gB_sL, gB_sR, gI_sIs, gL_sLs, gR_sRs, gB_sBs, gI_sIn, gL_sLn, gR_sRn, gB_sBn, rdI_ok, rdL_ok, rdB_ok, wrI_ok, wrL_ok, wrB_ok, nl, nI_add, nI_mul, iSub, iEq, iLe, iLt, iEqN, iNEq, iNN, iLtN, iNLt, iLeN, iNLe, iAddN, iNAdd, iMin, iMax, iDiv, iRem, s3, t2']
      rw [if_pos (by omega)]
  unfold E_gatherAll
  rw [show (0 : Int32) = nI 0 from rfl, hz]
  exact ⟨z, rfl, z1, z2, z3, z4⟩
theorem E_segmentAt_ok {e : Nat} {σ : Mem} {st sp : Bool} {n s : Nat} (hF : cFix e σ st sp) (hl : gI σ e 7 = nI n) (hn : n ≤ 16) {i : Nat} (hi : i < n) (hs : gR σ (e + 5) i = some s) : E_segmentAt σ e (nI i) = some (some s) := by
  have t0 := iFix0 hF
  obtain ⟨t5, t5'⟩ := iFix hF 5 105 16 (by decide) rfl
  have r : gR σ e 6 = some (e + 5) := hF.2.1.2.2.2.1
  unfold E_segmentAt
  simp (disch := first | assumption | omega | (simp only [gT_sI, gT_sL, gT_sR, gT_sB]; first | assumption | omega)) only [Option.bind_some, ldI_ok, ldL_ok, ldR_ok, ldB_ok, stI_ok, stL_ok, stR_ok, stB_ok, chk_ok, raI_k, raL_k, raR_k, raB_k, waI_k, waL_k, waB_k, waR_k, alen_k, gT_sI, gT_sL, gT_sR, gT_sB, gN_sI, gN_sL, gN_sR, gN_sB, gI_sL, gI_sR, gI_sB, gL_sI, gL_sR, gL_sB, gR_sI, gR_sL, gR_sB, gB_sI, gB_sL, gB_sR, gI_sIs, gL_sLs, gR_sRs, gB_sBs, gI_sIn, gL_sLn, gR_sRn, gB_sBn, rdI_ok, rdL_ok, rdB_ok, wrI_ok, wrL_ok, wrB_ok, nl, nI_add, nI_mul, iSub, iEq, iLe, iLt, iEqN, iNEq, iNN, iLtN, iNLt, iLeN, iNLe, iAddN, iNAdd, iMin, iMax, iDiv, iRem, hl, r, hs]
  rw [if_neg (by omega), if_neg (by omega), if_neg (by omega)]
theorem E_leastFullLevel_ok {e : Nat} {da : Nat → Nat} {σ : Mem} {st sp : Bool} {D : List DocT} {G : List SegT} (hF : cFix e σ st sp) (hG : cSegs e da σ D G) (hlv : ∀ s, s ∈ G → s.1 < 100) : E_leastFullLevel σ e = some (if four G < 6 then nI (four G) else -1) := by
  have t0 := iFix0 hF
  have h16 := hG.2.1
  have hcnt : ∀ l, l < 6 → lp (fun q : Int32 × Int32 => E_leastFullLevel_l12 σ e (nI l) q.1 q.2) (nI 0, nI 0) = some (nI (lvc G l G.length)) := fun l hl => by
    refine lp_sum (c := fun k => if decide ((gA G k).1 = l) = true then 1 else 0) G.length 0 (fun k hk => ?_) ?_
    · rw [Nat.zero_add]
      obtain ⟨s, h1, h2⟩ := hG.2.2 k hk
      have h2' := h2
      obtain ⟨q, v, w, s1, s2, -⟩ := h2
      have t1 := s1.t
      have := hlv _ (gA_mem hk)
      unfold E_leastFullLevel_l12
      simp (disch := first | assumption | omega | (simp only [gT_sI, gT_sL, gT_sR, gT_sB]; first | assumption | omega)) only [Option.bind_some, ldI_ok, ldL_ok, ldR_ok, ldB_ok, stI_ok, stL_ok, stR_ok, stB_ok, chk_ok, raI_k, raL_k, raR_k, raB_k, waI_k, waL_k, waB_k, waR_k, alen_k, gT_sI, gT_sL, gT_sR, gT_sB, gN_sI, gN_sL, gN_sR, gN_sB, gI_sL, gI_sR, gI_sB, gL_sI, gL_sR, gL_sB, gR_sI, gR_sL, gR_sB, gB_sI, gB_sL, gB_sR, gI_sIs, gL_sLs, gR_sRs, gB_sBs, gI_sIn, gL_sLn, gR_sRn, gB_sBn, rdI_ok, rdL_ok, rdB_ok, wrI_ok, wrL_ok, wrB_ok, nl, nI_add, nI_mul, iSub, iEq, iLe, iLt, iEqN, iNEq, iNN, iLtN, iNLt, iLeN, iNLe, iAddN, iNAdd, iMin, iMax, iDiv, iRem, hG.1]
      rw [if_neg (by omega), E_segmentAt_ok hF hG.1 h16 hk h1]
      simp (disch := first | assumption | omega | (simp only [gT_sI, gT_sL, gT_sR, gT_sB]; first | assumption | omega)) only [Option.bind_some, ldI_ok, ldL_ok, ldR_ok, ldB_ok, stI_ok, stL_ok, stR_ok, stB_ok, chk_ok, raI_k, raL_k, raR_k, raB_k, waI_k, waL_k, waB_k, waR_k, alen_k, gT_sI, gT_sL, gT_sR, gT_sB, gN_sI, gN_sL, gN_sR, gN_sB, gI_sL, gI_sR, gI_sB, gL_sI, gL_sR, gL_sB, gR_sI, gR_sL, gR_sB, gB_sI, gB_sL, gB_sR, gI_sIs, gL_sLs, gR_sRs, gB_sBs, gI_sIn, gL_sLn, gR_sRn, gB_sBn, rdI_ok, rdL_ok, rdB_ok, wrI_ok, wrL_ok, wrB_ok, s2]
      rw [if_neg (by simp)]
      simp (disch := omega) only [nl, nI_add, nI_mul, iSub, iEq, iLe, iLt, iEqN, iNEq, iNN, iLtN, iNLt, iLeN, iNLe, iAddN, iNAdd, iMin, iMax, iDiv, iRem]
      by_cases c : (gA G k).1 = l
      · simp only [c, if_true, if_false, not_true_eq_false, not_false_eq_true, true_and, and_true, false_and, and_false, true_or, or_true, false_or, or_false, decide_true, decide_false, Bool.false_eq_true, reduceCtorEq, Option.bind_some, Option.map_some, Option.map_none, Option.bind_none, jn_l, jn_r, jn_n, se_l, se_r]
      · simp only [c, if_true, if_false, not_true_eq_false, not_false_eq_true, true_and, and_true, false_and, and_false, true_or, or_true, false_or, or_false, decide_true, decide_false, Bool.false_eq_true, reduceCtorEq, Option.bind_some, Option.map_some, Option.map_none, Option.bind_none, jn_l, jn_r, jn_n, se_l, se_r, Nat.add_zero]
    · rw [Nat.zero_add]
      unfold E_leastFullLevel_l12
      simp (disch := first | assumption | omega | (simp only [gT_sI, gT_sL, gT_sR, gT_sB]; first | assumption | omega)) only [Option.bind_some, ldI_ok, ldL_ok, ldR_ok, ldB_ok, stI_ok, stL_ok, stR_ok, stB_ok, chk_ok, raI_k, raL_k, raR_k, raB_k, waI_k, waL_k, waB_k, waR_k, alen_k, gT_sI, gT_sL, gT_sR, gT_sB, gN_sI, gN_sL, gN_sR, gN_sB, gI_sL, gI_sR, gI_sB, gL_sI, gL_sR, gL_sB, gR_sI, gR_sL, gR_sB, gB_sI, gB_sL, gB_sR, gI_sIs, gL_sLs, gR_sRs, gB_sBs, gI_sIn, gL_sLn, gR_sRn, gB_sBn, rdI_ok, rdL_ok, rdB_ok, wrI_ok, wrL_ok, wrB_ok, nl, nI_add, nI_mul, iSub, iEq, iLe, iLt, iEqN, iNEq, iNN, iLtN, iNLt, iLeN, iNLe, iAddN, iNAdd, iMin, iMax, iDiv, iRem, hG.1]
      rw [if_pos (by omega)]
      rfl
  unfold E_leastFullLevel
  have hle := four_le G
  have hlp : lp (fun q : Int32 => E_leastFullLevel_l2 σ e q) (nI 0) = some (if four G < 6 then .inl (nI (four G)) else .inr ()) := by
    refine lp_run (p := fun l => decide (lvc G l G.length < 4)) 6 0 (fun l h1 h2 h3 => ?_) ?_
    · have h3 := of_decide_eq_true h3
      unfold E_leastFullLevel_l2
      rw [show (0 : Int32) = nI 0 from rfl, hcnt l (by omega)]
      simp (disch := omega) only [nl, nI_add, nI_mul, iSub, iEq, iLe, iLt, iEqN, iNEq, iNN, iLtN, iNLt, iLeN, iNLe, iAddN, iNAdd, iMin, iMax, iDiv, iRem]
      rw [if_neg (by omega)]
      simp (disch := omega) only [nl, nI_add, nI_mul, iSub, iEq, iLe, iLt, iEqN, iNEq, iNN, iLtN, iNLt, iLeN, iNLe, iAddN, iNAdd, iMin, iMax, iDiv, iRem, Option.bind_some]
      rw [if_pos h3]
    · show E_leastFullLevel_l2 σ e (nI (four G)) = _
      unfold E_leastFullLevel_l2
      by_cases c : four G < 6
      · have h4 := four_at c
        have h5 := cN_le (fun k => decide ((gA G k).1 = four G)) G.length
        rw [if_pos c, show (0 : Int32) = nI 0 from rfl, hcnt _ c]
        unfold lvc at *
        simp (disch := omega) only [nl, nI_add, nI_mul, iSub, iEq, iLe, iLt, iEqN, iNEq, iNN, iLtN, iNLt, iLeN, iNLe, iAddN, iNAdd, iMin, iMax, iDiv, iRem]
        rw [if_neg (by omega)]
        simp (disch := omega) only [nl, nI_add, nI_mul, iSub, iEq, iLe, iLt, iEqN, iNEq, iNN, iLtN, iNLt, iLeN, iNLe, iAddN, iNAdd, iMin, iMax, iDiv, iRem, Option.bind_some]
        rw [if_neg (by omega)]
      · have : four G = 6 := by omega
        rw [if_neg c, this]
        simp (disch := omega) only [nl, nI_add, nI_mul, iSub, iEq, iLe, iLt, iEqN, iNEq, iNN, iLtN, iNLt, iLeN, iNLe, iAddN, iNAdd, iMin, iMax, iDiv, iRem]
        rw [if_pos (by omega)]
  rw [show (0 : Int32) = nI 0 from rfl, hlp]
  by_cases c : four G < 6
  · rw [if_pos c, if_pos c]; rfl
  · rw [if_neg c, if_neg c]; rfl
