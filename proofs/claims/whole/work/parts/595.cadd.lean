/-! THE CLASS'S CALLS: add -/
/-- the place of the tape's first 0, or its end -/
def fz (tp : Nat → Nat) (n : Nat) : Nat := run (fun i => decide (tp i ≠ 0)) n 0
theorem fz_le (tp : Nat → Nat) (n : Nat) : fz tp n ≤ n := by
  have := run_ge (fun i => decide (tp i ≠ 0)) n 0
  unfold fz
  omega
theorem jb_0 : ∀ b, b < 256 → (jb b = 0) = (b = 0) := by
  intro b hb
  have : ∀ b, b < 256 → (decide (jb b = 0) = decide (b = 0)) := by decide +kernel
  have := this b hb
  rw [decide_eq_decide] at this
  exact propext this
theorem cFix.tape {e : Nat} {σ : Mem} {st sp : Bool} {tp : Nat → Nat} {n : Nat} (h : cFix e σ st sp) (ht : cTape e σ tp n) : tpA σ (e + 3) tp := ⟨(iFix h 3 102 600 (by decide) rfl).1, (iFix h 3 102 600 (by decide) rfl).2, ht.2.2⟩
theorem cFix.sp {e : Nat} {σ : Mem} {st sp : Bool} (h : cFix e σ st sp) : isSp σ (e + 1) st sp ∧ spB σ (e + 1) := by
  have hN := h.N
  have r : gR σ (e + 1) 2 = some (e + 2) := h.2.1.2.2.2.2.2.2.2.2.1
  refine ⟨⟨(iFix h 1 7 0 (by decide) rfl).1, h.2.2.1, h.2.2.2.1, e + 2, r, (iFix h 2 101 11 (by decide) rfl).1, (iFix h 2 101 11 (by decide) rfl).2, fun i hi => h.2.2.2.2.1 i hi⟩, by omega, fun q hq => ?_⟩
  rw [r] at hq
  cases hq
  omega
theorem E_firstZero_ok {e : Nat} {σ : Mem} {st sp : Bool} {tp : Nat → Nat} {n : Nat} (hF : cFix e σ st sp) (ht : tpA σ (e + 3) tp) (hn : n ≤ 600) : E_firstZero σ e (nI n) = some (nI (fz tp n)) := by
  have t0 := iFix0 hF
  have r : gR σ e 1 = some (e + 3) := hF.2.1.2.1
  obtain ⟨h1, h2, h3⟩ := ht
  have hle := fz_le tp n
  have hlp : lp (fun q : Int32 => E_firstZero_l2 σ e (nI n) q) (nI 0) = some (if fz tp n < n then .inl (nI (fz tp n)) else .inr ()) := by
    refine lp_run (p := fun i => decide (tp i ≠ 0)) n 0 (fun i a1 a2 a3 => ?_) ?_
    · obtain ⟨b1, b2⟩ := h3 i (by omega)
      have a3 := of_decide_eq_true a3
      unfold E_firstZero_l2
      simp (disch := first | assumption | omega | (simp only [gT_sI, gT_sL, gT_sR, gT_sB]; first | assumption | omega)) only [Option.bind_some, ldI_ok, ldL_ok, ldR_ok, ldB_ok, stI_ok, stL_ok, stR_ok, stB_ok, chk_ok, raI_k, raL_k, raR_k, raB_k, waI_k, waL_k, waB_k, waR_k, alen_k, gT_sI, gT_sL, gT_sR, gT_sB, gN_sI, gN_sL, gN_sR, gN_sB, gI_sL, gI_sR, gI_sB, gL_sI, gL_sR, gL_sB, gR_sI, gR_sL, gR_sB, gB_sI, gB_sL, gB_sR, gI_sIs, gL_sLs, gR_sRs, gB_sBs, gI_sIn, gL_sLn, gR_sRn, gB_sBn, rdI_ok, rdL_ok, rdB_ok, wrI_ok, wrL_ok, wrB_ok, nl, nI_add, nI_mul, iSub, iEq, iLe, iLt, iEqN, iNEq, iNN, iLtN, iNLt, iLeN, iNLe, iAddN, iNAdd, iMin, iMax, iDiv, iRem, r, h2, b2]
      rw [if_neg (by omega), if_neg (by omega)]
      rw [show nI 0 = (0 : Int32) from rfl]
      simp only [jb_0 _ b1, a3, if_true, if_false, not_true_eq_false, not_false_eq_true, true_and, and_true, false_and, and_false, true_or, or_true, false_or, or_false, decide_true, decide_false, Bool.false_eq_true, reduceCtorEq, Option.bind_some, Option.map_some, Option.map_none, Option.bind_none, jn_l, jn_r, jn_n, se_l, se_r]
    · show E_firstZero_l2 σ e (nI n) (nI (fz tp n)) = _
      unfold E_firstZero_l2
      by_cases c : fz tp n < n
      · have ho : decide (tp (fz tp n) ≠ 0) = false := run_out (fun i => decide (tp i ≠ 0)) n 0 (by unfold fz at c; omega)
        have ho := of_decide_eq_false ho
        generalize fz tp n = z at *
        obtain ⟨b1, b2⟩ := h3 z (by omega)
        rw [if_pos c]
        simp (disch := first | assumption | omega | (simp only [gT_sI, gT_sL, gT_sR, gT_sB]; first | assumption | omega)) only [Option.bind_some, ldI_ok, ldL_ok, ldR_ok, ldB_ok, stI_ok, stL_ok, stR_ok, stB_ok, chk_ok, raI_k, raL_k, raR_k, raB_k, waI_k, waL_k, waB_k, waR_k, alen_k, gT_sI, gT_sL, gT_sR, gT_sB, gN_sI, gN_sL, gN_sR, gN_sB, gI_sL, gI_sR, gI_sB, gL_sI, gL_sR, gL_sB, gR_sI, gR_sL, gR_sB, gB_sI, gB_sL, gB_sR, gI_sIs, gL_sLs, gR_sRs, gB_sBs, gI_sIn, gL_sLn, gR_sRn, gB_sBn, rdI_ok, rdL_ok, rdB_ok, wrI_ok, wrL_ok, wrB_ok, nl, nI_add, nI_mul, iSub, iEq, iLe, iLt, iEqN, iNEq, iNN, iLtN, iNLt, iLeN, iNLe, iAddN, iNAdd, iMin, iMax, iDiv, iRem, r, h2, b2]
        rw [if_neg (by omega), if_neg (by omega)]
        rw [show nI 0 = (0 : Int32) from rfl]
        have ho : tp z = 0 := Decidable.not_not.mp ho
        simp only [jb_0 _ b1, ho, if_true, if_false, not_true_eq_false, not_false_eq_true, true_and, and_true, false_and, and_false, true_or, or_true, false_or, or_false, decide_true, decide_false, Bool.false_eq_true, reduceCtorEq, Option.bind_some, Option.map_some, Option.map_none, Option.bind_none, jn_l, jn_r, jn_n, se_l, se_r]
      · have : fz tp n = n := by omega
        rw [if_neg c, this]
        simp (disch := omega) only [nl, nI_add, nI_mul, iSub, iEq, iLe, iLt, iEqN, iNEq, iNN, iLtN, iNLt, iLeN, iNLe, iAddN, iNAdd, iMin, iMax, iDiv, iRem]
        rw [if_pos (by omega)]
  unfold E_firstZero
  rw [show (0 : Int32) = nI 0 from rfl, hlp]
  by_cases c : fz tp n < n
  · rw [if_pos c]; rfl
  · have : fz tp n = n := by omega
    rw [if_neg c, this]; rfl
def addD (st sp : Bool) (tp : Nat → Nat) (n : Nat) (key : Int64) (x y : Int32) : DocT := (key, x, y, toks st sp tp 0 (fz tp n), toks st sp tp (min (fz tp n + 1) n) n)
def addBad (tp : Nat → Nat) (n : Nat) : Prop := 100 < fz tp n ∨ 400 < n - min (fz tp n + 1) n
theorem isSeg.da {lo : Nat} {σ : Mem} {da db : Nat → Nat} {D E : List DocT} {s : Nat} {g : SegT} (h : isSeg lo σ da D s g) (ha : ∀ d, d ∈ g.2 → db d = da d ∧ dA E d = dA D d) : isSeg lo σ db E s g := by
  obtain ⟨q, v, w, s1, s2, s3, s4, s5, s6, s7, s8, s9⟩ := h
  have hs : ∀ f, sgc D g.2 f = sgc E g.2 f := fun f => by
    funext t
    unfold sgc
    exact cN_congr _ (fun k hk => by rw [(ha _ (getD_mem hk)).2])
  exact ⟨q, v, w, s1, s2, s3, s4, s5, s6, fun k hk => by rw [(ha _ (getD_mem hk)).1]; exact s7 k hk, by rw [← hs]; exact s8, by rw [← hs]; exact s9⟩
theorem cView.da {e : Nat} {σ : Mem} {da db : Nat → Nat} {D E : List DocT} {i : Nat} {v : VwT} (h : cView e da σ D i v) (ha : ∀ d, d ∈ vDocs v → db d = da d ∧ dA E d = dA D d) : cView e db σ E i v := by
  refine ⟨h.1, fun ho => ?_⟩
  obtain ⟨b1, b2, b3, b4, b5, b6, b7⟩ := h.2 ho
  refine ⟨b1, b2, fun k hk => ?_, b4, b5, fun k hk => ?_, b7⟩
  · obtain ⟨s, l, c1, c2⟩ := b3 k hk
    exact ⟨s, l, c1, c2.da (fun d hd => ha d (List.mem_flatten.mpr ⟨_, getD_mem hk, hd⟩))⟩
  · rw [(ha _ (getD_mem hk)).1]
    exact b6 k hk
def okV (D : List DocT) (V : Nat → VwT) : Prop := ∀ i, i < 4 → (V i).1 = true → ∀ d, d ∈ vDocs (V i) → d < D.length
theorem dA_app {D : List DocT} {d : DocT} {k : Nat} (h : k < D.length) : dA (D ++ [d]) k = dA D k := by
  unfold dA
  rw [getD_app, if_pos h]
theorem dA_new {D : List DocT} {d : DocT} : dA (D ++ [d]) D.length = d := by
  unfold dA
  rw [getD_app, if_neg (Nat.lt_irrefl _), if_pos rfl]
def addR (st sp : Bool) (tp : Nat → Nat) (n : Nat) (D : List DocT) (dl : Nat → Bool) (bs : Nat) (G : List SegT) (mg : Nat) (key : Int64) (x y : Int32) : Bool := decide (16 ≤ bufS (D ++ [addD st sp tp n key x y]) (dlS D dl key) bs)
