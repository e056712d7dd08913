/-! THE REFERENCE'S CALLS: open, add -/
def wOp (v : Nat) : Nat → Nat → Nat → Prop := fun t c k => (t = 0 ∧ (((c = 16 ∨ c = 17) ∧ k = v) ∨ (c = 18 ∧ 400 * v ≤ k ∧ k < 400 * v + 400))) ∨ (t = 3 ∧ ((c = 15 ∧ k = v) ∨ (c = 19 ∧ 400 * v ≤ k ∧ k < 400 * v + 400)))
def vLst (R : RS) (v : Nat) (L : List Nat) (dl : Nat → Bool) : Prop := R.1 17 v = nI L.length ∧ ∀ k, k < L.length → R.1 18 (400 * v + k) = nI (L.getD k 0) ∧ R.2.2 19 (400 * v + k) = dl (L.getD k 0)
theorem rView.rp2 {R R' : RS} {i v : Nat} {x : VwT} (h : rView R i x) (hk : Rp (wOp v) R R') (hiv : i ≠ v) (hl : x.1 = true → (vDocs x).length ≤ 400) : rView R' i x := by
  refine ⟨by rw [hk.B (by decide) (by unfold wOp; omega)]; exact h.1, fun ho => ?_⟩
  obtain ⟨a, b, c⟩ := h.2 ho
  have := hl ho
  refine ⟨?_, ?_, fun k hk' => ?_⟩
  · rw [hk.I (by decide) (by unfold wOp; omega)]; exact a
  · rw [hk.I (by decide) (by unfold wOp; omega)]; exact b
  · rw [hk.I (by decide) (by unfold wOp; omega), hk.B (by decide) (by unfold wOp; omega)]; exact c k hk'
theorem M_open_in {R : RS} {D : List DocT} {dl : Nat → Bool} {L : List Nat} {x : SegT} {v i : Nat} (hv : v < 4) (hD : rDocs R D dl) (hDL : D.length ≤ 400) (hx : rSg R i x) (hi : i < 400) (hds : ∀ d, d ∈ x.2 → d < D.length) (hL : vLst R v L dl) (hl : L.length + x.2.length ≤ 400) : ∃ R', lp (fun q : Int32 × RS => M_open_l66 q.2 (nI v) (nI i) q.1) (nI 0, R) = some R' ∧ Rp (wOp v) R R' ∧ vLst R' v (L ++ x.2) dl ∧ R'.2.2 15 v = R.2.2 15 v ∧ R'.1 16 v = R.1 16 v := by
  refine lp_for (fun k (Y : RS) => (nI k, Y)) x.2.length (fun k Y => Rp (wOp v) R Y ∧ vLst Y v (L ++ x.2.take k) dl ∧ Y.2.2 15 v = R.2.2 15 v ∧ Y.1 16 v = R.1 16 v) _ (fun k Y hk hI => ?_) (fun Y hI => ?_) x.2.length 0 R (by omega) ⟨Rp.rf, by simpa using hL, rfl, rfl⟩
  · left
    obtain ⟨y1, y2, y3, y4⟩ := hI
    obtain ⟨h1, h2, h3⟩ := hx.rp y1 (by unfold wOp; omega) (by unfold wOp; omega) (fun _ _ => by unfold wOp; omega)
    have hDY := hD.rp y1 (by unfold wOp; omega) (fun _ _ _ _ _ => by unfold wOp; omega)
    have hdk := hds _ (getD_mem (d := 0) hk)
    have h3k := h3 k hk
    have h5 := (hDY.2.1 _ hdk).2.2.2
    rw [take_s hk, ← List.append_assoc]
    have hlen : (L ++ x.2.take k).length = L.length + k := by rw [List.length_append, List.length_take]; omega
    generalize L ++ x.2.take k = L at *
    generalize x.2.getD k 0 = d at *
    obtain ⟨q1, q2⟩ := y2
    unfold M_open_l66
    simp (disch := first | assumption | omega | (simp only [gT_sI, gT_sL, gT_sR, gT_sB]; first | assumption | omega)) only [Option.bind_some, ldI_ok, ldL_ok, ldR_ok, ldB_ok, stI_ok, stL_ok, stR_ok, stB_ok, chk_ok, raI_k, raL_k, raR_k, raB_k, waI_k, waL_k, waB_k, waR_k, alen_k, gT_sI, gT_sL, gT_sR, gT_sB, gN_sI, gN_sL, gN_sR, gN_sB, gI_sL, gI_sR, gI_sB, gL_sI, gL_sR, gL_sB, gR_sI, gR_sL, gR_sB, gB_sI, gB_sL, gB_sR, gI_sIs, gL_sLs, gR_sRs, gB_sBs, gI_sIn, gL_sLn, gR_sRn, gB_sBn, rdI_ok, rdL_ok, rdB_ok, wrI_ok, wrL_ok, wrB_ok, h2]
    simp (disch := omega) only [nl, nI_add, nI_mul, iSub, iEq, iLe, iLt, iEqN, iNEq, iNN, iLtN, iNLt, iLeN, iNLe, iAddN, iNAdd, iMin, iMax, iDiv, iRem]
    rw [if_neg (by omega)]
    simp (disch := first | assumption | omega | (simp only [gT_sI, gT_sL, gT_sR, gT_sB]; first | assumption | omega)) only [Option.bind_some, ldI_ok, ldL_ok, ldR_ok, ldB_ok, stI_ok, stL_ok, stR_ok, stB_ok, chk_ok, raI_k, raL_k, raR_k, raB_k, waI_k, waL_k, waB_k, waR_k, alen_k, gT_sI, gT_sL, gT_sR, gT_sB, gN_sI, gN_sL, gN_sR, gN_sB, gI_sL, gI_sR, gI_sB, gL_sI, gL_sR, gL_sB, gR_sI, gR_sL, gR_sB, gB_sI, gB_sL, gB_sR, gI_sIs, gL_sLs, gR_sRs, gB_sBs, gI_sIn, gL_sLn, gR_sRn, gB_sBn, rdI_ok, rdL_ok, rdB_ok, wrI_ok, wrL_ok, wrB_ok, h3k, q1, h5]
    try simp (disch := omega) only [nl, nI_add, nI_mul, iSub, iEq, iLe, iLt, iEqN, iNEq, iNN, iLtN, iNLt, iLeN, iNLe, iAddN, iNAdd, iMin, iMax, iDiv, iRem]
    try simp (disch := first | assumption | omega | (simp only [gT_sI, gT_sL, gT_sR, gT_sB]; first | assumption | omega)) only [Option.bind_some, ldI_ok, ldL_ok, ldR_ok, ldB_ok, stI_ok, stL_ok, stR_ok, stB_ok, chk_ok, raI_k, raL_k, raR_k, raB_k, waI_k, waL_k, waB_k, waR_k, alen_k, gT_sI, gT_sL, gT_sR, gT_sB, gN_sI, gN_sL, gN_sR, gN_sB, gI_sL, gI_sR, gI_sB, gL_sI, gL_sR, gL_sB, gR_sI, gR_sL, gR_sB, gB_sI, gB_sL, gB_sR, gI_sIs, gL_sLs, gR_sRs, gB_sBs, gI_sIn, gL_sLn, gR_sRn, gB_sBn, rdI_ok, rdL_ok, rdB_ok, wrI_ok, wrL_ok, wrB_ok]
    try simp (disch := omega) only [pI, pL, pB, up2_s, up2_ne, q1]
    try simp (disch := omega) only [nl, nI_add, nI_mul, iSub, iEq, iLe, iLt, iEqN, iNEq, iNN, iLtN, iNLt, iLeN, iNLe, iAddN, iNAdd, iMin, iMax, iDiv, iRem]
    try simp (disch := first | assumption | omega | (simp only [gT_sI, gT_sL, gT_sR, gT_sB]; first | assumption | omega)) only [Option.bind_some, ldI_ok, ldL_ok, ldR_ok, ldB_ok, stI_ok, stL_ok, stR_ok, stB_ok, chk_ok, raI_k, raL_k, raR_k, raB_k, waI_k, waL_k, waB_k, waR_k, alen_k, gT_sI, gT_sL, gT_sR, gT_sB, gN_sI, gN_sL, gN_sR, gN_sB, gI_sL, gI_sR, gI_sB, gL_sI, gL_sR, gL_sB, gR_sI, gR_sL, gR_sB, gB_sI, gB_sL, gB_sR, gI_sIs, gL_sLs, gR_sRs, gB_sBs, gI_sIn, gL_sLn, gR_sRn, gB_sBn, rdI_ok, rdL_ok, rdB_ok, wrI_ok, wrL_ok, wrB_ok, h5]
    try simp (disch := omega) only [pI, pL, pB, up2_s, up2_ne, q1]
    try simp (disch := omega) only [nl, nI_add, nI_mul, iSub, iEq, iLe, iLt, iEqN, iNEq, iNN, iLtN, iNLt, iLeN, iNLe, iAddN, iNAdd, iMin, iMax, iDiv, iRem]
    refine ⟨_, rfl, ?_, ⟨?_, fun j hj => ?_⟩, ?_, ?_⟩
    · refine Rp.tr y1 (W' := wOp v) (fun c j _ => ⟨fun q => ?_, fun _ => rfl, fun q => ?_⟩) (fun _ _ _ q => q)
      · simp only
        rw [up2_ne (fun z => q (Or.inl ⟨rfl, Or.inl ⟨Or.inr z.1, z.2⟩⟩)), up2_ne (fun z => q (Or.inl ⟨rfl, Or.inr ⟨z.1, by omega, by omega⟩⟩))]
      · simp only
        rw [up2_ne (fun z => q (Or.inr ⟨rfl, Or.inr ⟨z.1, by omega, by omega⟩⟩))]
    · simp only [pI, pL, pB, up2_s, up2_ne, List.length_append, List.length_singleton]
    · rw [List.length_append, List.length_singleton] at hj
      rw [getD_app]
      simp only
      by_cases q : j = L.length
      · subst q
        rw [if_neg (by omega), if_pos rfl, up2_s, up2_ne (by omega), up2_s]
        exact ⟨rfl, rfl⟩
      · rw [if_pos (by omega), up2_ne (by omega), up2_ne (by omega), up2_ne (by omega)]
        exact q2 j (by omega)
    · simp only
      rw [up2_ne (by omega)]
      exact y3
    · simp only
      rw [up2_ne (by omega), up2_ne (by omega)]
      exact y4
  · obtain ⟨y1, y2, y3, y4⟩ := hI
    obtain ⟨h1, h2, h3⟩ := hx.rp y1 (by unfold wOp; omega) (by unfold wOp; omega) (fun _ _ => by unfold wOp; omega)
    rw [List.take_length] at y2
    refine ⟨Y, ?_, y1, y2, y3, y4⟩
    unfold M_open_l66
    simp (disch := first | assumption | omega | (simp only [gT_sI, gT_sL, gT_sR, gT_sB]; first | assumption | omega)) only [Option.bind_some, ldI_ok, ldL_ok, ldR_ok, ldB_ok, stI_ok, stL_ok, stR_ok, stB_ok, chk_ok, raI_k, raL_k, raR_k, raB_k, waI_k, waL_k, waB_k, waR_k, alen_k, gT_sI, gT_sL, gT_sR, gT_sB, gN_sI, gN_sL, gN_sR, gN_sB, gI_sL, gI_sR, gI_sB, gL_sI, gL_sR, gL_sB, gR_sI, gR_sL, gR_sB, gB_sI, gB_sL, gB_sR, gI_sIs, gL_sLs, gR_sRs, gB_sBs, gI_sIn, gL_sLn, gR_sRn, gB_sBn, rdI_ok, rdL_ok, rdB_ok, wrI_ok, wrL_ok, wrB_ok, h2]
    simp only [iLe (show x.2.length < 2147483648 by omega) (show x.2.length < 2147483648 by omega)]
    rw [if_pos (Nat.le_refl _)]
theorem M_open_ok {R : RS} {tp : Nat → Nat} {n : Nat} {D : List DocT} {dl : Nat → Bool} {bs : Nat} {G : List SegT} {V : Nat → VwT} {A : AnT} {nr : Option (List Nat)} {mg : Nat} {st sp : Bool} (h : rH R tp n D dl bs G V A nr mg st sp) (ok : okG D bs G mg) (hVl : ∀ i, i < 4 → (V i).1 = true → (vDocs (V i)).length ≤ 400) : ∃ R', M_open R = some ((if opS V < 4 then nI (opS V) else -3), R') ∧ rH R' tp n D dl bs G (if opS V < 4 then vSet V (opS V) (vwS G dl) else V) A nr mg st sp := by
  have h0 := h
  obtain ⟨h1, h2, h3, h4, h5, h6, h7, h8, h9, h10⟩ := h
  obtain ⟨o1, o2, o3, o4, o5, o6, o7, o8⟩ := ok
  have hr := run_ge (fun i => (V i).1) 4 0
  have hle : opS V ≤ 4 := by unfold opS; omega
  have hlp : lp (fun q : Int32 => M_open_l2 R q) (nI 0) = some (nI (opS V)) := by
    refine lp_run (p := fun i => (V i).1) 4 0 (fun i a1 a2 a3 => ?_) ?_
    · unfold M_open_l2
      simp (disch := first | assumption | omega | (simp only [gT_sI, gT_sL, gT_sR, gT_sB]; first | assumption | omega)) only [Option.bind_some, ldI_ok, ldL_ok, ldR_ok, ldB_ok, stI_ok, stL_ok, stR_ok, stB_ok, chk_ok, raI_k, raL_k, raR_k, raB_k, waI_k, waL_k, waB_k, waR_k, alen_k, gT_sI, gT_sL, gT_sR, gT_sB, gN_sI, gN_sL, gN_sR, gN_sB, gI_sL, gI_sR, gI_sB, gL_sI, gL_sR, gL_sB, gR_sI, gR_sL, gR_sB, gB_sI, gB_sL, gB_sR, gI_sIs, gL_sLs, gR_sRs, gB_sBs, gI_sIn, gL_sLn, gR_sRn, gB_sBn, rdI_ok, rdL_ok, rdB_ok, wrI_ok, wrL_ok, wrB_ok, nl, nI_add, nI_mul, iSub, iEq, iLe, iLt, iEqN, iNEq, iNN, iLtN, iNLt, iLeN, iNLe, iAddN, iNAdd, iMin, iMax, iDiv, iRem, (h5 i (by omega)).1]
      rw [if_neg (by omega), if_pos a3]
    · show M_open_l2 R (nI (opS V)) = _
      unfold M_open_l2
      by_cases c : opS V < 4
      · have ho : (V (opS V)).1 = false := run_out (fun i => (V i).1) 4 0 (by unfold opS at c; omega)
        simp (disch := first | assumption | omega | (simp only [gT_sI, gT_sL, gT_sR, gT_sB]; first | assumption | omega)) only [Option.bind_some, ldI_ok, ldL_ok, ldR_ok, ldB_ok, stI_ok, stL_ok, stR_ok, stB_ok, chk_ok, raI_k, raL_k, raR_k, raB_k, waI_k, waL_k, waB_k, waR_k, alen_k, gT_sI, gT_sL, gT_sR, gT_sB, gN_sI, gN_sL, gN_sR, gN_sB, gI_sL, gI_sR, gI_sB, gL_sI, gL_sR, gL_sB, gR_sI, gR_sL, gR_sB, gB_sI, gB_sL, gB_sR, gI_sIs, gL_sLs, gR_sRs, gB_sBs, gI_sIn, gL_sLn, gR_sRn, gB_sBn, rdI_ok, rdL_ok, rdB_ok, wrI_ok, wrL_ok, wrB_ok, nl, nI_add, nI_mul, iSub, iEq, iLe, iLt, iEqN, iNEq, iNN, iLtN, iNLt, iLeN, iNLe, iAddN, iNAdd, iMin, iMax, iDiv, iRem, (h5 _ c).1, ho]
        rw [if_neg (by omega)]
        simp
      · have : opS V = 4 := by omega
        rw [this]
        simp (disch := omega) only [nl, nI_add, nI_mul, iSub, iEq, iLe, iLt, iEqN, iNEq, iNN, iLtN, iNLt, iLeN, iNLe, iAddN, iNAdd, iMin, iMax, iDiv, iRem]
        rw [if_pos (by omega)]
  unfold M_open
  rw [show (0 : Int32) = nI 0 from rfl, hlp]
  have c4 : (nI (opS V) = 4) = (opS V = 4) := iEq (b := 4) (by omega) (by omega)
  simp only [Option.bind_some, c4]
  by_cases c : opS V < 4
  · rw [if_pos (by omega), if_pos c, if_pos c]
    generalize opS V = v at *
    simp (disch := first | assumption | omega | (simp only [gT_sI, gT_sL, gT_sR, gT_sB]; first | assumption | omega)) only [Option.bind_some, ldI_ok, ldL_ok, ldR_ok, ldB_ok, stI_ok, stL_ok, stR_ok, stB_ok, chk_ok, raI_k, raL_k, raR_k, raB_k, waI_k, waL_k, waB_k, waR_k, alen_k, gT_sI, gT_sL, gT_sR, gT_sB, gN_sI, gN_sL, gN_sR, gN_sB, gI_sL, gI_sR, gI_sB, gL_sI, gL_sR, gL_sB, gR_sI, gR_sL, gR_sB, gB_sI, gB_sL, gB_sR, gI_sIs, gL_sLs, gR_sRs, gB_sBs, gI_sIn, gL_sLn, gR_sRn, gB_sBn, rdI_ok, rdL_ok, rdB_ok, wrI_ok, wrL_ok, wrB_ok]
    simp only [h4.1]
    generalize hR9 : ((up2 (up2 R.1 16 v (nI G.length)) 17 v (nI 0), R.2.1, up2 R.2.2 15 v true) : RS) = R9
    have k9 : Rp (wOp v) R R9 := by
      rw [← hR9]
      refine fun c' j _ => ⟨fun q => ?_, fun _ => rfl, fun q => ?_⟩
      · simp only
        rw [up2_ne (fun z => q (Or.inl ⟨rfl, Or.inl ⟨Or.inr z.1, z.2⟩⟩)), up2_ne (fun z => q (Or.inl ⟨rfl, Or.inl ⟨Or.inl z.1, z.2⟩⟩))]
      · simp only
        rw [up2_ne (fun z => q (Or.inr ⟨rfl, Or.inl z⟩))]
    have a15 : R9.2.2 15 v = true := by rw [← hR9]; simp only [pI, pL, pB, up2_s, up2_ne]
    have a16 : R9.1 16 v = nI G.length := by rw [← hR9]; simp (disch := omega) only [pI, pL, pB, up2_s, up2_ne]
    have aL : vLst R9 v [] dl := ⟨by rw [← hR9]; simp only [pI, pL, pB, up2_s, up2_ne]; rfl, fun k hk => absurd hk (by simp)⟩
    clear hR9
    have htk : ∀ k, k < G.length → (dsOf (G.take k)).flatten.length + (gA G k).2.length ≤ 400 := fun k hk => by
      have h1 := flat_len (G.take (k + 1))
      rw [flat_take hk, List.length_append] at h1
      have h2 : tot G = tot (G.take (k + 1)) + tot (G.drop (k + 1)) := by
        unfold tot
        rw [← sm_app, List.take_append_drop]
      omega
    obtain ⟨z, hz, z1, z2, z3, z4⟩ : ∃ z, lp (fun q : Int32 × RS => M_open_l56 q.2 (nI v) q.1) (nI 0, R9) = some z ∧ (Rp (wOp v) R z ∧ vLst z v (dsOf G).flatten dl ∧ z.2.2 15 v = true ∧ z.1 16 v = nI G.length) := by
      refine lp_for (fun k (Y : RS) => (nI k, Y)) G.length (fun k Y => Rp (wOp v) R Y ∧ vLst Y v (dsOf (G.take k)).flatten dl ∧ Y.2.2 15 v = true ∧ Y.1 16 v = nI G.length) _ (fun k Y hk hI => ?_) (fun Y hI => ?_) G.length 0 _ (by omega) ⟨k9, aL, a15, a16⟩
      · left
        obtain ⟨y1, y2, y3, y4⟩ := hI
        have hGY := h4.rp y1 (by unfold wOp; omega) (fun _ _ _ _ => by unfold wOp; omega)
        have hDY := h2.rp y1 (by unfold wOp; omega) (fun _ _ _ _ _ => by unfold wOp; omega)
        obtain ⟨Y2, e2, k2, L2, b2, c2⟩ := M_open_in c hDY (by omega) (hGY.2 k hk) (by omega) (o5 _ (gA_mem hk)) y2 (htk k hk)
        unfold M_open_l56
        rw [hGY.1]
        simp only [iLe (show G.length < 2147483648 by omega) (show k < 2147483648 by omega)]
        rw [if_neg (by omega), show (0 : Int32) = nI 0 from rfl, e2]
        simp only [Option.bind_some, nl, nI_add]
        exact ⟨Y2, rfl, Rp.tr y1 k2 (fun _ _ _ q => q), by rw [flat_take hk]; exact L2, by rw [b2]; exact y3, by rw [c2]; exact y4⟩
      · obtain ⟨y1, y2, y3, y4⟩ := hI
        have hGY := h4.rp y1 (by unfold wOp; omega) (fun _ _ _ _ => by unfold wOp; omega)
        rw [List.take_length] at y2
        refine ⟨Y, ?_, y1, y2, y3, y4⟩
        unfold M_open_l56
        rw [hGY.1]
        simp only [iLe (show G.length < 2147483648 by omega) (show G.length < 2147483648 by omega)]
        rw [if_pos (Nat.le_refl _)]
    try simp only [nl] at hz
    try simp only [nl]
    rw [hz]
    refine ⟨z, rfl, h1.rp z1 (by unfold wOp; omega) (fun _ => by unfold wOp; omega), h2.rp z1 (by unfold wOp; omega) (fun _ _ _ _ _ => by unfold wOp; omega), h3.rp z1 (by unfold wOp; omega) (fun _ => by unfold wOp; omega), h4.rp z1 (by unfold wOp; omega) (fun _ _ _ _ => by unfold wOp; omega), fun i hi => ?_, h6.rp z1 ⟨by unfold wOp; omega, by unfold wOp; omega, by unfold wOp; omega⟩ (fun _ _ _ _ => by unfold wOp; omega), h7.rp z1 (by unfold wOp; omega) (fun _ => by unfold wOp; omega), ?_, ?_, ?_⟩
    · unfold vSet
      by_cases q : i = v
      · rw [if_pos q, q]
        refine ⟨z3, fun _ => ⟨?_, z2.1, fun k hk => ⟨(z2.2 k hk).1, ?_⟩⟩⟩
        · rw [z4]
          show _ = nI (dsOf G).length
          unfold dsOf
          rw [List.length_map]
        · rw [(z2.2 k hk).2]
          exact (vwS_dead hk).symm
      · rw [if_neg q]
        exact (h5 i hi).rp2 z1 q (hVl i hi)
    · rw [z1.I (by decide) (by unfold wOp; omega)]; exact h8
    · rw [z1.B (by decide) (by unfold wOp; omega)]; exact h9
    · rw [z1.B (by decide) (by unfold wOp; omega)]; exact h10
  · rw [if_neg (by omega), if_neg c, if_neg c]
    exact ⟨R, rfl, h0⟩
theorem M_find0_ok {R : RS} {tp : Nat → Nat} {n : Nat} (h : rBy R tp) (hn : n ≤ 600) (x1 : Int64) (x3 x4 : Int32) : lp (fun q : Int32 => M_add_l14 R x1 x3 x4 (nI n) q) (nI 0) = some (nI (fz tp n)) := by
  have hle := fz_le tp n
  refine lp_run (p := fun i => decide (tp i ≠ 0)) n 0 (fun i a1 a2 a3 => ?_) ?_
  · obtain ⟨b1, b2⟩ := h i (by omega)
    have a3 := of_decide_eq_true a3
    unfold M_add_l14
    simp (disch := first | assumption | omega | (simp only [gT_sI, gT_sL, gT_sR, gT_sB]; first | assumption | omega)) only [Option.bind_some, ldI_ok, ldL_ok, ldR_ok, ldB_ok, stI_ok, stL_ok, stR_ok, stB_ok, chk_ok, raI_k, raL_k, raR_k, raB_k, waI_k, waL_k, waB_k, waR_k, alen_k, gT_sI, gT_sL, gT_sR, gT_sB, gN_sI, gN_sL, gN_sR, gN_sB, gI_sL, gI_sR, gI_sB, gL_sI, gL_sR, gL_sB, gR_sI, gR_sL, gR_sB, gB_sI, gB_sL, gB_sR, gI_sIs, gL_sLs, gR_sRs, gB_sBs, gI_sIn, gL_sLn, gR_sRn, gB_sBn, rdI_ok, rdL_ok, rdB_ok, wrI_ok, wrL_ok, wrB_ok, nl, nI_add, nI_mul, iSub, iEq, iLe, iLt, iEqN, iNEq, iNN, iLtN, iNLt, iLeN, iNLe, iAddN, iNAdd, iMin, iMax, iDiv, iRem, b2]
    rw [if_neg (by omega)]
    have : (nI (tp i) = 0) = (tp i = 0) := iEq (b := 0) (by omega) (by omega)
    try simp only [iEq (show tp i < 2147483648 by omega) (show 0 < 2147483648 by omega)]
    rw [if_neg a3]
  · show M_add_l14 R x1 x3 x4 (nI n) (nI (fz tp n)) = _
    unfold M_add_l14
    by_cases c : fz tp n < n
    · have ho : decide (tp (fz tp n) ≠ 0) = false := run_out (fun i => decide (tp i ≠ 0)) n 0 (by unfold fz at c; omega)
      have ho := of_decide_eq_false ho
      generalize fz tp n = z at *
      obtain ⟨b1, b2⟩ := h z (by omega)
      have ho : tp z = 0 := Decidable.not_not.mp ho
      simp (disch := first | assumption | omega | (simp only [gT_sI, gT_sL, gT_sR, gT_sB]; first | assumption | omega)) only [Option.bind_some, ldI_ok, ldL_ok, ldR_ok, ldB_ok, stI_ok, stL_ok, stR_ok, stB_ok, chk_ok, raI_k, raL_k, raR_k, raB_k, waI_k, waL_k, waB_k, waR_k, alen_k, gT_sI, gT_sL, gT_sR, gT_sB, gN_sI, gN_sL, gN_sR, gN_sB, gI_sL, gI_sR, gI_sB, gL_sI, gL_sR, gL_sB, gR_sI, gR_sL, gR_sB, gB_sI, gB_sL, gB_sR, gI_sIs, gL_sLs, gR_sRs, gB_sBs, gI_sIn, gL_sLn, gR_sRn, gB_sBn, rdI_ok, rdL_ok, rdB_ok, wrI_ok, wrL_ok, wrB_ok, nl, nI_add, nI_mul, iSub, iEq, iLe, iLt, iEqN, iNEq, iNN, iLtN, iNLt, iLeN, iNLe, iAddN, iNAdd, iMin, iMax, iDiv, iRem, b2]
      rw [if_neg (by omega), if_pos ho]
    · have : fz tp n = n := by omega
      rw [this]
      simp (disch := omega) only [nl, nI_add, nI_mul, iSub, iEq, iLe, iLt, iEqN, iNEq, iNN, iLtN, iNLt, iLeN, iNLe, iAddN, iNAdd, iMin, iMax, iDiv, iRem]
      rw [if_pos (by omega)]
theorem rH_tape {R : RS} {tp : Nat → Nat} {n : Nat} {D : List DocT} {dl : Nat → Bool} {bs : Nat} {G : List SegT} {V : Nat → VwT} {A : AnT} {nr : Option (List Nat)} {mg : Nat} {st sp : Bool} (h : rH R tp n D dl bs G V A nr mg st sp) : R.1 0 3 = nI n ∧ rH (pI R 3 0) tp 0 D dl bs G V A nr mg st sp := by
  obtain ⟨h1, h2, h3, h4, h5, h6, h7, h8, h9, h10⟩ := h
  have k : Rp (fun t c j => t = 0 ∧ c = 0 ∧ j = 3) R (pI R 3 0) := Rp.pI ⟨rfl, rfl, rfl⟩
  refine ⟨h1.2.1, ⟨by omega, by simp only [pI, pL, pB, up2_s, up2_ne]; rfl, fun i hi => by rw [k.I (by decide) (by omega)]; exact h1.2.2 i hi⟩, h2.rp k (by omega) (fun _ _ _ _ _ => by omega), h3.rp k (by omega) (fun _ => by omega), h4.rp k (by omega) (fun _ _ _ _ => by omega), fun i hi => (h5 i hi).rp k (fun _ _ _ _ _ => by omega), h6.rp k ⟨by omega, by omega, by omega⟩ (fun _ _ _ _ => by omega), h7.rp k (by omega) (fun _ => by omega), ?_, h9, h10⟩
  rw [k.I (by decide) (by omega)]; exact h8
def wD1 (d : Nat) : Nat → Nat → Nat → Prop := fun t c k => (t = 0 ∧ c = 0 ∧ k = 4) ∨ (t = 1 ∧ c = 2 ∧ k = d) ∨ (t = 0 ∧ (c = 3 ∨ c = 4) ∧ k = d)
/-- .. told more coarsely -/
def wDc (d : Nat) : Nat → Nat → Nat → Prop := fun t c k => (t = 0 ∧ c = 0 ∧ (k = 4 ∨ k = 15 ∨ k = 38)) ∨ (t = 0 ∧ c = 27) ∨ (t = 0 ∧ c = 11) ∨ (t = 0 ∧ (c = 3 ∨ c = 4) ∧ k = d) ∨ (t = 0 ∧ c = 6 ∧ 2 * d ≤ k) ∨ (t = 0 ∧ (c = 7 ∨ c = 8 ∨ c = 9) ∧ 250 * d ≤ k) ∨ (t = 0 ∧ c = 10 ∧ 12 * (250 * d) ≤ k) ∨ (t = 1 ∧ c = 2 ∧ k = d)
theorem wTok_c {d f : Nat} : ∀ t c k, wTok d f t c k → wDc d t c k := fun t c k q => by
  unfold wTok at q
  unfold wDc
  obtain ⟨rfl, q⟩ := q
  rcases q with ⟨rfl, rfl⟩ | rfl | ⟨rfl | rfl | rfl, h1, h2⟩ | ⟨rfl, h1, h2⟩ | ⟨rfl, rfl⟩ <;> omega
theorem rH_add {R : RS} {tp : Nat → Nat} {n m : Nat} {D : List DocT} {dl : Nat → Bool} {bs : Nat} {G : List SegT} {V : Nat → VwT} {A : AnT} {nr : Option (List Nat)} {mg : Nat} {st sp : Bool} (h : rH R tp m D dl bs G V A nr mg st sp) (hn : n ≤ 600) (hL : D.length < 400) (hbs : bs ≤ D.length) (hbad : ¬ addBad tp n) (hD : ∀ i f, i < D.length → f < 2 → (dTok (dA D i) f).length ≤ 50 + 150 * f) (hterm : ∀ i f, i < D.length → f < 2 → ∀ t, t ∈ dTok (dA D i) f → okTok t) (hdl : dl D.length = false) (key : Int64) (x y : Int32) : ∃ R', ((some (pI R 4 ((R.1 0 4) + 1))).bind fun R16 => (wrL R16 2 400 (R.1 0 4) key).bind fun R17 => (wrI R17 3 400 (R.1 0 4) x).bind fun R18 => (wrI R18 4 400 (R.1 0 4) y).bind fun R19 => (M_tokens R19 (R.1 0 4) 0 0 (nI (fz tp n))).bind fun v20 => (M_tokens v20 (R.1 0 4) 1 (nI (min (fz tp n + 1) n)) (nI n)).bind fun v21 => (wrI v21 11 400 (v21.1 0 15) (R.1 0 4)).bind fun R22 => (some (pI R22 15 ((R22.1 0 15) + 1))).bind fun R23 => some R23) = some R' ∧ rH R' tp m (D ++ [addD st sp tp n key x y]) dl bs G V A nr mg st sp := by
  obtain ⟨h1, h2, h3, h4, h5, h6, h7, h8, h9, h10⟩ := h
  have hle := fz_le tp n
  have hb0 := addD_len (st := st) (sp := sp) (key := key) (x := x) (y := y) hbad 0 (by omega)
  have hb1 := addD_len (st := st) (sp := sp) (key := key) (x := x) (y := y) hbad 1 (by omega)
  rw [h2.1]
  simp only [Option.bind_some, nl, nI_add]
  simp (disch := first | assumption | omega | (simp only [gT_sI, gT_sL, gT_sR, gT_sB]; first | assumption | omega)) only [Option.bind_some, ldI_ok, ldL_ok, ldR_ok, ldB_ok, stI_ok, stL_ok, stR_ok, stB_ok, chk_ok, raI_k, raL_k, raR_k, raB_k, waI_k, waL_k, waB_k, waR_k, alen_k, gT_sI, gT_sL, gT_sR, gT_sB, gN_sI, gN_sL, gN_sR, gN_sB, gI_sL, gI_sR, gI_sB, gL_sI, gL_sR, gL_sB, gR_sI, gR_sL, gR_sB, gB_sI, gB_sL, gB_sR, gI_sIs, gL_sLs, gR_sRs, gB_sBs, gI_sIn, gL_sLn, gR_sRn, gB_sBn, rdI_ok, rdL_ok, rdB_ok, wrI_ok, wrL_ok, wrB_ok]
  generalize hR2 : ((up2 (up2 (pI R 4 (nI (D.length + 1))).1 3 D.length x) 4 D.length y, up2 (pI R 4 (nI (D.length + 1))).2.1 2 D.length key, (pI R 4 (nI (D.length + 1))).2.2) : RS) = R2
  have k2 : Rp (wD1 D.length) R R2 := by
    rw [← hR2]
    refine fun c j _ => ⟨fun q => ?_, fun q => ?_, fun _ => rfl⟩
    · simp only [pI]
      rw [up2_ne (fun z => q (by unfold wD1; omega)), up2_ne (fun z => q (by unfold wD1; omega)), up2_ne (fun z => q (by unfold wD1; omega))]
    · simp only [pI]
      rw [up2_ne (fun z => q (by unfold wD1; omega))]
  have a4 : R2.1 0 4 = nI (D.length + 1) := by rw [← hR2]; simp (disch := omega) only [pI, pL, pB, up2_s, up2_ne]
  have aK : R2.2.1 2 D.length = key := by rw [← hR2]; simp only [pI, pL, pB, up2_s, up2_ne]
  have aX : R2.1 3 D.length = x := by rw [← hR2]; simp (disch := omega) only [pI, pL, pB, up2_s, up2_ne]
  have aY : R2.1 4 D.length = y := by rw [← hR2]; simp (disch := omega) only [pI, pL, pB, up2_s, up2_ne]
  clear hR2
  have nT : ∀ t c k, ¬ wTok D.length 0 t c k → ¬ wTok D.length 1 t c k → True := fun _ _ _ _ _ => trivial
  have by2 : rBy R2 tp := h1.by.rp k2 (fun k q => by unfold wD1 at q; omega)
  have s2 : R2.2.2 0 0 = st := by rw [k2.B (by decide) (fun q => by unfold wD1 at q; omega)]; exact h9
  have p2 : R2.2.2 0 1 = sp := by rw [k2.B (by decide) (fun q => by unfold wD1 at q; omega)]; exact h10
  obtain ⟨R3, e3, k3, l3, t3⟩ := M_tokens_ok (a := 0) (b := fz tp n) by2 s2 p2 hL (show 0 < 2 by omega) (by omega) (by omega) hb0
  rw [e3]
  simp only [Option.bind_some]
  have by3 : rBy R3 tp := by2.rp k3 (fun k q => by unfold wTok at q; omega)
  have s3 : R3.2.2 0 0 = st := by rw [k3.B (by decide) (fun q => by unfold wTok at q; omega)]; exact s2
  have p3 : R3.2.2 0 1 = sp := by rw [k3.B (by decide) (fun q => by unfold wTok at q; omega)]; exact p2
  obtain ⟨R4, e4, k4, l4, t4⟩ := M_tokens_ok (a := min (fz tp n + 1) n) (b := n) by3 s3 p3 hL (show 1 < 2 by omega) (by omega) hn hb1
  rw [e4]
  simp only [Option.bind_some]
  have k04 : Rp (wDc D.length) R R4 := Rp.tr (Rp.tr (k2.mono (fun t c k q => by
    unfold wD1 at q
    unfold wDc
    rcases q with ⟨rfl, rfl, rfl⟩ | ⟨rfl, rfl, rfl⟩ | ⟨rfl, rfl | rfl, rfl⟩ <;> omega)) k3 wTok_c) k4 wTok_c
  have i15 : R4.1 0 15 = nI (D.length - bs) := by
    rw [k4.I (by decide) (fun q => by unfold wTok at q; omega), k3.I (by decide) (fun q => by unfold wTok at q; omega), k2.I (by decide) (fun q => by unfold wD1 at q; omega)]
    exact h3.1
  rw [i15]
  simp (disch := first | assumption | omega | (simp only [gT_sI, gT_sL, gT_sR, gT_sB]; first | assumption | omega)) only [Option.bind_some, ldI_ok, ldL_ok, ldR_ok, ldB_ok, stI_ok, stL_ok, stR_ok, stB_ok, chk_ok, raI_k, raL_k, raR_k, raB_k, waI_k, waL_k, waB_k, waR_k, alen_k, gT_sI, gT_sL, gT_sR, gT_sB, gN_sI, gN_sL, gN_sR, gN_sB, gI_sL, gI_sR, gI_sB, gL_sI, gL_sR, gL_sB, gR_sI, gR_sL, gR_sB, gB_sI, gB_sL, gB_sR, gI_sIs, gL_sLs, gR_sRs, gB_sBs, gI_sIn, gL_sLn, gR_sRn, gB_sBn, rdI_ok, rdL_ok, rdB_ok, wrI_ok, wrL_ok, wrB_ok]
  simp (disch := omega) only [pI, pL, pB, up2_s, up2_ne, i15]
  simp only [nI_add]
  generalize hR6 : ((up2 (up2 R4.1 11 (D.length - bs) (nI D.length)) 0 15 (nI (D.length - bs + 1)), R4.2) : RS) = R6
  have k6 : Rp (fun t c k => t = 0 ∧ ((c = 11 ∧ k = D.length - bs) ∨ (c = 0 ∧ k = 15))) R4 R6 := by
    rw [← hR6]
    exact Rp.w2I (by omega) (by omega)
  have j15 : R6.1 0 15 = nI (D.length - bs + 1) := by rw [← hR6]; simp only [pI, pL, pB, up2_s, up2_ne]
  have j11 : R6.1 11 (D.length - bs) = nI D.length := by rw [← hR6]; simp (disch := omega) only [pI, pL, pB, up2_s, up2_ne]
  clear hR6
  have k06 : Rp (wDc D.length) R R6 := Rp.tr k04 k6 (fun t c k q => by
    unfold wDc
    rcases q with ⟨rfl, ⟨rfl, rfl⟩ | ⟨rfl, rfl⟩⟩ <;> omega)
  have hlen : (D ++ [addD st sp tp n key x y]).length = D.length + 1 := by rw [List.length_append]; rfl
  have hfield : ∀ f, f < 2 → R6.1 6 (2 * D.length + f) = nI (dTok (addD st sp tp n key x y) f).length ∧ rTk R6 D.length f (dTok (addD st sp tp n key x y) f).length (dTok (addD st sp tp n key x y) f) := fun f hf => by
    have : f = 0 ∨ f = 1 := by omega
    rcases this with rfl | rfl
    · have hl := hb0
      have e0 : dTok (addD st sp tp n key x y) 0 = toks st sp tp 0 (fz tp n) := rfl
      rw [e0] at hl ⊢
      refine ⟨?_, fun t ht => ?_⟩
      · rw [k6.I (by decide) (by omega), k4.I (by decide) (by unfold wTok; omega)]; exact l3
      · obtain ⟨u1, u2, u3, u4⟩ := t3 t ht
        have hk12 : (tA (toks st sp tp 0 (fz tp n)) t).2.2.length ≤ 12 := (toks_ok (st := st) (sp := sp) (fun i hi => (by2 i hi).1) (by omega) (by omega) _ (getD_mem ht)).2.2.1
        refine ⟨?_, ?_, ?_, fun k hk => ?_⟩
        · rw [k6.I (by decide) (by omega), k4.I (by decide) (by unfold wTok; omega)]; exact u1
        · rw [k6.I (by decide) (by omega), k4.I (by decide) (by unfold wTok; omega)]; exact u2
        · rw [k6.I (by decide) (by omega), k4.I (by decide) (by unfold wTok; omega)]; exact u3
        · rw [k6.I (by decide) (by omega), k4.I (by decide) (by unfold wTok; omega)]; exact u4 k hk
    · have e1 : dTok (addD st sp tp n key x y) 1 = toks st sp tp (min (fz tp n + 1) n) n := rfl
      rw [e1]
      refine ⟨?_, fun t ht => ?_⟩
      · rw [k6.I (by decide) (by omega)]; exact l4
      · obtain ⟨u1, u2, u3, u4⟩ := t4 t ht
        refine ⟨?_, ?_, ?_, fun k hk => ?_⟩
        · rw [k6.I (by decide) (by omega)]; exact u1
        · rw [k6.I (by decide) (by omega)]; exact u2
        · rw [k6.I (by decide) (by omega)]; exact u3
        · rw [k6.I (by decide) (by omega)]; exact u4 k hk
  have hT : rTape R6 tp m := h1.rp k06 (by unfold wDc; omega) (fun k => by unfold wDc; omega)
  refine ⟨R6, rfl, hT, ⟨?_, fun i hi => ?_, fun i hi => ?_, fun i f hi hf => ?_⟩, ⟨?_, fun k hk => ?_⟩, h4.rp k06 (by unfold wDc; omega) (fun c k h1 h2 => by unfold wDc; omega), fun i hi => (h5 i hi).rp k06 (fun t c k h1 h2 => by unfold wDc; omega), h6.rp k06 ⟨by unfold wDc; omega, by unfold wDc; omega, by unfold wDc; omega⟩ (fun c k h1 h2 => by unfold wDc; omega), h7.rp k06 (by unfold wDc; omega) (fun _ => by unfold wDc; omega), ?_, ?_, ?_⟩
  · rw [hlen, k6.I (by decide) (by omega), k4.I (by decide) (by unfold wTok; omega), k3.I (by decide) (by unfold wTok; omega)]
    exact a4
  · rw [hlen] at hi
    by_cases c : i = D.length
    · subst c
      rw [dA_new]
      refine ⟨?_, ?_, ?_, ?_⟩
      · rw [k6.L (by decide) (by omega), k4.L (by decide) (by unfold wTok; omega), k3.L (by decide) (by unfold wTok; omega)]
        exact aK
      · rw [k6.I (by decide) (by omega), k4.I (by decide) (by unfold wTok; omega), k3.I (by decide) (by unfold wTok; omega)]
        exact aX
      · rw [k6.I (by decide) (by omega), k4.I (by decide) (by unfold wTok; omega), k3.I (by decide) (by unfold wTok; omega)]
        exact aY
      · rw [k06.B (by decide) (by unfold wDc; omega), hdl]
        exact h2.2.2.1 _ (Nat.le_refl _)
    · rw [dA_app (by omega)]
      obtain ⟨d1, d2, d3, d4⟩ := h2.2.1 i (by omega)
      refine ⟨?_, ?_, ?_, ?_⟩
      · rw [k06.L (by decide) (by unfold wDc; omega)]; exact d1
      · rw [k06.I (by decide) (by unfold wDc; omega)]; exact d2
      · rw [k06.I (by decide) (by unfold wDc; omega)]; exact d3
      · rw [k06.B (by decide) (by unfold wDc; omega)]; exact d4
  · rw [k06.B (by decide) (by unfold wDc; omega)]
    exact h2.2.2.1 i (by omega)
  · rw [hlen] at hi
    by_cases c : i = D.length
    · subst c
      rw [dA_new]
      exact hfield f hf
    · rw [dA_app (by omega)]
      have hl := hD i f (by omega) hf
      obtain ⟨e1, e2⟩ := h2.2.2.2 i f (by omega) hf
      refine ⟨?_, fun t ht => ?_⟩
      · rw [k06.I (by decide) (by unfold wDc; omega)]; exact e1
      · obtain ⟨u1, u2, u3, u4⟩ := e2 t ht
        have hk12 : (tA (dTok (dA D i) f) t).2.2.length ≤ 12 := (hterm i f (by omega) hf _ (getD_mem ht)).2.2.1
        refine ⟨?_, ?_, ?_, fun k hk => ?_⟩
        · rw [k06.I (by decide) (by unfold wDc; omega)]; exact u1
        · rw [k06.I (by decide) (by unfold wDc; omega)]; exact u2
        · rw [k06.I (by decide) (by unfold wDc; omega)]; exact u3
        · rw [k06.I (by decide) (by unfold wDc; omega)]; exact u4 k hk
  · rw [hlen, j15]
    congr 1
    omega
  · rw [hlen] at hk
    by_cases c : k = D.length - bs
    · subst c
      rw [j11]
      congr 1
      omega
    · rw [k6.I (by decide) (by omega), k4.I (by decide) (by unfold wTok; omega), k3.I (by decide) (by unfold wTok; omega), k2.I (by decide) (by unfold wD1; omega)]
      exact h3.2 k (by omega)
  · rw [k06.I (by decide) (by unfold wDc; omega)]; exact h8
  · rw [k06.B (by decide) (by unfold wDc; omega)]; exact h9
  · rw [k06.B (by decide) (by unfold wDc; omega)]; exact h10
