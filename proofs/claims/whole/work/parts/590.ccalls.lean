/-! THE CLASS'S CALLS: delete, refresh, close, open -/
def fdP (D : List DocT) (dl : Nat → Bool) (key : Int64) (i : Nat) : Bool := !dl i && decide (dKey (dA D i) = key)
/-- the first document of a key that is not deleted; none: how many there are -/
def fdS (D : List DocT) (dl : Nat → Bool) (key : Int64) : Nat := run (fun i => !fdP D dl key i) D.length 0
theorem fdS_le (D : List DocT) (dl : Nat → Bool) (key : Int64) : fdS D dl key ≤ D.length := by
  have := run_ge (fun i => !fdP D dl key i) D.length 0
  unfold fdS
  omega
/-- deleted, with the document of a key -/
def dlS (D : List DocT) (dl : Nat → Bool) (key : Int64) : Nat → Bool := fun i => if i = fdS D dl key ∧ i < D.length then true else dl i
def wDel (a : Nat) : Nat → Nat → Nat → Prop := fun t b k => t = 3 ∧ b = a ∧ k = 6
theorem da_inj {e : Nat} {da : Nat → Nat} {σ : Mem} {D : List DocT} {dl : Nat → Bool} (h : cDocs e da σ D dl) {i k : Nat} (hi : i < D.length) (hk : k < D.length) (he : da i = da k) : i = k := by
  have h1 := (h.d hi).2.2.2.2.1
  have h2 := (h.d hk).2.2.2.2.1
  have hL := h.2.1
  rw [he, h2] at h1
  exact (nI_inj_lt (by omega) (by omega) h1).symm
theorem E_drop_ok {e : Nat} {da : Nat → Nat} {σ : Mem} {st sp : Bool} {D : List DocT} {dl : Nat → Bool} (hF : cFix e σ st sp) (hD : cDocs e da σ D dl) (key : Int64) : ∃ σ', E_drop σ e key = some (decide (fdS D dl key < D.length), σ') ∧ Kp (fun t b k => fdS D dl key < D.length ∧ wDel (da (fdS D dl key)) t b k) σ σ' ∧ gN σ' = gN σ ∧ gU σ' = gU σ ∧ cDocs e da σ' D (dlS D dl key) := by
  have t0 := iFix0 hF
  have hl := hD.1
  have h4 := hD.2.1
  have hle := fdS_le D dl key
  have hlp : lp (fun q : Int32 => E_drop_l2 σ e key q) (nI 0) = some (if fdS D dl key < D.length then .inl (some (da (fdS D dl key))) else .inr ()) := by
    refine lp_run (p := fun i => !fdP D dl key i) D.length 0 (fun i h1 h2 h3 => ?_) ?_
    · have d := hD.d (show i < D.length by omega)
      have td := d.1.t
      unfold E_drop_l2
      simp (disch := first | assumption | omega | (simp only [gT_sI, gT_sL, gT_sR, gT_sB]; first | assumption | omega)) only [Option.bind_some, ldI_ok, ldL_ok, ldR_ok, ldB_ok, stI_ok, stL_ok, stR_ok, stB_ok, chk_ok, raI_k, raL_k, raR_k, raB_k, waI_k, waL_k, waB_k, waR_k, alen_k, gT_sI, gT_sL, gT_sR, gT_sB, gN_sI, gN_sL, gN_sR, gN_sB, gI_sL, gI_sR, gI_sB, gL_sI, gL_sR, gL_sB, gR_sI, gR_sL, gR_sB, gB_sI, gB_sL, gB_sR, gI_sIs, gL_sLs, gR_sRs, gB_sBs, gI_sIn, gL_sLn, gR_sRn, gB_sBn, rdI_ok, rdL_ok, rdB_ok, wrI_ok, wrL_ok, wrB_ok, nl, nI_add, nI_mul, iSub, iEq, iLe, iLt, iEqN, iNEq, iNN, iLtN, iNLt, iLeN, iNLe, iAddN, iNAdd, iMin, iMax, iDiv, iRem, hl]
      rw [if_neg (by omega), E_documentAt_ok hF hD (by omega)]
      simp only [Option.bind_some]
      rw [E_isLive_ok hD (by omega)]
      simp only [Option.bind_some]
      have h3 : fdP D dl key i = false := by simpa using h3
      unfold fdP at h3
      cases hd : dl i with
      | true => simp only [if_true, if_false, not_true_eq_false, not_false_eq_true, true_and, and_true, false_and, and_false, true_or, or_true, false_or, or_false, decide_true, decide_false, Bool.false_eq_true, reduceCtorEq, Option.bind_some, Option.map_some, Option.map_none, Option.bind_none, jn_l, jn_r, jn_n, se_l, se_r, Bool.not_true]
      | false =>
        rw [hd] at h3
        have h3 : ¬ dKey (dA D i) = key := by simpa using h3
        simp only [if_true, if_false, not_true_eq_false, not_false_eq_true, true_and, and_true, false_and, and_false, true_or, or_true, false_or, or_false, decide_true, decide_false, Bool.false_eq_true, reduceCtorEq, Option.bind_some, Option.map_some, Option.map_none, Option.bind_none, jn_l, jn_r, jn_n, se_l, se_r, Bool.not_false]
        simp (disch := first | assumption | omega | (simp only [gT_sI, gT_sL, gT_sR, gT_sB]; first | assumption | omega)) only [Option.bind_some, ldI_ok, ldL_ok, ldR_ok, ldB_ok, stI_ok, stL_ok, stR_ok, stB_ok, chk_ok, raI_k, raL_k, raR_k, raB_k, waI_k, waL_k, waB_k, waR_k, alen_k, gT_sI, gT_sL, gT_sR, gT_sB, gN_sI, gN_sL, gN_sR, gN_sB, gI_sL, gI_sR, gI_sB, gL_sI, gL_sR, gL_sB, gR_sI, gR_sL, gR_sB, gB_sI, gB_sL, gB_sR, gI_sIs, gL_sLs, gR_sRs, gB_sBs, gI_sIn, gL_sLn, gR_sRn, gB_sBn, rdI_ok, rdL_ok, rdB_ok, wrI_ok, wrL_ok, wrB_ok, d.2.1]
        simp only [h3, if_true, if_false, not_true_eq_false, not_false_eq_true, true_and, and_true, false_and, and_false, true_or, or_true, false_or, or_false, decide_true, decide_false, Bool.false_eq_true, reduceCtorEq, Option.bind_some, Option.map_some, Option.map_none, Option.bind_none, jn_l, jn_r, jn_n, se_l, se_r]
    · show E_drop_l2 σ e key (nI (fdS D dl key)) = _
      unfold E_drop_l2
      by_cases c : fdS D dl key < D.length
      · have ho : (!fdP D dl key (fdS D dl key)) = false := run_out (fun i => !fdP D dl key i) D.length 0 (by unfold fdS at c; omega)
        generalize fdS D dl key = r at *
        rw [if_pos c]
        have d := hD.d c
        have td := d.1.t
        have ho : fdP D dl key r = true := by simpa using ho
        unfold fdP at ho
        rw [Bool.and_eq_true] at ho
        have h5 : dl r = false := by simpa using ho.1
        have h6 : dKey (dA D r) = key := of_decide_eq_true ho.2
        simp (disch := first | assumption | omega | (simp only [gT_sI, gT_sL, gT_sR, gT_sB]; first | assumption | omega)) only [Option.bind_some, ldI_ok, ldL_ok, ldR_ok, ldB_ok, stI_ok, stL_ok, stR_ok, stB_ok, chk_ok, raI_k, raL_k, raR_k, raB_k, waI_k, waL_k, waB_k, waR_k, alen_k, gT_sI, gT_sL, gT_sR, gT_sB, gN_sI, gN_sL, gN_sR, gN_sB, gI_sL, gI_sR, gI_sB, gL_sI, gL_sR, gL_sB, gR_sI, gR_sL, gR_sB, gB_sI, gB_sL, gB_sR, gI_sIs, gL_sLs, gR_sRs, gB_sBs, gI_sIn, gL_sLn, gR_sRn, gB_sBn, rdI_ok, rdL_ok, rdB_ok, wrI_ok, wrL_ok, wrB_ok, nl, nI_add, nI_mul, iSub, iEq, iLe, iLt, iEqN, iNEq, iNN, iLtN, iNLt, iLeN, iNLe, iAddN, iNAdd, iMin, iMax, iDiv, iRem, hl]
        rw [if_neg (by omega), E_documentAt_ok hF hD c]
        simp only [Option.bind_some]
        rw [E_isLive_ok hD c, h5]
        simp only [if_true, if_false, not_true_eq_false, not_false_eq_true, true_and, and_true, false_and, and_false, true_or, or_true, false_or, or_false, decide_true, decide_false, Bool.false_eq_true, reduceCtorEq, Option.bind_some, Option.map_some, Option.map_none, Option.bind_none, jn_l, jn_r, jn_n, se_l, se_r, Bool.not_false]
        simp (disch := first | assumption | omega | (simp only [gT_sI, gT_sL, gT_sR, gT_sB]; first | assumption | omega)) only [Option.bind_some, ldI_ok, ldL_ok, ldR_ok, ldB_ok, stI_ok, stL_ok, stR_ok, stB_ok, chk_ok, raI_k, raL_k, raR_k, raB_k, waI_k, waL_k, waB_k, waR_k, alen_k, gT_sI, gT_sL, gT_sR, gT_sB, gN_sI, gN_sL, gN_sR, gN_sB, gI_sL, gI_sR, gI_sB, gL_sI, gL_sR, gL_sB, gR_sI, gR_sL, gR_sB, gB_sI, gB_sL, gB_sR, gI_sIs, gL_sLs, gR_sRs, gB_sBs, gI_sIn, gL_sLn, gR_sRn, gB_sBn, rdI_ok, rdL_ok, rdB_ok, wrI_ok, wrL_ok, wrB_ok, d.2.1]
        simp only [h6, if_true, if_false, not_true_eq_false, not_false_eq_true, true_and, and_true, false_and, and_false, true_or, or_true, false_or, or_false, decide_true, decide_false, Bool.false_eq_true, reduceCtorEq, Option.bind_some, Option.map_some, Option.map_none, Option.bind_none, jn_l, jn_r, jn_n, se_l, se_r]
      · rw [if_neg c]
        have : fdS D dl key = D.length := by omega
        rw [this]
        simp (disch := first | assumption | omega | (simp only [gT_sI, gT_sL, gT_sR, gT_sB]; first | assumption | omega)) only [Option.bind_some, ldI_ok, ldL_ok, ldR_ok, ldB_ok, stI_ok, stL_ok, stR_ok, stB_ok, chk_ok, raI_k, raL_k, raR_k, raB_k, waI_k, waL_k, waB_k, waR_k, alen_k, gT_sI, gT_sL, gT_sR, gT_sB, gN_sI, gN_sL, gN_sR, gN_sB, gI_sL, gI_sR, gI_sB, gL_sI, gL_sR, gL_sB, gR_sI, gR_sL, gR_sB, gB_sI, gB_sL, gB_sR, gI_sIs, gL_sLs, gR_sRs, gB_sBs, gI_sIn, gL_sLn, gR_sRn, gB_sBn, rdI_ok, rdL_ok, rdB_ok, wrI_ok, wrL_ok, wrB_ok, nl, nI_add, nI_mul, iSub, iEq, iLe, iLt, iEqN, iNEq, iNN, iLtN, iNLt, iLeN, iNLe, iAddN, iNAdd, iMin, iMax, iDiv, iRem, hl]
        rw [if_pos (by omega)]
  unfold E_drop
  rw [show (0 : Int32) = nI 0 from rfl, hlp]
  by_cases c : fdS D dl key < D.length
  · rw [if_pos c]
    have d := hD.d c
    have td := d.1.t
    simp only [Option.bind_some, se_l]
    rw [stB_ok td]
    simp only [Option.bind_some]
    have kw : Kp (wDel (da (fdS D dl key))) σ (sB σ (da (fdS D dl key)) 6 true) := Kp.sB ⟨rfl, rfl, rfl⟩
    have hw : Wh (e + 401) σ (wDel (da (fdS D dl key))) := fun t a k h1 h2 h3 => Or.inl ⟨h3.1, by rw [h3.2.1]; exact td⟩
    have dge := d.1.1
    refine ⟨_, by simp [c], kw.mono (fun t a k _ q => ⟨c, q⟩), rfl, rfl, ?_, h4, fun i hi => ?_⟩
    · rw [gI_sB]; exact hl
    · obtain ⟨a1, a2, a3⟩ := hD.2.2 i hi
      refine ⟨by rw [gR_sB]; exact a1, a2.kp kw hw, ?_⟩
      unfold dlS
      by_cases q : i = fdS D dl key
      · rw [q, gB_sBs, if_pos ⟨rfl, c⟩]
      · have : da i ≠ da (fdS D dl key) := fun z => q (da_inj hD hi c z)
        rw [gB_sBn (fun z => this z.1), if_neg (fun z => q z.1)]
        exact a3
  · rw [if_neg c]
    refine ⟨σ, by simp [c, se_r], Kp.rf, rfl, rfl, hl, h4, fun i hi => ?_⟩
    obtain ⟨a1, a2, a3⟩ := hD.2.2 i hi
    refine ⟨a1, a2, ?_⟩
    unfold dlS
    rw [if_neg (by omega)]
    exact a3
/-- all that a frame keeps of an engine, but its documents -/
theorem keepA {e : Nat} {da : Nat → Nat} {σ σ' : Mem} {D : List DocT} {A : AnT} {W : Nat → Nat → Nat → Prop} (h : cAns e da σ A) (hk : Kp W σ σ') (hN : e + 401 ≤ gN σ) (hw : ∀ t a k, W t a k → (a = e ∧ k ≠ 13) ∨ (e + 3 ≤ a ∧ a < e + 24) ∨ e + 351 ≤ a) : cAns e da σ' A :=
  h.kp hk hN (fun q => by have := hw _ _ _ q; omega) (fun t c k h1 h2 q => by have := hw _ _ _ q; omega)
theorem E_delete_ok {e : Nat} {da : Nat → Nat} {σ : Mem} {tp : Nat → Nat} {n : Nat} {D : List DocT} {dl : Nat → Bool} {bs : Nat} {G : List SegT} {V : Nat → VwT} {A : AnT} {nr : Option (List Nat)} {mg : Nat} {st sp : Bool} (h : cH e da σ tp n D dl bs G V A nr mg st sp) (key : Int64) : ∃ σ', E_delete σ e key = some (decide (fdS D dl key < D.length), σ') ∧ Kp (fun t b k => fdS D dl key < D.length ∧ wDel (da (fdS D dl key)) t b k) σ σ' ∧ gN σ' = gN σ ∧ gU σ' = gU σ ∧ cH e da σ' tp n D (dlS D dl key) bs G V A nr mg st sp := by
  obtain ⟨hF, hT, hD, hb, hG, hV, hA, hn, hm⟩ := h
  obtain ⟨σ', e1, k1, n1, u1, D1⟩ := E_drop_ok hF hD key
  have hN := hF.N
  have hge : ∀ t b k, (fdS D dl key < D.length ∧ wDel (da (fdS D dl key)) t b k) → e + 401 ≤ b ∧ t = 3 ∧ (gT σ b).1 = 1 := fun t b k q => by
    have d := (hD.d q.1).1
    rw [q.2.2.1]
    exact ⟨d.1, q.2.1, d.t⟩
  have hw : Wh (e + 401) σ (fun t b k => fdS D dl key < D.length ∧ wDel (da (fdS D dl key)) t b k) := fun t a k h1 h2 h3 => Or.inl ⟨(hge _ _ _ h3).2.1, (hge _ _ _ h3).2.2⟩
  have no : ∀ t b k, b < e + 401 → ¬ (fdS D dl key < D.length ∧ wDel (da (fdS D dl key)) t b k) := fun t b k hb q => by have := hge _ _ _ q; omega
  refine ⟨σ', ?_, k1, n1, u1, hF.kp k1 (fun c k hc => ⟨fun q => absurd q (no _ _ _ (by omega)), fun q => absurd q (no _ _ _ (by omega)), fun q => absurd q (no _ _ _ (by omega))⟩), hT.kp k1 hN (no _ _ _ (by omega)) (fun k => no _ _ _ (by omega)), D1, ?_, hG.kp k1 hN hw (no _ _ _ (by omega)) (fun k => no _ _ _ (by omega)), fun i hi => (hV i hi).kp k1 hN hw hi (fun t c k _ _ => no _ _ _ (by omega)), hA.kp k1 hN (no _ _ _ (by omega)) (fun t c k _ _ => no _ _ _ (by omega)), hn.kp k1 hN (no _ _ _ (by omega)), ?_⟩
  · unfold E_delete
    rw [chk_ok (iFix0 hF)]
    simp only [Option.bind_some]
    rw [e1]
    rfl
  · rw [k1.I (by omega) (no _ _ _ (by omega))]; exact hb
  · rw [k1.I (by omega) (no _ _ _ (by omega))]; exact hm
/-- what a flush needs to know of an engine -/
def okG (D : List DocT) (bs : Nat) (G : List SegT) (mg : Nat) : Prop := bs ≤ D.length ∧ D.length ≤ 64 ∧ G.length ≤ 12 ∧ mass G + 1 ≤ 64 ∧ (∀ s, s ∈ G → ∀ d, d ∈ s.2 → d < D.length) ∧ tot G ≤ bs ∧ (∀ i f, i < D.length → f < 2 → (dTok (dA D i) f).length ≤ 50 + 150 * f) ∧ mg < 800
theorem cH_flush {e : Nat} {da : Nat → Nat} {σ : Mem} {tp : Nat → Nat} {n : Nat} {D : List DocT} {dl : Nat → Bool} {bs : Nat} {G : List SegT} {V : Nat → VwT} {A : AnT} {nr : Option (List Nat)} {mg : Nat} {st sp : Bool} (h : cH e da σ tp n D dl bs G V A nr mg st sp) (ok : okG D bs G mg) : ∃ σ', E_flush σ e = some σ' ∧ Kp (wF e) σ σ' ∧ gN σ' ≤ gN σ + 10 * (1 + ((flS dl bs D.length G mg).2 - mg)) ∧ gU σ' ≤ gU σ + 48072 * (1 + ((flS dl bs D.length G mg).2 - mg)) ∧ cH e da σ' tp n D dl D.length (flS dl bs D.length G mg).1 V A nr (flS dl bs D.length G mg).2 st sp := by
  obtain ⟨hF, hT, hD, hb, hG, hV, hA, hn, hm⟩ := h
  obtain ⟨o1, o2, o3, o4, o5, o6, o7, o8⟩ := ok
  have hN := hF.N
  obtain ⟨σ', e1, k1, n1, u1, G1, m1, b1⟩ := E_flush_ok ⟨hF, hD⟩ hG hm hb o1 o2 o3 o4 o5 o6 o7 o8
  have hFD := (show cFD e da σ D dl st sp from ⟨hF, hD⟩).kp k1
  refine ⟨σ', e1, k1, n1, u1, hFD.1, hT.kp k1 hN (by unfold wF; omega) (fun k => by unfold wF; omega), hFD.2, b1, G1, fun i hi => (hV i hi).kp k1 hN wF_h hi (fun t c k _ _ => by unfold wF; omega), hA.kp k1 hN (by unfold wF; omega) (fun t c k _ _ => by unfold wF; omega), hn.kp k1 hN (by unfold wF; omega), m1⟩
theorem E_refresh_ok {e : Nat} {da : Nat → Nat} {σ : Mem} {tp : Nat → Nat} {n : Nat} {D : List DocT} {dl : Nat → Bool} {bs : Nat} {G : List SegT} {V : Nat → VwT} {A : AnT} {nr : Option (List Nat)} {mg : Nat} {st sp : Bool} (h : cH e da σ tp n D dl bs G V A nr mg st sp) (ok : okG D bs G mg) : ∃ σ', E_refresh σ e = some (nI (flS dl bs D.length G mg).1.length, σ') ∧ Kp (wF e) σ σ' ∧ gN σ' ≤ gN σ + 10 * (1 + ((flS dl bs D.length G mg).2 - mg)) ∧ gU σ' ≤ gU σ + 48072 * (1 + ((flS dl bs D.length G mg).2 - mg)) ∧ cH e da σ' tp n D dl D.length (flS dl bs D.length G mg).1 V A nr (flS dl bs D.length G mg).2 st sp := by
  obtain ⟨σ', e1, k1, n1, u1, H⟩ := cH_flush h ok
  refine ⟨σ', ?_, k1, n1, u1, H⟩
  unfold E_refresh
  rw [chk_ok (iFix0 h.1)]
  simp only [Option.bind_some]
  rw [e1]
  simp only [Option.bind_some]
  rw [ldI_ok (iFix0 H.1), H.2.2.2.2.1.1]
  rfl
/-- views, one of them changed -/
def vSet (V : Nat → VwT) (i : Nat) (v : VwT) : Nat → VwT := fun k => if k = i then v else V k
def closeS (V : Nat → VwT) (x : Int32) : Int32 × (Nat → VwT) := match vAt V x with
  | none => (-2, V)
  | some i => (0, vSet V i (false, (V i).2))
theorem E_close_ok {e : Nat} {da : Nat → Nat} {σ : Mem} {tp : Nat → Nat} {n : Nat} {D : List DocT} {dl : Nat → Bool} {bs : Nat} {G : List SegT} {V : Nat → VwT} {A : AnT} {nr : Option (List Nat)} {mg : Nat} {st sp : Bool} (h : cH e da σ tp n D dl bs G V A nr mg st sp) (x : Int32) : ∃ σ', E_close σ e x = some ((closeS V x).1, σ') ∧ Kp (fun t a _ => t = 3 ∧ e + 8 ≤ a ∧ a < e + 24) σ σ' ∧ gN σ' = gN σ ∧ gU σ' = gU σ ∧ cH e da σ' tp n D dl bs G (closeS V x).2 A nr mg st sp := by
  have h0 := h
  obtain ⟨hF, hT, hD, hb, hG, hV, hA, hn, hm⟩ := h
  have hN := hF.N
  unfold E_close closeS
  rw [chk_ok (iFix0 hF)]
  simp only [Option.bind_some]
  rw [E_viewAt_ok hF hV]
  simp only [Option.bind_some]
  cases hx : vAt V x with
  | none => exact ⟨σ, rfl, Kp.rf, rfl, rfl, h0⟩
  | some i =>
    obtain ⟨hi, rfl, ho⟩ := vAt_ok hx
    have tv := (hF.vt hi).1
    simp only [Option.map_some]
    rw [if_neg (by simp), stB_ok tv]
    simp only [Option.bind_some]
    have k1 : Kp (fun t a k => t = 3 ∧ a = e + (8 + 4 * i) ∧ k = 0) σ (sB σ (e + (8 + 4 * i)) 0 false) := Kp.sB ⟨rfl, rfl, rfl⟩
    have hw : Wh (e + 401) σ (fun t a k => t = 3 ∧ a = e + (8 + 4 * i) ∧ k = 0) := fun t a k h1 h2 h3 => by omega
    refine ⟨_, rfl, k1.mono (fun t a k _ q => by omega), rfl, rfl, hF.kp k1 (fun c k hc => ⟨fun q => by omega, fun q => by omega, fun q => by omega⟩), hT.kp k1 hN (by omega) (fun k => by omega), hD.kp k1 hN hw (by omega) (fun k => by omega) (fun j hj q => by omega), ?_, hG.kp k1 hN hw (by omega) (fun k => by omega), fun j hj => ?_, hA.kp k1 hN (by omega) (fun t c k _ _ => by omega), hn.kp k1 hN (by omega), ?_⟩
    · rw [k1.I (by omega) (by omega)]; exact hb
    · unfold vSet
      by_cases q : j = i
      · subst q
        rw [if_pos rfl]
        exact ⟨gB_sBs _ _ _ _, fun z => by cases z⟩
      · rw [if_neg q]
        exact (hV j hj).kp k1 hN hw hj (fun t c k _ _ => by omega)
    · rw [k1.I (by omega) (by omega)]; exact hm
