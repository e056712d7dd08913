/-! THE CLASS'S CALLS: add -/
/-- the place of the tape's first 0, or its end -/
def fz (tp : Nat → Nat) (n : Nat) : Nat := run (fun i => decide (tp i ≠ 0)) n 0
theorem fz_le (tp : Nat → Nat) (n : Nat) : fz tp n ≤ n := by
  have := run_ge (fun i => decide (tp i ≠ 0)) n 0
  unfold fz
  omega
theorem jb_0 : ∀ b, b < 256 → (jb b = 0) = (b = 0) := by
  intro b hb
  have : ∀ b, b < 256 → (decide (jb b = 0) = decide (b = 0)) := by decide +kernel
  have := this b hb
  rw [decide_eq_decide] at this
  exact propext this
theorem cFix.tape {e : Nat} {σ : Mem} {st sp : Bool} {tp : Nat → Nat} {n : Nat} (h : cFix e σ st sp) (ht : cTape e σ tp n) : tpA σ (e + 3) tp := ⟨(iFix h 3 102 600 (by decide) rfl).1, (iFix h 3 102 600 (by decide) rfl).2, ht.2.2⟩
theorem cFix.sp {e : Nat} {σ : Mem} {st sp : Bool} (h : cFix e σ st sp) : isSp σ (e + 1) st sp ∧ spB σ (e + 1) := by
  have hN := h.N
  have r : gR σ (e + 1) 2 = some (e + 2) := h.2.1.2.2.2.2.2.2.2.2.1
  refine ⟨⟨(iFix h 1 7 0 (by decide) rfl).1, h.2.2.1, h.2.2.2.1, e + 2, r, (iFix h 2 101 11 (by decide) rfl).1, (iFix h 2 101 11 (by decide) rfl).2, fun i hi => h.2.2.2.2.1 i hi⟩, by omega, fun q hq => ?_⟩
  rw [r] at hq
  cases hq
  omega
theorem E_firstZero_ok {e : Nat} {σ : Mem} {st sp : Bool} {tp : Nat → Nat} {n : Nat} (hF : cFix e σ st sp) (ht : tpA σ (e + 3) tp) (hn : n ≤ 600) : E_firstZero σ e (nI n) = some (nI (fz tp n)) := by
  have t0 := iFix0 hF
  have r : gR σ e 1 = some (e + 3) := hF.2.1.2.1
  obtain ⟨h1, h2, h3⟩ := ht
  have hle := fz_le tp n
  have hlp : lp (fun q : Int32 => E_firstZero_l2 σ e (nI n) q) (nI 0) = some (if fz tp n < n then .inl (nI (fz tp n)) else .inr ()) := by
    refine lp_run (p := fun i => decide (tp i ≠ 0)) n 0 (fun i a1 a2 a3 => ?_) ?_
    · obtain ⟨b1, b2⟩ := h3 i (by omega)
      have a3 := of_decide_eq_true a3
      unfold E_firstZero_l2
      simp (disch := first | assumption | omega | (simp only [gT_sI, gT_sL, gT_sR, gT_sB]; first | assumption | omega)) only [Option.bind_some, ldI_ok, ldL_ok, ldR_ok, ldB_ok, stI_ok, stL_ok, stR_ok, stB_ok, chk_ok, raI_k, raL_k, raR_k, raB_k, waI_k, waL_k, waB_k, waR_k, alen_k, gT_sI, gT_sL, gT_sR, gT_sB, gN_sI, gN_sL, gN_sR, gN_sB, gI_sL, gI_sR, gI_sB, gL_sI, gL_sR, gL_sB, gR_sI, gR_sL, gR_sB, gB_sI, gB_sL, gB_sR, gI_sIs, gL_sLs, gR_sRs, gB_sBs, gI_sIn, gL_sLn, gR_sRn, gB_sBn, rdI_ok, rdL_ok, rdB_ok, wrI_ok, wrL_ok, wrB_ok, nl, nI_add, nI_mul, iSub, iEq, iLe, iLt, iEqN, iNEq, iNN, iLtN, iNLt, iLeN, iNLe, iAddN, iNAdd, iMin, iMax, iDiv, iRem, r, h2, b2]
      rw [if_neg (by omega), if_neg (by omega)]
      rw [show nI 0 = (0 : Int32) from rfl]
      simp only [jb_0 _ b1, a3, if_true, if_false, not_true_eq_false, not_false_eq_true, true_and, and_true, false_and, and_false, true_or, or_true, false_or, or_false, decide_true, decide_false, Bool.false_eq_true, reduceCtorEq, Option.bind_some, Option.map_some, Option.map_none, Option.bind_none, jn_l, jn_r, jn_n, se_l, se_r]
    · show E_firstZero_l2 σ e (nI n) (nI (fz tp n)) = _
      unfold E_firstZero_l2
      by_cases c : fz tp n < n
      · have ho : decide (tp (fz tp n) ≠ 0) = false := run_out (fun i => decide (tp i ≠ 0)) n 0 (by unfold fz at c; omega)
        have ho := of_decide_eq_false ho
        generalize fz tp n = z at *
        obtain ⟨b1, b2⟩ := h3 z (by omega)
        rw [if_pos c]
        simp (disch := first | assumption | omega | (simp only [gT_sI, gT_sL, gT_sR, gT_sB]; first | assumption | omega)) only [Option.bind_some, ldI_ok, ldL_ok, ldR_ok, ldB_ok, stI_ok, stL_ok, stR_ok, stB_ok, chk_ok, raI_k, raL_k, raR_k, raB_k, waI_k, waL_k, waB_k, waR_k, alen_k, gT_sI, gT_sL, gT_sR, gT_sB, gN_sI, gN_sL, gN_sR, gN_sB, gI_sL, gI_sR, gI_sB, gL_sI, gL_sR, gL_sB, gR_sI, gR_sL, gR_sB, gB_sI, gB_sL, gB_sR, gI_sIs, gL_sLs, gR_sRs, gB_sBs, gI_sIn, gL_sLn, gR_sRn, gB_sBn, rdI_ok, rdL_ok, rdB_ok, wrI_ok, wrL_ok, wrB_ok, nl, nI_add, nI_mul, iSub, iEq, iLe, iLt, iEqN, iNEq, iNN, iLtN, iNLt, iLeN, iNLe, iAddN, iNAdd, iMin, iMax, iDiv, iRem, r, h2, b2]
        rw [if_neg (by omega), if_neg (by omega)]
        rw [show nI 0 = (0 : Int32) from rfl]
        have ho : tp z = 0 := Decidable.not_not.mp ho
        rw [if_neg (fun q => q (by rw [jb_0 _ b1]; exact ho))]
      · have : fz tp n = n := by omega
        rw [if_neg c, this]
        simp (disch := omega) only [nl, nI_add, nI_mul, iSub, iEq, iLe, iLt, iEqN, iNEq, iNN, iLtN, iNLt, iLeN, iNLe, iAddN, iNAdd, iMin, iMax, iDiv, iRem]
        rw [if_pos (by omega)]
  unfold E_firstZero
  rw [show (0 : Int32) = nI 0 from rfl, hlp]
  by_cases c : fz tp n < n
  · rw [if_pos c]; rfl
  · have : fz tp n = n := by omega
    rw [if_neg c, this]; rfl
def addD (st sp : Bool) (tp : Nat → Nat) (n : Nat) (key : Int64) (x y : Int32) : DocT := (key, x, y, toks st sp tp 0 (fz tp n), toks st sp tp (min (fz tp n + 1) n) n)
def addBad (tp : Nat → Nat) (n : Nat) : Prop := 100 < fz tp n ∨ 400 < n - min (fz tp n + 1) n
theorem isSeg.da {lo : Nat} {σ : Mem} {da db : Nat → Nat} {D E : List DocT} {s : Nat} {g : SegT} (h : isSeg lo σ da D s g) (ha : ∀ d, d ∈ g.2 → db d = da d ∧ dA E d = dA D d) : isSeg lo σ db E s g := by
  obtain ⟨q, v, w, s1, s2, s3, s4, s5, s6, s7, s8, s9⟩ := h
  have hs : ∀ f, sgc D g.2 f = sgc E g.2 f := fun f => by
    funext t
    unfold sgc
    exact cN_congr _ (fun k hk => by rw [(ha _ (getD_mem hk)).2])
  exact ⟨q, v, w, s1, s2, s3, s4, s5, s6, fun k hk => by rw [(ha _ (getD_mem hk)).1]; exact s7 k hk, by rw [← hs]; exact s8, by rw [← hs]; exact s9⟩
theorem cView.da {e : Nat} {σ : Mem} {da db : Nat → Nat} {D E : List DocT} {i : Nat} {v : VwT} (h : cView e da σ D i v) (ha : ∀ d, d ∈ vDocs v → db d = da d ∧ dA E d = dA D d) : cView e db σ E i v := by
  refine ⟨h.1, fun ho => ?_⟩
  obtain ⟨b1, b2, b3, b4, b5, b6, b7⟩ := h.2 ho
  refine ⟨b1, b2, fun k hk => ?_, b4, b5, fun k hk => ?_, b7⟩
  · obtain ⟨s, l, c1, c2⟩ := b3 k hk
    exact ⟨s, l, c1, c2.da (fun d hd => ha d (List.mem_flatten.mpr ⟨_, getD_mem hk, hd⟩))⟩
  · rw [(ha _ (getD_mem hk)).1]
    exact b6 k hk
def okV (D : List DocT) (V : Nat → VwT) : Prop := ∀ i, i < 4 → (V i).1 = true → ∀ d, d ∈ vDocs (V i) → d < D.length
theorem dA_app {D : List DocT} {d : DocT} {k : Nat} (h : k < D.length) : dA (D ++ [d]) k = dA D k := by
  unfold dA
  rw [getD_app, if_pos h]
theorem dA_new {D : List DocT} {d : DocT} : dA (D ++ [d]) D.length = d := by
  unfold dA
  rw [getD_app, if_neg (Nat.lt_irrefl _), if_pos rfl]
theorem Do_init_ok {σ : Mem} {a i p q : Nat} {key : Int64} {x y : Int32} (ha : (gT σ a).1 = 1) : ∃ σ', Do_init σ a key x y (nI i) (some p) (some q) = some σ' ∧ Kp (fun t b _ => t ≠ 3 ∧ b = a) σ σ' ∧ gN σ' = gN σ ∧ gU σ' = gU σ ∧ gL σ' a 0 = key ∧ gI σ' a 1 = x ∧ gI σ' a 2 = y ∧ gI σ' a 3 = nI i ∧ gR σ' a 4 = some p ∧ gR σ' a 5 = some q := by
  unfold Do_init
  simp (disch := first | assumption | omega | (simp only [gT_sI, gT_sL, gT_sR, gT_sB]; first | assumption | omega)) only [Option.bind_some, ldI_ok, ldL_ok, ldR_ok, ldB_ok, stI_ok, stL_ok, stR_ok, stB_ok, chk_ok, raI_k, raL_k, raR_k, raB_k, waI_k, waL_k, waB_k, waR_k, alen_k, gT_sI, gT_sL, gT_sR, gT_sB, gN_sI, gN_sL, gN_sR, gN_sB, gI_sL, gI_sR, gI_sB, gL_sI, gL_sR, gL_sB, gR_sI, gR_sL, gR_sB, gB_sI, gB_sL, gB_sR, gI_sIs, gL_sLs, gR_sRs, gB_sBs, gI_sIn, gL_sLn, gR_sRn, gB_sBn, rdI_ok, rdL_ok, rdB_ok, wrI_ok, wrL_ok, wrB_ok]
  refine ⟨_, rfl, ?_, rfl, rfl, ?_, ?_, ?_, ?_, ?_, ?_⟩
  · refine Kp.tr (W := fun t b _ => t ≠ 3 ∧ b = a) ?_ (Kp.sR (W := fun t b _ => t ≠ 3 ∧ b = a) (by omega)) (fun _ _ _ _ h => h)
    refine Kp.tr (W := fun t b _ => t ≠ 3 ∧ b = a) ?_ (Kp.sR (W := fun t b _ => t ≠ 3 ∧ b = a) (by omega)) (fun _ _ _ _ h => h)
    refine Kp.tr (W := fun t b _ => t ≠ 3 ∧ b = a) ?_ (Kp.sI (W := fun t b _ => t ≠ 3 ∧ b = a) (by omega)) (fun _ _ _ _ h => h)
    refine Kp.tr (W := fun t b _ => t ≠ 3 ∧ b = a) ?_ (Kp.sI (W := fun t b _ => t ≠ 3 ∧ b = a) (by omega)) (fun _ _ _ _ h => h)
    exact Kp.tr (W := fun t b _ => t ≠ 3 ∧ b = a) (Kp.sL (W := fun t b _ => t ≠ 3 ∧ b = a) (by omega)) (Kp.sI (W := fun t b _ => t ≠ 3 ∧ b = a) (by omega)) (fun _ _ _ _ h => h)
  all_goals simp (disch := first | assumption | omega | (simp only [gT_sI, gT_sL, gT_sR, gT_sB]; first | assumption | omega)) only [Option.bind_some, ldI_ok, ldL_ok, ldR_ok, ldB_ok, stI_ok, stL_ok, stR_ok, stB_ok, chk_ok, raI_k, raL_k, raR_k, raB_k, waI_k, waL_k, waB_k, waR_k, alen_k, gT_sI, gT_sL, gT_sR, gT_sB, gN_sI, gN_sL, gN_sR, gN_sB, gI_sL, gI_sR, gI_sB, gL_sI, gL_sR, gL_sB, gR_sI, gR_sL, gR_sB, gB_sI, gB_sL, gB_sR, gI_sIs, gL_sLs, gR_sRs, gB_sBs, gI_sIn, gL_sLn, gR_sRn, gB_sBn, rdI_ok, rdL_ok, rdB_ok, wrI_ok, wrL_ok, wrB_ok]
def wAdd (e : Nat) : Nat → Nat → Nat → Prop := fun t a k => (t = 2 ∧ a = e + 4) ∨ (t = 0 ∧ a = e ∧ k = 4)
theorem wAdd_f {e : Nat} : Wf e (wAdd e) := fun c k hc => ⟨fun q => by unfold wAdd at q; unfold mtR; omega, fun q => by unfold wAdd at q; omega, fun q => by unfold wAdd at q; omega⟩
theorem wAdd_h {e : Nat} {σ : Mem} : Wh (e + 401) σ (wAdd e) := fun t a k h1 h2 h3 => by unfold wAdd at h3; omega
/-- where an add writes -/
def wAD (e : Nat) (a : Nat) : Nat → Nat → Nat → Prop := fun t b k => wF e t b k ∨ wAdd e t b k ∨ (t = 0 ∧ b = e ∧ k = 2) ∨ (t = 3 ∧ b = a ∧ e + 401 ≤ a)
theorem cH_tape {e : Nat} {da : Nat → Nat} {σ : Mem} {tp : Nat → Nat} {n : Nat} {D : List DocT} {dl : Nat → Bool} {bs : Nat} {G : List SegT} {V : Nat → VwT} {A : AnT} {nr : Option (List Nat)} {mg : Nat} {st sp : Bool} (h : cH e da σ tp n D dl bs G V A nr mg st sp) : E_takeTape σ e = some (nI n, sI σ e 2 0) ∧ Kp (fun t a k => t = 0 ∧ a = e ∧ k = 2) σ (sI σ e 2 0) ∧ cH e da (sI σ e 2 0) tp 0 D dl bs G V A nr mg st sp := by
  obtain ⟨hF, hT, hD, hb, hG, hV, hA, hn, hm⟩ := h
  have hN := hF.N
  have t0 := iFix0 hF
  have k1 : Kp (fun t a k => t = 0 ∧ a = e ∧ k = 2) σ (sI σ e 2 0) := Kp.sI ⟨rfl, rfl, rfl⟩
  have hw : Wh (e + 401) σ (fun t a k => t = 0 ∧ a = e ∧ k = 2) := fun t a k h1 h2 h3 => by omega
  refine ⟨?_, k1, hF.kp k1 (fun c k hc => ⟨fun q => by omega, fun q => by omega, fun q => by omega⟩), ⟨by omega, gI_sIs _ _ _ _, fun i hi => ?_⟩, hD.kp k1 hN hw (by omega) (fun k => by omega) (fun j hj q => by omega), ?_, hG.kp k1 hN hw (by omega) (fun k => by omega), fun j hj => (hV j hj).kp k1 hN hw hj (fun t c k _ _ => by omega), hA.kp k1 hN (by omega) (fun t c k _ _ => by omega), hn.kp k1 hN (by omega), ?_⟩
  · unfold E_takeTape
    simp (disch := first | assumption | omega | (simp only [gT_sI, gT_sL, gT_sR, gT_sB]; first | assumption | omega)) only [Option.bind_some, ldI_ok, ldL_ok, ldR_ok, ldB_ok, stI_ok, stL_ok, stR_ok, stB_ok, chk_ok, raI_k, raL_k, raR_k, raB_k, waI_k, waL_k, waB_k, waR_k, alen_k, gT_sI, gT_sL, gT_sR, gT_sB, gN_sI, gN_sL, gN_sR, gN_sB, gI_sL, gI_sR, gI_sB, gL_sI, gL_sR, gL_sB, gR_sI, gR_sL, gR_sB, gB_sI, gB_sL, gB_sR, gI_sIs, gL_sLs, gR_sRs, gB_sBs, gI_sIn, gL_sLn, gR_sRn, gB_sBn, rdI_ok, rdL_ok, rdB_ok, wrI_ok, wrL_ok, wrB_ok, hT.2.1]
  · rw [gI_sIn (by omega)]
    exact hT.2.2 i hi
  · rw [gI_sIn (by omega)]; exact hb
  · rw [gI_sIn (by omega)]; exact hm
/-- an engine with one document more -/
theorem cH_add {e : Nat} {da : Nat → Nat} {σ : Mem} {tp : Nat → Nat} {n m : Nat} {D : List DocT} {dl : Nat → Bool} {bs : Nat} {G : List SegT} {V : Nat → VwT} {A : AnT} {nr : Option (List Nat)} {mg : Nat} {st sp : Bool} (h : cH e da σ tp m D dl bs G V A nr mg st sp) (hn : n ≤ 600) (hL : D.length < 400) (hz : 100 ≥ fz tp n) (hGd : ∀ s, s ∈ G → ∀ d, d ∈ s.2 → d < D.length) (hVd : okV D V) (hAd : okA D A) (hdl : dl D.length = false) (key : Int64) (x y : Int32) : ∃ σ' da', ((some (nwO σ 8)).bind fun m11 => (ldR m11 11 1 (some e)).bind fun v12 => (ldR m11 11 0 (some e)).bind fun v13 => (Te_init m11 (gN σ) v12 0 (nI (fz tp n)) v13).bind fun v14 => (some (nwO v14 8)).bind fun m15 => (ldR m15 11 1 (some e)).bind fun v16 => (ldR m15 11 0 (some e)).bind fun v17 => (Te_init m15 (gN v14) v16 (nI (min (fz tp n + 1) n)) (nI n) v17).bind fun v18 => (ldR v18 11 3 (some e)).bind fun v19 => (ldI v18 11 4 (some e)).bind fun v20 => (some (nwO v18 1)).bind fun m21 => (ldI m21 11 4 (some e)).bind fun v22 => (Do_init m21 (gN v18) key x y v22 (some (gN σ)) (some (gN v14))).bind fun v23 => (waR v23 4 1 v19 v20 (some (gN v18))).bind fun m24 => (ldI m24 11 4 (some e)).bind fun v25 => (stI m24 11 4 (some e) (v25 + 1)).bind fun m26 => some m26) = some σ' ∧ Kp (wAdd e) σ σ' ∧ gN σ' = gN σ + 17 ∧ gU σ' ≤ gU σ + 6015 ∧ cH e da' σ' tp m (D ++ [addD st sp tp n key x y]) dl bs G V A nr mg st sp := by
  obtain ⟨hF, hT, hD, hb, hG, hV, hA, hnr, hm⟩ := h
  have hN := hF.N
  have hle := fz_le tp n
  have tA0 := hF.tape hT
  obtain ⟨s0, sB0⟩ := hF.sp
  have r1 : gR σ e 1 = some (e + 3) := hF.2.1.2.1
  have r0 : gR σ e 0 = some (e + 1) := hF.2.1.1
  have r3 : gR σ e 3 = some (e + 4) := hF.2.1.2.2.1
  have t0 := iFix0 hF
  have kk : ∀ {τ τ' τ'' : Mem} {W : Nat → Nat → Nat → Prop}, Kp (fun _ _ _ => False) τ τ' → Kp W τ' τ'' → (∀ t a k, a < gN τ → ¬ W t a k) → Kp (fun _ _ _ => False) τ τ'' := fun h h' hw => Kp.tr h h' (fun t a k ha q => hw t a k ha q)
  have hWn : ∀ {τ : Mem}, Wh (e + 401) τ (fun _ _ _ => False) := fun _ _ _ _ _ q => q.elim
  -- the title
  have ka : Kp (fun _ _ _ => False) σ (nwO σ 8) := Kp.nw
  have na : gN (nwO σ 8) = gN σ + 1 := gN_nw _ _ _
  have ua : gU (nwO σ 8) = gU σ + 4 := gU_nw _ _ _
  have ta : hp (e + 401) (nwO σ 8) (gN σ) 8 0 := ⟨by omega, by omega, by rw [nwO, gT_nw, if_pos rfl]⟩
  obtain ⟨sa, sBa⟩ := s0.kp ka sB0 (fun _ _ _ q => q) (fun _ _ _ q => q)
  obtain ⟨σ3, e3, k3, n3, u3, x3⟩ := Te_init_ok (lo := e + 401) (a := 0) (b := fz tp n) (by omega) ta (tA0.kp ka (by omega) (fun _ q => q)) (by omega) sa sBa (by omega) (by omega) (by omega)
  have k03 : Kp (fun _ _ _ => False) σ σ3 := kk ka k3 (fun t a k h q => by omega)
  -- the body
  have kb : Kp (fun _ _ _ => False) σ3 (nwO σ3 8) := Kp.nw
  have k0b : Kp (fun _ _ _ => False) σ (nwO σ3 8) := kk k03 kb (fun _ _ _ _ q => q)
  have nb : gN (nwO σ3 8) = gN σ3 + 1 := gN_nw _ _ _
  have ub : gU (nwO σ3 8) = gU σ3 + 4 := gU_nw _ _ _
  have tb : hp (e + 401) (nwO σ3 8) (gN σ3) 8 0 := ⟨by omega, by omega, by rw [nwO, gT_nw, if_pos rfl]⟩
  obtain ⟨sb, sBb⟩ := s0.kp k0b sB0 (fun _ _ _ q => q) (fun _ _ _ q => q)
  obtain ⟨σ4, e4, k4, n4, u4, x4⟩ := Te_init_ok (lo := e + 401) (a := min (fz tp n + 1) n) (b := n) (by omega) tb (tA0.kp k0b (by omega) (fun _ q => q)) (by omega) sb sBb (by omega) (by omega) hn
  have k34 : Kp (fun _ _ _ => False) σ3 σ4 := kk kb k4 (fun t a k h q => by omega)
  have k04 : Kp (fun _ _ _ => False) σ σ4 := kk k03 k34 (fun _ _ _ _ q => q)
  -- the document
  have kc : Kp (fun _ _ _ => False) σ4 (nwO σ4 1) := Kp.nw
  have nc : gN (nwO σ4 1) = gN σ4 + 1 := gN_nw _ _ _
  have uc : gU (nwO σ4 1) = gU σ4 + 7 := gU_nw _ _ _
  have tc : gT (nwO σ4 1) (gN σ4) = (1, 0) := by rw [nwO, gT_nw, if_pos rfl]
  have bc : gB (nwO σ4 1) (gN σ4) 6 = false := by rw [nwO, gB_nw, if_pos rfl]
  obtain ⟨σ5, e5, k5, n5, u5, d0, d1, d2, d3, d4, d5⟩ := Do_init_ok (σ := nwO σ4 1) (a := gN σ4) (i := D.length) (p := gN σ) (q := gN σ3) (key := key) (x := x) (y := y) (by rw [tc])
  have k45 : Kp (fun _ _ _ => False) σ4 σ5 := kk kc k5 (fun t a k h q => by omega)
  have k05 : Kp (fun _ _ _ => False) σ σ5 := kk k04 k45 (fun _ _ _ _ q => q)
  have k35 : Kp (fun _ _ _ => False) σ3 σ5 := kk k34 k45 (fun _ _ _ _ q => q)
  have hF5 := hF.kp k05 (fun c k hc => ⟨fun q => q.elim, fun q => q.elim, fun q => q.elim⟩)
  obtain ⟨t4, t4'⟩ := iFix hF5 4 104 400 (by decide) rfl
  have l5 : gI σ5 e 4 = nI D.length := by rw [k05.I (by omega) (fun q => q)]; exact hD.1
  have td5 : (gT σ5 (gN σ4)).1 = 1 := by rw [k5.T (by omega), tc]
  simp only [Option.bind_some]
  rw [ldR_ok (by rw [ka.T (by omega)]; exact t0), ka.R (by omega) (fun q => q), r1]
  simp only [Option.bind_some]
  rw [ldR_ok (by rw [ka.T (by omega)]; exact t0), ka.R (by omega) (fun q => q), r0]
  simp only [Option.bind_some]
  rw [show (0 : Int32) = nI 0 from rfl, e3]
  simp only [Option.bind_some]
  rw [ldR_ok (by rw [k0b.T (by omega)]; exact t0), k0b.R (by omega) (fun q => q), r1]
  simp only [Option.bind_some]
  rw [ldR_ok (by rw [k0b.T (by omega)]; exact t0), k0b.R (by omega) (fun q => q), r0]
  simp only [Option.bind_some]
  rw [e4]
  simp only [Option.bind_some]
  rw [ldR_ok (by rw [k04.T (by omega)]; exact t0), k04.R (by omega) (fun q => q), r3]
  simp only [Option.bind_some]
  rw [ldI_ok (by rw [k04.T (by omega)]; exact t0), k04.I (by omega) (fun q => q), hD.1]
  simp only [Option.bind_some]
  have k0c : Kp (fun _ _ _ => False) σ (nwO σ4 1) := kk k04 kc (fun _ _ _ _ q => q)
  rw [ldI_ok (by rw [k0c.T (by omega)]; exact t0), k0c.I (by omega) (fun q => q), hD.1]
  simp only [Option.bind_some]
  rw [e5]
  simp only [Option.bind_some]
  rw [waR_k t4 (by omega) (by omega) td5]
  simp only [Option.bind_some]
  rw [ldI_ok (by rw [gT_sR]; exact iFix0 hF5), gI_sR, l5]
  simp only [Option.bind_some]
  rw [stI_ok (by rw [gT_sR]; exact iFix0 hF5)]
  simp only [nl, nI_add]
  have k56 : Kp (wAdd e) σ5 (sI (sR σ5 (e + 4) D.length (some (gN σ4))) e 4 (nI (D.length + 1))) := Kp.tr (W := wAdd e) (Kp.sR (W := wAdd e) (Or.inl ⟨rfl, rfl⟩)) (Kp.sI (W := wAdd e) (Or.inr ⟨rfl, rfl, rfl⟩)) (fun _ _ _ _ q => q)
  have k06 : Kp (wAdd e) σ (sI (sR σ5 (e + 4) D.length (some (gN σ4))) e 4 (nI (D.length + 1))) := Kp.tr (k05.mono (fun _ _ _ _ q => q.elim)) k56 (fun _ _ _ _ q => q)
  have hext : ∀ d, d < D.length → up1 da D.length (gN σ4) d = da d ∧ dA (D ++ [addD st sp tp n key x y]) d = dA D d := fun d hd => ⟨by unfold up1; rw [if_neg (by omega)], dA_app hd⟩
  have tx5 : isText (e + 401) (sI (sR σ5 (e + 4) D.length (some (gN σ4))) e 4 (nI (D.length + 1))) (gN σ) (toks st sp tp 0 (fz tp n)) := (x3.kp k35 hWn).kp k56 wAdd_h
  have bx5 : isText (e + 401) (sI (sR σ5 (e + 4) D.length (some (gN σ4))) e 4 (nI (D.length + 1))) (gN σ3) (toks st sp tp (min (fz tp n + 1) n) n) := (x4.kp k45 hWn).kp k56 wAdd_h
  refine ⟨_, up1 da D.length (gN σ4), rfl, k06, by rw [gN_sI, gN_sR]; omega, by rw [gU_sI, gU_sR]; omega, hF.kp k06 wAdd_f, hT.kp k06 hN (by unfold wAdd; omega) (fun k => by unfold wAdd; omega), ⟨?_, ?_, fun i hi => ?_⟩, ?_, ?_, fun i hi => ?_, ?_, hnr.kp k06 hN (by unfold wAdd; omega), ?_⟩
  · rw [gI_sIs, List.length_append]; rfl
  · rw [List.length_append, List.length_singleton]; omega
  · rw [List.length_append, List.length_singleton] at hi
    by_cases c : i = D.length
    · subst c
      have e1 : up1 da D.length (gN σ4) D.length = gN σ4 := by unfold up1; rw [if_pos rfl]
      rw [e1, dA_new]
      refine ⟨by rw [gR_sI, gR_sRs], ⟨⟨by omega, by rw [gN_sI, gN_sR]; omega, by rw [gT_sI, gT_sR, k5.T (by omega)]; exact tc⟩, d0, ?_, ?_, ?_, gN σ, gN σ3, ?_, ?_, tx5, bx5⟩, ?_⟩
      · rw [gI_sIn (by omega), gI_sR]; exact d1
      · rw [gI_sIn (by omega), gI_sR]; exact d2
      · rw [gI_sIn (by omega), gI_sR]; exact d3
      · rw [gR_sI, gR_sRn (by omega)]; exact d4
      · rw [gR_sI, gR_sRn (by omega)]; exact d5
      · rw [gB_sI, gB_sR, k5.B (by omega) (by omega), bc, hdl]
    · obtain ⟨h1, h2⟩ := hext i (by omega)
      rw [h1, h2]
      obtain ⟨a1, a2, a3⟩ := hD.2.2 i (by omega)
      refine ⟨?_, a2.kp k06 wAdd_h, ?_⟩
      · rw [gR_sI, gR_sRn (by omega), k05.R (by omega) (fun q => q)]; exact a1
      · rw [k06.B a2.1.2.1 (by unfold wAdd; omega)]; exact a3
  · rw [k06.I (by omega) (by unfold wAdd; omega)]; exact hb
  · have g6 := hG.kp k06 hN wAdd_h (by unfold wAdd; omega) (fun k => by unfold wAdd; omega)
    refine ⟨g6.1, g6.2.1, fun k hk => ?_⟩
    obtain ⟨s, c1, c2⟩ := g6.2.2 k hk
    exact ⟨s, c1, c2.da (fun d hd => hext d (hGd _ (gA_mem hk) d hd))⟩
  · have v6 := (hV i hi).kp k06 hN wAdd_h hi (fun t c k _ _ => by unfold wAdd; omega)
    refine ⟨v6.1, fun ho => ?_⟩
    exact (v6.da (fun d hd => hext d (hVd i hi ho d hd))).2 ho
  · have a6 := hA.kp k06 hN (by unfold wAdd; omega) (fun t c k _ _ => by unfold wAdd; omega)
    refine ⟨a6.1, a6.2.1, a6.2.2.1, fun k hk => ?_, a6.2.2.2.2⟩
    rw [(hext _ (hAd k hk)).1]
    exact a6.2.2.2.1 k hk
  · rw [k06.I (by omega) (by unfold wAdd; omega)]; exact hm
