/-! NEAR and NEARBYTE of the class -/
theorem cFix.nb {e : Nat} {σ : Mem} {st sp : Bool} (h : cFix e σ st sp) : isNe σ (e + 351) := by
  have hN := h.N
  obtain ⟨r1, r2, r3⟩ := h.2.1.2.2.2.2.2.2.2.2.2.2.2.2.2
  refine ⟨(iFix h 351 2 0 (by decide) rfl).1, ?_, ?_, ?_, r1, r2, r3, by omega⟩
  · exact h.1 352 (by omega)
  · exact h.1 353 (by omega)
  · exact h.1 354 (by omega)
def orN (b nr : Option (List Nat)) : Option (List Nat) := match b with
  | none => nr
  | some b => some b
def nearR (D : List DocT) (V : Nat → VwT) (tp : Nat → Nat) (n : Nat) (nr : Option (List Nat)) (x : Int32) (r : Int32) (nr' : Option (List Nat)) : Prop := match vAt V x with
  | none => r = -2 ∧ nr' = nr
  | some i => if isW tp n = true then ∃ b, nB (small tp 0 n) (dfS D (V i) 1) (cand D (V i)) b ∧ r = nrA (small tp 0 n) b ∧ nr' = orN b nr else r = -2 ∧ nr' = nr
theorem nearR_1 {D : List DocT} {V : Nat → VwT} {tp : Nat → Nat} {n : Nat} {nr : Option (List Nat)} {x r r' : Int32} {a b : Option (List Nat)} (h : nearR D V tp n nr x r a) (g : nearR D V tp n nr x r' b) : r = r' ∧ a = b := by
  unfold nearR at h g
  cases hx : vAt V x with
  | none =>
    rw [hx] at h g
    exact ⟨by rw [h.1, g.1], by rw [h.2, g.2]⟩
  | some i =>
    rw [hx] at h g
    simp only at h g
    by_cases c : isW tp n = true
    · rw [if_pos c] at h g
      obtain ⟨b1, h1, h2, h3⟩ := h
      obtain ⟨b2, g1, g2, g3⟩ := g
      have := nB_1 h1 g1
      subst this
      exact ⟨by rw [h2, g2], by rw [h3, g3]⟩
    · rw [if_neg c] at h g
      exact ⟨by rw [h.1, g.1], by rw [h.2, g.2]⟩
theorem cH_near {e : Nat} {da : Nat → Nat} {σ σ' : Mem} {tp : Nat → Nat} {n : Nat} {D : List DocT} {dl : Nat → Bool} {bs : Nat} {G : List SegT} {V : Nat → VwT} {A : AnT} {nr nr' : Option (List Nat)} {mg : Nat} {st sp : Bool} (h : cH e da σ tp n D dl bs G V A nr mg st sp) (k : Kp (wNe (e + 351)) σ σ') (hn : cNear e σ' nr') : cH e da σ' tp n D dl bs G V A nr' mg st sp := by
  have hN := h.1.N
  obtain ⟨h1, h2, h3, h4, h5, h6, h7, h8, h9⟩ := h
  have hw : Wh (e + 401) σ (wNe (e + 351)) := fun t a k h1 h2 q => by unfold wNe at q; omega
  refine ⟨h1.kp k (fun c k hc => ⟨fun q => by unfold wNe at q; omega, fun q => by unfold wNe at q; omega, fun q => by unfold wNe at q; omega⟩), h2.kp k hN (by unfold wNe; omega) (fun _ => by unfold wNe; omega), h3.kp k hN hw (by unfold wNe; omega) (fun _ => by unfold wNe; omega) (fun i hi => ?_), ?_, h5.kp k hN hw (by unfold wNe; omega) (fun _ => by unfold wNe; omega), fun i hi => (h6 i hi).kp k hN hw hi (fun t c k h1 h2 q => by unfold wNe at q; omega), h7.kp k hN (by unfold wNe; omega) (fun t c k h1 h2 q => by unfold wNe at q; omega), hn, ?_⟩
  · have := (h3.d hi).1.1
    unfold wNe; omega
  · rw [k.I (by omega) (by unfold wNe; omega)]; exact h4
  · rw [k.I (by omega) (by unfold wNe; omega)]; exact h9
theorem E_near_ok {e : Nat} {da : Nat → Nat} {σ : Mem} {tp : Nat → Nat} {n : Nat} {D : List DocT} {dl : Nat → Bool} {bs : Nat} {G : List SegT} {V : Nat → VwT} {A : AnT} {nr : Option (List Nat)} {mg : Nat} {st sp : Bool} (h : cH e da σ tp n D dl bs G V A nr mg st sp) (hT : okTx D) (hVd : okV D V) (x : Int32) : ∃ σ' r nr', E_near σ e x = some (r, σ') ∧ ke e σ σ' ∧ gN σ' = gN σ ∧ gU σ' = gU σ ∧ cH e da σ' tp 0 D dl bs G V A nr' mg st sp ∧ nearR D V tp n nr x r nr' := by
  have t0 := iFix0 h.1
  have hn := h.2.1.1
  have hN := h.1.N
  obtain ⟨σ1, e1, k1, n1, u1, H1⟩ := cH_tp h
  have t01 := iFix0 H1.1
  have kk1 : ke e σ σ1 := ke.of k1 (fun t a k _ q => by omega)
  have tA1 := H1.1.tape H1.2.1
  have hb : ∀ i, i < 600 → tp i < 256 := fun i hi => (tA1.2.2 i hi).1
  have r1 : gR (σ1) e 1 = some (e + 3) := H1.1.2.1.2.1
  unfold E_near nearR
  rw [chk_ok t0]
  simp only [Option.bind_some]
  rw [e1]
  simp only [Option.bind_some]
  rw [chk_ok t01]
  simp only [Option.bind_some]
  rw [E_viewAt_ok H1.1 H1.2.2.2.2.2.1]
  cases hx : vAt V x with
  | none => exact ⟨σ1, -2, nr, rfl, kk1, n1, u1, H1, rfl, rfl⟩
  | some i =>
    obtain ⟨hi, rfl, ho⟩ := vAt_ok hx
    simp only [Option.map_some, Option.bind_some, reduceCtorEq, if_false]
    rw [ldR_ok t01, r1]
    simp only [Option.bind_some]
    rw [Sp_isWord_ok tA1 hn]
    cases hW : isW tp n with
    | false =>
      simp only [Option.bind_some, Bool.false_eq_true, if_false]
      exact ⟨σ1, -2, nr, rfl, kk1, n1, u1, H1, rfl, rfl⟩
    | true =>
      obtain ⟨hn0, hwd⟩ := isW_wd hW hn hb
      have hNb := H1.1.nb
      obtain ⟨σ2, b, q1, q2, q3, q4, q5, q6, q7⟩ := Ne_lookIn_ok H1.1 (H1.2.2.2.2.2.1 i hi) hi ho hT (hVd i hi ho) tA1 hn hwd hNb
      have tne := hNb.1
      simp only [Option.bind_some, if_true]
      simp (disch := first | assumption | omega | (simp only [gT_sI, gT_sL, gT_sR, gT_sB]; first | assumption | omega)) only [Option.bind_some, ldI_ok, ldL_ok, ldR_ok, ldB_ok, stI_ok, stL_ok, stR_ok, stB_ok, chk_ok, raI_k, raL_k, raR_k, raB_k, waI_k, waL_k, waB_k, waR_k, alen_k, gT_sI, gT_sL, gT_sR, gT_sB, gN_sI, gN_sL, gN_sR, gN_sB, gI_sL, gI_sR, gI_sB, gL_sI, gL_sR, gL_sB, gR_sI, gR_sL, gR_sB, gB_sI, gB_sL, gB_sR, gI_sIs, gL_sLs, gR_sRs, gB_sBs, gI_sIn, gL_sLn, gR_sRn, gB_sBn, rdI_ok, rdL_ok, rdB_ok, wrI_ok, wrL_ok, wrB_ok, H1.1.ne, r1]
      rw [q1]
      have hnr : cNear e σ1 nr := H1.2.2.2.2.2.2.2.1
      refine ⟨σ2, _, orN b nr, rfl, kk1.tr (ke.of q2 (fun t a k _ q => by unfold wNe at q; omega)), by omega, by omega, cH_near H1 q2 ?_, b, q5, rfl, rfl⟩
      cases b with
      | none =>
        unfold cNear
        rw [q6 rfl]
        exact hnr
      | some u =>
        unfold cNear
        exact q7 u rfl
/-- the answer of nearByte -/
def okN (nr : Option (List Nat)) : Prop := ∀ t, nr = some t → isTerm t ∧ t ≠ []
def nbS (nr : Option (List Nat)) (x : Int32) : Int32 := match nr with
  | none => -1
  | some t => if x = -1 then nI t.length else if 0 ≤ x ∧ x < nI t.length then nI (t.getD x.toNatClampNeg 0) else -1
theorem nbS_s {t : List Nat} {x : Int32} : nbS (some t) x = if x = -1 then nI t.length else if 0 ≤ x ∧ x < nI t.length then nI (t.getD x.toNatClampNeg 0) else -1 := rfl
theorem Sp_byteOf_ok : ∀ b, b < 128 → (48 ≤ b ∧ b ≤ 57) ∨ (97 ≤ b ∧ b ≤ 122) → Sp_byteOf (nI (sgn b)) = some (nI b) := by decide +kernel
theorem E_nearByte_ok {e : Nat} {da : Nat → Nat} {σ : Mem} {tp : Nat → Nat} {n : Nat} {D : List DocT} {dl : Nat → Bool} {bs : Nat} {G : List SegT} {V : Nat → VwT} {A : AnT} {nr : Option (List Nat)} {mg : Nat} {st sp : Bool} (h : cH e da σ tp n D dl bs G V A nr mg st sp) (ho : okN nr) (x : Int32) : ∃ σ', E_nearByte σ e x = some (nbS nr x, σ') ∧ ke e σ σ' ∧ gN σ' = gN σ ∧ gU σ' = gU σ ∧ cH e da σ' tp n D dl bs G V A nr mg st sp := by
  have t0 := iFix0 h.1
  have hN := h.1.N
  have hNb := h.1.nb
  have hnr : cNear e σ nr := h.2.2.2.2.2.2.2.1
  have t2 := hNb.1
  have r6 := hNb.2.2.2.2.2.1
  obtain ⟨t, ht, hv, hv2⟩ : ∃ t, isTerm t ∧ gL σ (e + 351) 0 = lN (enc t) ∧ (nr = none ∧ t = [] ∨ nr = some t) := by
    cases nr with
    | none => exact ⟨[], ⟨by decide, fun c hc => by cases hc⟩, hnr, .inl ⟨rfl, rfl⟩⟩
    | some t => exact ⟨t, (ho t rfl).1, hnr, .inr rfl⟩
  obtain ⟨σ1, e1, k1, n1, u1, s1⟩ := Ne_spell_ok hNb.2.2.1 (by omega) ht
  have k2 : Kp (wNe (e + 351)) σ σ1 := k1.mono (fun _ _ _ _ q => by unfold wNe; omega)
  have H1 : cH e da σ1 tp n D dl bs G V A nr mg st sp := cH_near h k2 (by
    unfold cNear at *
    rw [k1.L (by omega) (by omega)]
    exact hnr)
  have hNb1 := H1.1.nb
  have t21 := hNb1.1
  have r61 := hNb1.2.2.2.2.2.1
  obtain ⟨p3, p4⟩ : (gT σ1 (e + 351 + 2)).1 = 100 + 0 ∧ (gT σ1 (e + 351 + 2)).2 = 12 := by rw [hNb1.2.2.1]; exact ⟨rfl, rfl⟩
  refine ⟨σ1, ?_, ke.of k1 (fun t a k _ q => by omega), n1, u1, H1⟩
  have htl := ht.1
  unfold E_nearByte Ne_byteAt
  simp (disch := first | assumption | omega | (simp only [gT_sI, gT_sL, gT_sR, gT_sB]; first | assumption | omega)) only [Option.bind_some, ldI_ok, ldL_ok, ldR_ok, ldB_ok, stI_ok, stL_ok, stR_ok, stB_ok, chk_ok, raI_k, raL_k, raR_k, raB_k, waI_k, waL_k, waB_k, waR_k, alen_k, gT_sI, gT_sL, gT_sR, gT_sB, gN_sI, gN_sL, gN_sR, gN_sB, gI_sL, gI_sR, gI_sB, gL_sI, gL_sR, gL_sB, gR_sI, gR_sL, gR_sB, gB_sI, gB_sL, gB_sR, gI_sIs, gL_sLs, gR_sRs, gB_sBs, gI_sIn, gL_sLn, gR_sRn, gB_sBn, rdI_ok, rdL_ok, rdB_ok, wrI_ok, wrL_ok, wrB_ok, h.1.ne, r6, hv]
  rw [e1]
  simp only [Option.bind_some]
  have e0 : (nI t.length = 0) = (t.length = 0) := iEq (b := 0) (by omega) (by omega)
  simp only [e0]
  rcases hv2 with ⟨rfl, rfl⟩ | rfl
  · rfl
  · obtain ⟨-, htn⟩ := ho t rfl
    have := List.length_pos_iff.mpr htn
    rw [if_neg (by omega)]
    rw [nbS_s]
    rcases i32_cases x with z | ⟨k, hk, rfl⟩
    · by_cases c : x = -1
      · subst c
        rw [if_neg (by decide)]
        have : ((-1 : Int32) < nI t.length) := by
          rw [show (-1 : Int32) = -nI 1 from rfl, iNLt (by omega) (by omega)]
          trivial
        rw [if_pos this, if_neg (by simp), if_pos rfl]
        rfl
      · have : x < -1 := by
          have h1 : ¬ x = -1 := c
          rw [Int32.lt_iff_toInt_lt] at z ⊢
          have h2 : (0 : Int32).toInt = 0 := by decide
          have h3 : (-1 : Int32).toInt = -1 := by decide
          have h4 : x.toInt ≠ -1 := fun q => h1 (Int32.toInt_inj.mp (by rw [q, h3]))
          omega
        have h0 : ¬ (0 ≤ x) := Int32.not_le.mpr z
        rw [if_pos this, if_neg c, if_neg (fun q => h0 q.1)]
        rfl
    · have c1 : ¬ nI k = -1 := by
        rw [show (-1 : Int32) = -nI 1 from rfl, iEqN hk (by omega)]
        exact not_false
      have c2 : ¬ nI k < -1 := by
        rw [show (-1 : Int32) = -nI 1 from rfl, iLtN hk (by omega)]
        exact not_false
      have c3 : (0 ≤ nI k) = True := eq_true (nI_pos' (by omega))
      rw [if_neg c2, if_neg c1]
      simp only [c3, true_and, iLt hk (show t.length < 2147483648 by omega)]
      rw [nI_clamp (by omega)]
      by_cases c : k < t.length
      · rw [if_pos c, if_pos c, if_pos c1]
        simp (disch := first | assumption | omega | (simp only [gT_sI, gT_sL, gT_sR, gT_sB]; first | assumption | omega)) only [Option.bind_some, ldI_ok, ldL_ok, ldR_ok, ldB_ok, stI_ok, stL_ok, stR_ok, stB_ok, chk_ok, raI_k, raL_k, raR_k, raB_k, waI_k, waL_k, waB_k, waR_k, alen_k, gT_sI, gT_sL, gT_sR, gT_sB, gN_sI, gN_sL, gN_sR, gN_sB, gI_sL, gI_sR, gI_sB, gL_sI, gL_sR, gL_sB, gR_sI, gR_sL, gR_sB, gB_sI, gB_sL, gB_sR, gI_sIs, gL_sLs, gR_sRs, gB_sBs, gI_sIn, gL_sLn, gR_sRn, gB_sBn, rdI_ok, rdL_ok, rdB_ok, wrI_ok, wrL_ok, wrB_ok, r61, s1 k (by omega)]
        have hb := isTerm_at ht c
        unfold dg
        unfold isTb at hb
        rw [Sp_byteOf_ok _ (by omega) hb]
        rfl
      · rw [if_neg c, if_neg c]
        rfl
