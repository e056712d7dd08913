/-! the class: search -/
def wSr (e g q : Nat) : Nat → Nat → Nat → Prop := fun t a k => g ≤ a ∨ (t ≠ 2 ∧ e + q ≤ a ∧ a < e + q + 162) ∨ (t = 2 ∧ a = e ∧ k = 13) ∨ (t = 0 ∧ a = e + 24 ∧ (k = 1 ∨ k = 4)) ∨ (t = 2 ∧ a = e + 24 ∧ k = 0) ∨ (t = 2 ∧ a = e + 187) ∨ (t = 0 ∧ a = e + 188)
def wSp (e g q : Nat) : Nat → Nat → Nat → Prop := fun t a _ => g ≤ a ∨ (t ≠ 2 ∧ e + q ≤ a ∧ a < e + q + 162)
/-- all of the hold but the answer -/
def cHa (e : Nat) (da : Nat → Nat) (σ : Mem) (tp : Nat → Nat) (n : Nat) (D : List DocT) (dl : Nat → Bool) (bs : Nat) (G : List SegT) (V : Nat → VwT) (nr : Option (List Nat)) (mg : Nat) (st sp : Bool) : Prop := cFix e σ st sp ∧ cTape e σ tp n ∧ cDocs e da σ D dl ∧ gI σ e 5 = nI bs ∧ cSegs e da σ D G ∧ (∀ i, i < 4 → cView e da σ D i (V i)) ∧ cNear e σ nr ∧ gI σ e 8 = nI mg
theorem cHa_kp {e q : Nat} {da : Nat → Nat} {σ τ : Mem} {tp : Nat → Nat} {n : Nat} {D : List DocT} {dl : Nat → Bool} {bs : Nat} {G : List SegT} {V : Nat → VwT} {nr : Option (List Nat)} {mg : Nat} {st sp : Bool} (h : cHa e da σ tp n D dl bs G V nr mg st sp) (hq : q = 25 ∨ q = 189) (hk : Kp (wSr e (gN σ) q) σ τ) : cHa e da τ tp n D dl bs G V nr mg st sp := by
  obtain ⟨hF, hT, hD, hb, hG, hV, hn, hm⟩ := h
  have hN := hF.N
  have hw : Wh (e + 401) σ (wSr e (gN σ) q) := fun t a k h1 h2 h3 => by unfold wSr at h3; omega
  refine ⟨hF.kp hk (fun c k hc => ⟨fun z => ?_, fun z => ?_, fun z => ?_⟩), hT.kp hk hN (fun z => ?_) (fun k z => ?_), hD.kp hk hN hw (fun z => ?_) (fun k z => ?_) (fun j hj z => ?_), ?_, hG.kp hk hN hw (fun z => ?_) (fun k z => ?_), fun j hj => (hV j hj).kp hk hN hw hj (fun t c k _ _ z => ?_), hn.kp hk hN (fun z => ?_), ?_⟩
  · unfold wSr at z; unfold mtR; omega
  · unfold wSr at z; omega
  · unfold wSr at z; omega
  · unfold wSr at z; omega
  · unfold wSr at z; omega
  · unfold wSr at z; omega
  · unfold wSr at z; omega
  · have h1 := (hD.2.2 j hj).2.1.1.1
    have h2 := (hD.2.2 j hj).2.1.1.2.1
    unfold wSr at z; omega
  · rw [hk.I (by omega) (by unfold wSr; omega)]; exact hb
  · unfold wSr at z; omega
  · unfold wSr at z; omega
  · unfold wSr at z; omega
  · unfold wSr at z; omega
  · rw [hk.I (by omega) (by unfold wSr; omega)]; exact hm
theorem cAns_sp {e aq : Nat} {da : Nat → Nat} {σ τ : Mem} {A : AnT} (h : cAns e da σ A) (hQ : fixQ σ e aq) (hN : e + 401 ≤ gN σ) (hk : Kp (wSp e (gN σ) (214 - aq)) σ τ) : cAns e da τ A := by
  obtain ⟨a, b, c, d, aq', f, g⟩ := h
  have haq : aq' = aq := by
    have := f.2.1.symm.trans hQ.2.1
    cases f.1 <;> cases hQ.1 <;> simp_all
  cases haq
  have hc := hQ.1
  refine ⟨?_, ?_, c, fun k hk' => ?_, aq, ⟨f.1, ?_, ?_⟩, g.kp hk (by omega) (fun t c k hc' z => by unfold wSp at z; omega)⟩
  · rw [hk.I (by omega) (by unfold wSp; omega)]; exact a
  · rw [hk.I (by omega) (by unfold wSp; omega)]; exact b
  · rw [hk.R (by omega) (by unfold wSp; omega), hk.I (by omega) (by unfold wSp; omega)]; exact d k hk'
  · rw [hk.R (by omega) (by unfold wSp; omega)]; exact f.2.1
  · rw [hk.R (by omega) (by unfold wSp; omega)]; exact f.2.2
theorem nI_ne_m1 {w : Nat} (h : w < 2147483648) : ¬ nI w = -1 := fun z => by
  have := congrArg Int32.toInt z
  rw [nI_toInt h] at this
  have h2 : (-1 : Int32).toInt = -1 := by decide
  omega
theorem An_take_ok {e m a w : Nat} {τ : Mem} (t : (gT τ (e + 24)).1 = 0) (r2 : gR τ (e + 24) 2 = some (e + 187)) (r3 : gR τ (e + 24) 3 = some (e + 188)) (i4 : gI τ (e + 24) 4 = nI m) (hm : m < 400) (t1 : (gT τ (e + 187)).1 = 104 ∧ (gT τ (e + 187)).2 = 400) (t2 : (gT τ (e + 188)).1 = 100 ∧ (gT τ (e + 188)).2 = 400) (ta : (gT τ a).1 = 1) (hw : w < 2147483648) : An_take τ (e + 24) (some a) (nI w) = some (sI (sI (sR τ (e + 187) m (some a)) (e + 188) m (nI w)) (e + 24) 4 (nI (m + 1))) := by
  obtain ⟨t11, t12⟩ := t1
  obtain ⟨t21, t22⟩ := t2
  have hlt : m < (gT τ (e + 187)).2 := by rw [t12]; exact hm
  have hlt2 : m < (gT τ (e + 188)).2 := by rw [t22]; exact hm
  unfold An_take
  rw [if_neg (nI_ne_m1 hw), ldI_ok t, i4]
  simp only [Option.bind_some]
  rw [if_neg (by rw [show (400 : Int32) = nI 400 from rfl, iLe (by omega) (by omega)]; omega), ldR_ok t, r2]
  simp only [Option.bind_some]
  rw [waR_k (t := 4) t11 hlt (by omega) ta]
  simp (disch := first | assumption | omega | (simp only [gT_sI, gT_sL, gT_sR, gT_sB]; first | assumption | omega)) only [Option.bind_some, ldI_ok, ldL_ok, ldR_ok, ldB_ok, stI_ok, stL_ok, stR_ok, stB_ok, chk_ok, raI_k, raL_k, raR_k, raB_k, waI_k, waL_k, waB_k, waR_k, alen_k, gT_sI, gT_sL, gT_sR, gT_sB, gN_sI, gN_sL, gN_sR, gN_sB, gI_sL, gI_sR, gI_sB, gL_sI, gL_sR, gL_sB, gR_sI, gR_sL, gR_sB, gB_sI, gB_sL, gB_sR, gI_sIs, gL_sLs, gR_sRs, gB_sBs, gI_sIn, gL_sLn, gR_sRn, gB_sBn, rdI_ok, rdL_ok, rdB_ok, wrI_ok, wrL_ok, wrB_ok, r3, i4]
  rw [show (1 : Int32) = nI 1 from rfl, nI_add]
/-- what a search answers; and the answer from then on -/
def srchR (D : List DocT) (V : Nat → VwT) (st sp : Bool) (tp : Nat → Nat) (n : Nat) (x : Int32) (A : AnT) (r : Int32) (A' : AnT) : Prop := match vAt V x with
  | none => r = -2 ∧ A' = A
  | some i => match qParse st sp tp n (evA D (V i)) with
    | .inl p => r = -10 - nI p ∧ A' = A
    | .inr (Y, f) => r = nI A'.2.1.length ∧ A'.1 = x ∧ A'.2.2 = Y.1 ∧ srtOf D (hitL (V i) f (vDocs (V i)).length) A'.2.1
theorem srchR_1 {D : List DocT} {V : Nat → VwT} {st sp : Bool} {tp : Nat → Nat} {n : Nat} {x r r2 : Int32} {A A' A2 : AnT} (h : srchR D V st sp tp n x A r A') (h2 : srchR D V st sp tp n x A r2 A2) : r = r2 ∧ A' = A2 := by
  unfold srchR at h h2
  split at h
  · next e =>
    rw [e] at h2
    exact ⟨h.1.trans h2.1.symm, h.2.trans h2.2.symm⟩
  · next i e =>
    rw [e] at h2
    simp only at h2
    split at h
    · next p e =>
      rw [e] at h2
      exact ⟨h.1.trans h2.1.symm, h.2.trans h2.2.symm⟩
    · next Y f e =>
      rw [e] at h2
      obtain ⟨a1, a2, a3, a4⟩ := h
      obtain ⟨b1, b2, b3, b4⟩ := h2
      have e1 := srtOf_uniq a4 b4
      refine ⟨by rw [a1, b1, e1], Prod.ext (a2.trans b2.symm) (Prod.ext e1 (a3.trans b3.symm))⟩
