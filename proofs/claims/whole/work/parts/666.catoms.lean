/-! the class's parser: atoms -/
theorem ex_jn {ω α : Type} {X : Option (ω ⊕ α)} {F : α → Option ω} {Q : ω → Prop} (A : α → Prop) (h : (∃ z, X = some (.inl z) ∧ Q z) ∨ ∃ a, X = some (.inr a) ∧ A a) (h2 : ∀ a, A a → ∃ z, F a = some z ∧ Q z) : ∃ z, jn X F = some z ∧ Q z := by
  rcases h with ⟨z, rfl, q⟩ | ⟨a, rfl, q⟩
  · exact ⟨z, rfl, q⟩
  · exact h2 a q
theorem cPc.kp {ps n i : Nat} {σ σ' : Mem} {tp : Nat → Nat} {W : Nat → Nat → Nat → Prop} (h : cPc ps σ tp n i) (hk : Kp W σ σ') (hp : ps < gN σ) (hw : ∀ k, ¬ W 0 ps k) : cPc ps σ' tp n i :=
  ⟨h.1, by rw [hk.I hp (hw _)]; exact h.2.1, by rw [hk.I hp (hw _)]; exact h.2.2.1, by rw [hk.I hp (hw _)]; exact h.2.2.2⟩
theorem adv {e ps q n i : Nat} {σ : Mem} {tp : Nat → Nat} {st sp : Bool} (h : cEnv e ps q σ tp n st sp) (hc : cPc ps σ tp n i) : ∃ σ', Ps_advance σ ps = some σ' ∧ Kp (wAd ps) σ σ' ∧ cPc ps σ' tp n (pE tp n i) ∧ cEnv e ps q σ' tp n st sp := by
  obtain ⟨σ', e1, k1, c1⟩ := Ps_advance_ok h (pE_b hc.1).2 hc.2.2.2
  exact ⟨σ', e1, k1, c1, h.kp k1 wAd_wPs⟩
theorem cEnv.tp {e ps q n : Nat} {σ : Mem} {tp : Nat → Nat} {st sp : Bool} (h : cEnv e ps q σ tp n st sp) : ∀ j, j < 600 → tp j < 256 := fun j hj => (h.2.1.2.2 j hj).1
theorem cEnv.k {e ps q n i : Nat} {σ : Mem} {tp : Nat → Nat} {st sp : Bool} (h : cEnv e ps q σ tp n st sp) (hi : i ≤ n) : pK tp n i < 258 := pK_lt h.tp h.1 hi
theorem kEq {k c : Nat} (hk : k < 258) (hc : c < 300) : (nI k = nI c) = (k = c) := iEq (by omega) (by omega)
theorem nm1 {tp : Nat → Nat} {a b : Nat} : isNm tp a b (nmL 1) = isNm tp a b [120] := rfl
theorem nm2 {tp : Nat → Nat} {a b : Nat} : isNm tp a b (nmL 2) = isNm tp a b [121] := rfl
theorem numA_s (v : Nat) : numA (some v) = nI v := by cases v <;> rfl
/-- what an atom's reader leaves -/
def atR (ps p : Nat) (σ : Mem) (tp : Nat → Nat) (n : Nat) (ng br sa : Bool) (r : Nat ⊕ (Nat × AtX)) (z : Bool × Mem) : Prop := Kp (wAt ps p) σ z.2 ∧ match r with
  | .inl pl => z.1 = false ∧ gI z.2 ps 5 = nI pl
  | .inr (i, y) => z.1 = true ∧ cPc ps z.2 tp n i ∧ cPart z.2 p (atP y ng br sa 1 0)
/-- what a number of a range writes -/
def wR3 (ps p : Nat) : Nat → Nat → Nat → Prop := fun t a k => wAd ps t a k ∨ (t = 1 ∧ a = p ∧ 12 ≤ k)
theorem wR3_wAt {ps p : Nat} : ∀ t a k, wR3 ps p t a k → wAt ps p t a k := fun t a k z => by
  rcases z with z | z
  · exact .inl z
  · right
    unfold wPt
    omega
theorem wAt_wPs {ps q p j : Nat} (hj : j < 40) (hp : p = q + (2 + 4 * j)) : ∀ t a k, wAt ps p t a k → wPs ps q t a k := fun t a k z => by
  rcases z with z | z
  · exact .inl z
  · right
    unfold wPt at z
    omega
theorem Ps_range1 {e ps q n i p j : Nat} {σ : Mem} {tp : Nat → Nat} {st sp : Bool} (h : cEnv e ps q σ tp n st sp) (hc : cPc ps σ tp n i) (hj : j < 40) (hp : p = q + (2 + 4 * j)) {k : Nat} (hk : k < 2) : match qInt tp n i with
    | .inl pl => ∃ m, Ps_readRange_l66 σ ps (some p) (nI k) = some (.inr (.inl m)) ∧ Kp (wR3 ps p) σ m ∧ gI m ps 5 = nI pl
    | .inr (i', a) => ∃ m, Ps_readRange_l66 σ ps (some p) (nI k) = some (.inl (nI (k + 1), m)) ∧ Kp (wR3 ps p) σ m ∧ cPc ps m tp n i' ∧ cEnv e ps q m tp n st sp ∧ gL m p 12 = (if k = 0 then a.toInt64 else gL σ p 12) ∧ gL m p 13 = a.toInt64 := by
  obtain ⟨t0, r0, i1, r2, r3, hps, hlt, hn⟩ := h.ps
  have tp4 : (gT σ p).1 = 4 := by rw [hp]; exact (h.pt hj).2.1
  have hpl : p + 4 ≤ e + 401 := by have := h.2.2.2.2.2.1; omega
  have hkk := h.k hc.1
  obtain ⟨m0, f0, g0, c0, h0⟩ : ∃ m, (if 0 ≤ (if pK tp n i = 45 then (-1 : Int32) else 1) then some σ else (chk σ 3 (some ps)).bind fun a26 => (Ps_advance σ a26).bind fun v27 => some v27) = some m ∧ Kp (wAd ps) σ m ∧ cPc ps m tp n (if pK tp n i = 45 then pE tp n i else i) ∧ cEnv e ps q m tp n st sp := by
    by_cases c : pK tp n i = 45
    · rw [if_pos c, if_pos c, if_neg (by decide), chk_ok t0]
      obtain ⟨m, q1, q2, q3, q4⟩ := adv h hc
      refine ⟨m, ?_, q2, q3, q4⟩
      simp only [Option.bind_some, q1]
    · rw [if_neg c, if_neg c, if_pos (by decide)]
      exact ⟨σ, rfl, Kp.rf, hc, h⟩
  have e45 : (if ¬ nI (pK tp n i) = 45 then some (1 : Int32) else some (-1)) = some (if pK tp n i = 45 then (-1 : Int32) else 1) := by
    rw [show (45 : Int32) = nI 45 from rfl]
    simp only [kEq hkk (show 45 < 300 by decide)]
    by_cases c : pK tp n i = 45
    · rw [if_neg (fun z => z c), if_pos c]
    · rw [if_pos c, if_neg c]
  have t0m := h0.ps.1
  have tpm : (gT m0 p).1 = 4 := by rw [g0.T (by omega)]; exact tp4
  have hnum := Ps_number_ok h0 c0 (mx := 9) (by decide)
  have hst : Ps_readRange_l66 σ ps (some p) (nI k) = (if 0 ≤ numA (qNum tp n 9 (if pK tp n i = 45 then pE tp n i else i)) then Option.bind (if ¬ nI k = 0 then some m0 else (stL m0 4 12 (some p) (((if pK tp n i = 45 then (-1 : Int32) else 1) * numA (qNum tp n 9 (if pK tp n i = 45 then pE tp n i else i))).toInt64)).bind fun m33 => some m33) fun q31 => (stL q31 4 13 (some p) (((if pK tp n i = 45 then (-1 : Int32) else 1) * numA (qNum tp n 9 (if pK tp n i = 45 then pE tp n i else i))).toInt64)).bind fun m34 => (chk m34 3 (some ps)).bind fun a35 => (Ps_advance m34 a35).bind fun v36 => some (Sum.inl (nI k + 1, v36)) else some (Sum.inr (Sum.inl m0))) := by
    unfold Ps_readRange_l66
    rw [if_neg (fun z => by have := (iLe (a := 2) (b := k) (by omega) (by omega)).mp z; omega), ldI_ok t0, hc.2.1]
    simp only [Option.bind_some]
    rw [e45]
    simp only [Option.bind_some]
    rw [f0]
    simp only [Option.bind_some]
    rw [chk_ok t0m]
    simp only [Option.bind_some]
    rw [show (9 : Int32) = nI 9 from rfl, hnum]
    simp only [Option.bind_some]
  rw [hst]
  unfold qInt
  simp only
  cases hq : qNum tp n 9 (if pK tp n i = 45 then pE tp n i else i) with
  | none =>
    refine ⟨m0, ?_, g0.mono (fun _ _ _ _ z => .inl z), c0.2.2.1⟩
    rw [if_neg (by decide)]
  | some v =>
    have hv := qNum_lt hq
    have hv : v < 1000000000 := hv
    have ev : (if pK tp n i = 45 then (-1 : Int32) else 1) * nI v = if pK tp n i = 45 then -nI v else nI v := by
      by_cases c : pK tp n i = 45
      · rw [if_pos c, if_pos c, Int32.neg_mul, Int32.one_mul]
      · rw [if_neg c, if_neg c, Int32.one_mul]
    have e0 : (0 ≤ nI v) := (iLe (a := 0) (by omega) (by omega)).mpr (by omega)
    simp only [numA_s]
    rw [if_pos e0, ev]
    generalize (if pK tp n i = 45 then -nI v else nI v) = a at *
    have e0k : (nI k = 0) = (k = 0) := iEq (b := 0) (by omega) (by omega)
    obtain ⟨m1, f1, g1, l1⟩ : ∃ m, (if ¬ nI k = 0 then some m0 else (stL m0 4 12 (some p) a.toInt64).bind fun m33 => some m33) = some m ∧ Kp (fun t b k => t = 1 ∧ b = p ∧ 12 ≤ k) m0 m ∧ gL m p 12 = (if k = 0 then a.toInt64 else gL σ p 12) := by
      simp only [e0k]
      by_cases c : k = 0
      · rw [if_neg (fun z => z c), if_pos c, stL_ok tpm]
        exact ⟨_, rfl, Kp.sL ⟨rfl, rfl, by decide⟩, gL_sLs _ _ _ _⟩
      · rw [if_pos c, if_neg c]
        exact ⟨m0, rfl, Kp.rf, g0.L (by omega) (fun z => by unfold wAd at z; omega)⟩
    rw [f1]
    simp only [Option.bind_some]
    have hlt0 : ps < gN m0 := h0.ps.2.2.2.2.2.2.1
    rw [stL_ok (by rw [g1.T (by omega)]; exact tpm)]
    simp only [Option.bind_some]
    have g2 : Kp (fun t b k => t = 1 ∧ b = p ∧ 12 ≤ k) m0 (sL m1 p 13 a.toInt64) := g1.l ⟨rfl, rfl, by decide⟩
    have h2 : cEnv e ps q (sL m1 p 13 a.toInt64) tp n st sp := h0.kp g2 (fun t b k z => .inr (by omega))
    have c2 : cPc ps (sL m1 p 13 a.toInt64) tp n (if pK tp n i = 45 then pE tp n i else i) := c0.kp g2 hlt0 (fun k z => by omega)
    obtain ⟨m3, f3, g3, c3, h3⟩ := adv h2 c2
    rw [chk_ok h2.ps.1]
    simp only [Option.bind_some, f3]
    have hlt2 : ps < gN (sL m1 p 13 a.toInt64) := h2.ps.2.2.2.2.2.2.1
    refine ⟨m3, by rw [show (1 : Int32) = nI 1 from rfl, nI_add], ?_, c3, h3, ?_, ?_⟩
    · exact ((g0.mono (W' := wR3 ps p) (fun _ _ _ _ z => .inl z)).tr g2 (fun t b k _ z => .inr z)).tr g3 (fun t b k _ z => .inl z)
    · rw [g3.L (by omega) (fun z => by unfold wAd at z; omega), gL_sLn (by omega)]
      exact l1
    · rw [g3.L (by omega) (fun z => by unfold wAd at z; omega), gL_sLs]
theorem Ps_readRange_ok {e ps q n i p j : Nat} {σ : Mem} {tp : Nat → Nat} {st sp ng br sa : Bool} (h : cEnv e ps q σ tp n st sp) (hc : cPc ps σ tp n i) (hj : j < 40) (hp : p = q + (2 + 4 * j)) (hx : cPart σ p (grP ng br sa 1 0)) : ∃ z, Ps_readRange σ ps (some p) = some z ∧ atR ps p σ tp n ng br sa (qRange tp n i) z := by
  obtain ⟨t0, r0, i1, r2, r3, hps, hlt, hn⟩ := h.ps
  have tp4 : (gT σ p).1 = 4 := by rw [hp]; exact (h.pt hj).2.1
  have hpl : p + 4 ≤ e + 401 := by have := h.2.2.2.2.2.1; omega
  have g1 : Kp (fun t b k => t = 0 ∧ b = p ∧ k = 0) σ (sI σ p 0 3) := Kp.sI ⟨rfl, rfl, rfl⟩
  have h1 := h.kp g1 (fun t b k z => .inr (by omega))
  have c1 : cPc ps (sI σ p 0 3) tp n i := hc.kp g1 hlt (fun k z => by omega)
  obtain ⟨m2, f2, g2, c2, h2⟩ := adv h1 c1
  have t2 := h2.ps.1
  have n1 : gN (sI σ p 0 3) = gN σ := gN_sI _ _ _ _
  have n2 := g2.n
  have tp2 : (gT m2 p).1 = 4 := by rw [g2.T (by omega)]; exact tp4
  have x0 : gI m2 p 0 = 3 := by rw [g2.I (by omega) (fun z => by unfold wAd at z; omega), gI_sIs]
  have xI : ∀ k, 0 < k → gI m2 p k = gI σ p k := fun k hk => by rw [g2.I (by omega) (fun z => by unfold wAd at z; omega), gI_sIn (by omega)]
  have xB : ∀ k, gB m2 p k = gB σ p k := fun k => by rw [g2.B (by omega) (fun z => by unfold wAd at z; omega), gB_sI]
  have g12 : Kp (wAt ps p) σ m2 := (g1.mono (W' := wAt ps p) (fun t b k _ z => .inr (by unfold wPt; omega))).tr g2 (fun t b k _ z => .inl z)
  unfold Ps_readRange
  simp (disch := first | assumption | omega | (simp only [gT_sI, gT_sL, gT_sR, gT_sB]; first | assumption | omega)) only [Option.bind_some, ldI_ok, ldL_ok, ldR_ok, ldB_ok, stI_ok, stL_ok, stR_ok, stB_ok, chk_ok, raI_k, raL_k, raR_k, raB_k, waI_k, waL_k, waB_k, waR_k, alen_k, gT_sI, gT_sL, gT_sR, gT_sB, gN_sI, gN_sL, gN_sR, gN_sB, gI_sL, gI_sR, gI_sB, gL_sI, gL_sR, gL_sB, gR_sI, gR_sL, gR_sB, gB_sI, gB_sL, gB_sR, gI_sIs, gL_sLs, gR_sRs, gB_sBs, gI_sIn, gL_sLn, gR_sRn, gB_sBn, rdI_ok, rdL_ok, rdB_ok, wrI_ok, wrL_ok, wrB_ok, f2, c2.2.2.1, c2.2.2.2]
  have hb := pE_b (tp := tp) c2.1
  rw [Ps_wordIs_ok h2 hb.1 hb.2 ⟨by decide, by decide⟩, nm1]
  simp only [Option.bind_some]
  rw [Ps_wordIs_ok h2 hb.1 hb.2 ⟨by decide, by decide⟩, nm2]
  simp only [Option.bind_some]
  unfold qRange
  simp only
  generalize pE tp n i = j1 at *
  generalize isNm tp (pS tp n j1) (pE tp n j1) [120] = bx at *
  generalize isNm tp (pS tp n j1) (pE tp n j1) [121] = bY at *
  by_cases hxy : bx = true ∨ bY = true
  · have e1 : (if bx = true then some (Sum.inr () : (Bool × Mem) ⊕ Unit) else if bY = true then some (Sum.inr ()) else some (Sum.inl (false, m2))) = some (Sum.inr ()) := by
      by_cases c : bx = true
      · rw [if_pos c]
      · rw [if_neg c, if_pos (hxy.resolve_left c)]
    have e2 : (if bx = true then some (0 : Int32) else some 1) = some (nI (if bx = true then 0 else 1)) := by
      by_cases c : bx = true
      · rw [if_pos c, if_pos c]; rfl
      · rw [if_neg c, if_neg c]; rfl
    rw [e1, e2, if_pos hxy]
    simp only [jn_r, Option.bind_some]
    generalize (if bx = true then 0 else 1) = wh at *
    have g3 : Kp (fun t b k => t = 0 ∧ b = p ∧ k = 11) m2 (sI m2 p 11 (nI wh)) := Kp.sI ⟨rfl, rfl, rfl⟩
    have hl2 := h2.ps.2.2.2.2.2.2.1
    have h3 := h2.kp g3 (fun t b k z => .inr (by omega))
    have c3 : cPc ps (sI m2 p 11 (nI wh)) tp n j1 := c2.kp g3 hl2 (fun k z => by omega)
    obtain ⟨m4, f4, g4, c4, h4⟩ := adv h3 c3
    simp only [Option.bind_some, f4]
    have n3 : gN (sI m2 p 11 (nI wh)) = gN m2 := gN_sI _ _ _ _
    have n4 := g4.n
    have y11 : gI m4 p 11 = nI wh := by rw [g4.I (by omega) (fun z => by unfold wAd at z; omega), gI_sIs]
    have yI : ∀ k, k ≠ 11 → gI m4 p k = gI m2 p k := fun k hk => by rw [g4.I (by omega) (fun z => by unfold wAd at z; omega), gI_sIn (by omega)]
    have yB : ∀ k, gB m4 p k = gB m2 p k := fun k => by rw [g4.B (by omega) (fun z => by unfold wAd at z; omega), gB_sI]
    have g14 : Kp (wAt ps p) σ m4 := (g12.tr g3 (fun t b k _ z => .inr (by unfold wPt; omega))).tr g4 (fun t b k _ z => .inl z)
    have r1 := Ps_range1 h4 c4 hj hp (k := 0) (by decide)
    cases hq : qInt tp n (pE tp n j1) with
    | inl pl =>
      rw [hq] at r1
      obtain ⟨m, f5, g5, e5⟩ := r1
      rw [lp_out (f := fun q : Int32 × Mem => Ps_readRange_l66 q.2 ps (some p) q.1) (a := (0, m4)) f5]
      exact ⟨_, rfl, g14.tr g5 (fun t b k _ z => wR3_wAt t b k z), rfl, e5⟩
    | inr r =>
      obtain ⟨i5, a⟩ := r
      rw [hq] at r1
      obtain ⟨m5, f5, g5, c5, h5, l5, l5'⟩ := r1
      rw [lp_on (f := fun q : Int32 × Mem => Ps_readRange_l66 q.2 ps (some p) q.1) (a := (0, m4)) f5]
      have r2 := Ps_range1 h5 c5 hj hp (k := 1) (by decide)
      have n5 := g5.n
      have g15 := g14.tr g5 (fun t b k _ z => wR3_wAt t b k z)
      cases hq2 : qInt tp n i5 with
      | inl pl =>
        rw [hq2] at r2
        simp only [hq2]
        obtain ⟨m, f6, g6, e6⟩ := r2
        rw [lp_out (f := fun q : Int32 × Mem => Ps_readRange_l66 q.2 ps (some p) q.1) (a := (nI (0 + 1), m5)) f6]
        exact ⟨_, rfl, g15.tr g6 (fun t b k _ z => wR3_wAt t b k z), rfl, e6⟩
      | inr r =>
        obtain ⟨i6, b⟩ := r
        rw [hq2] at r2
        simp only [hq2]
        obtain ⟨m6, f6, g6, c6, h6, l6, l6'⟩ := r2
        rw [lp_on (f := fun q : Int32 × Mem => Ps_readRange_l66 q.2 ps (some p) q.1) (a := (nI (0 + 1), m5)) f6]
        have n6 := g6.n
        have g16 := g15.tr g6 (fun t b k _ z => wR3_wAt t b k z)
        have fe : Ps_readRange_l66 m6 ps (some p) (nI (1 + 1)) = some (.inr (.inr m6)) := by
          unfold Ps_readRange_l66
          rw [if_pos (show (2 : Int32) ≤ nI (1 + 1) from (iLe (a := 2) (b := 1 + 1) (by omega) (by omega)).mpr (by omega))]
        rw [lp_out (f := fun q : Int32 × Mem => Ps_readRange_l66 q.2 ps (some p) q.1) (a := (nI (1 + 1), m6)) fe]
        simp only [Option.bind_some, se_r]
        have t6 := h6.ps.1
        simp (disch := first | assumption | omega | (simp only [gT_sI, gT_sL, gT_sR, gT_sB]; first | assumption | omega)) only [Option.bind_some, ldI_ok, ldL_ok, ldR_ok, ldB_ok, stI_ok, stL_ok, stR_ok, stB_ok, chk_ok, raI_k, raL_k, raR_k, raB_k, waI_k, waL_k, waB_k, waR_k, alen_k, gT_sI, gT_sL, gT_sR, gT_sB, gN_sI, gN_sL, gN_sR, gN_sB, gI_sL, gI_sR, gI_sB, gL_sI, gL_sR, gL_sB, gR_sI, gR_sL, gR_sB, gB_sI, gB_sL, gB_sR, gI_sIs, gL_sLs, gR_sRs, gB_sBs, gI_sIn, gL_sLn, gR_sRn, gB_sBn, rdI_ok, rdL_ok, rdB_ok, wrI_ok, wrL_ok, wrB_ok, c6.2.1]
        rw [show (93 : Int32) = nI 93 from rfl]
        simp only [kEq (h6.k c6.1) (show 93 < 300 by decide)]
        by_cases c93 : pK tp n i6 = 93
        · rw [if_pos c93, if_pos c93]
          obtain ⟨m7, f7, g7, c7, h7⟩ := adv h6 c6
          rw [f7]
          have n7 := g7.n
          refine ⟨_, rfl, g16.tr g7 (fun t b k _ z => .inl z), rfl, c7, ?_⟩
          have zI : ∀ k, gI m7 p k = gI m4 p k := fun k => by
            rw [g7.I (by omega) (fun z => by unfold wAd at z; omega), g6.I (by omega) (fun z => by unfold wR3 wAd at z; omega), g5.I (by omega) (fun z => by unfold wR3 wAd at z; omega)]
          have zB : ∀ k, gB m7 p k = gB m4 p k := fun k => by
            rw [g7.B (by omega) (fun z => by unfold wAd at z; omega), g6.B (by omega) (fun z => by unfold wR3 wAd at z; omega), g5.B (by omega) (fun z => by unfold wR3 wAd at z; omega)]
          have zL : ∀ k, gL m7 p k = gL m6 p k := fun k => g7.L (by omega) (fun z => by unfold wAd at z; omega)
          obtain ⟨p1, p2, p3, p4, p5, p6, p7, p8, p9, p10, p11, p12, p13⟩ := hx
          show cPart m7 p (mkPT 3 none ng br sa 1 0 [] 0 wh a.toInt64 b.toInt64 [])
          refine ⟨?_, ?_, ?_, ?_, ?_, ?_, ?_, ?_, Nat.zero_le _, fun k hk => absurd hk (Nat.not_lt_zero _), ?_, fun _ => ⟨?_, ?_⟩, fun _ => ?_⟩
          · rw [zI, yI _ (by decide), x0]; rfl
          · rw [zI, yI _ (by decide), xI _ (by decide)]; exact p2
          · rw [zB, yB, xB]; exact p3
          · rw [zB, yB, xB]; exact p4
          · rw [zB, yB, xB]; exact p5
          · rw [zI, yI _ (by decide), xI _ (by decide)]; exact p6
          · rw [zI, yI _ (by decide), xI _ (by decide)]; exact p7
          · rw [zI, yI _ (by decide), xI _ (by decide)]; exact p8
          · rw [zI, yI _ (by decide), xI _ (by decide)]; exact p11
          · rw [zL, l6, if_neg (by decide), l5, if_pos rfl]; rfl
          · rw [zL, l6']; rfl
          · rw [zI]; exact y11
        · rw [if_neg c93, if_neg c93]
          exact ⟨_, rfl, g16, rfl, c6.2.2.1⟩
  · have e1 : (if bx = true then some (Sum.inr () : (Bool × Mem) ⊕ Unit) else if bY = true then some (Sum.inr ()) else some (Sum.inl (false, m2))) = some (Sum.inl (false, m2)) := by
      rw [if_neg (fun z => hxy (.inl z)), if_neg (fun z => hxy (.inr z))]
    rw [e1, if_neg hxy]
    exact ⟨_, rfl, g12, rfl, c2.2.2.1⟩
