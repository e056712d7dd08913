/-! MARK: parts that name a term -/
def isP (σ : Mem) (p : Nat) : Prop := (gT σ p).1 = 4 ∧ gT σ (p + 1) = (101, 8) ∧ gT σ (p + 2) = (100, 8) ∧ gT σ (p + 3) = (100, 2) ∧ gR σ p 7 = some (p + 1) ∧ gR σ p 8 = some (p + 2) ∧ gR σ p 14 = some (p + 3)
def isQ (σ : Mem) (q : Nat) : Prop := (gT σ q).1 = 5 ∧ gR σ q 0 = some (q + 1) ∧ gT σ (q + 1) = (107, 40) ∧ ∀ j, j < 40 → gR σ (q + 1) j = some (q + (2 + 4 * j)) ∧ isP σ (q + (2 + 4 * j))
theorem fixT_p {c : Nat} (h : 27 ≤ c ∧ c < 187) : fixT c = fixP.getD ((c - 27) % 4) (99, 0) := by
  unfold fixT
  rw [if_neg (by omega), if_neg (by omega), if_neg (by omega), if_pos (by omega)]
theorem fixT_p' {c : Nat} (h : 191 ≤ c ∧ c < 351) : fixT c = fixP.getD ((c - 191) % 4) (99, 0) := by
  unfold fixT
  rw [if_neg (by omega), if_neg (by omega), if_neg (by omega), if_neg (by omega), if_neg (by omega), if_pos (by omega)]
theorem cFix.q {e : Nat} {σ : Mem} {st sp : Bool} (h : cFix e σ st sp) {aq : Nat} (ha : aq = 25 ∨ aq = 189) : isQ σ (e + aq) := by
  obtain ⟨r0, r⟩ := h.2.1.2.2.2.2.2.2.2.2.2.2.2.2.1 aq ha
  have hT : ∀ c, c < 160 → gT σ (e + aq + (2 + c)) = fixP.getD (c % 4) (99, 0) := fun c hc => by
    rw [Nat.add_assoc, h.1 (aq + (2 + c)) (by omega)]
    rcases ha with rfl | rfl
    · rw [fixT_p (by omega), show 25 + (2 + c) - 27 = c by omega]
    · rw [fixT_p' (by omega), show 189 + (2 + c) - 191 = c by omega]
  refine ⟨?_, r0, ?_, fun j hj => ?_⟩
  · rw [h.1 aq (by omega)]
    rcases ha with rfl | rfl <;> rfl
  · rw [Nat.add_assoc, h.1 (aq + 1) (by omega)]
    rcases ha with rfl | rfl <;> rfl
  · obtain ⟨r1, r2, r3, r4⟩ := r j hj
    have t0 := hT (4 * j) (by omega)
    have t1 := hT (4 * j + 1) (by omega)
    have t2 := hT (4 * j + 2) (by omega)
    have t3 := hT (4 * j + 3) (by omega)
    rw [show 4 * j % 4 = 0 by omega] at t0
    rw [show (4 * j + 1) % 4 = 1 by omega] at t1
    rw [show (4 * j + 2) % 4 = 2 by omega] at t2
    rw [show (4 * j + 3) % 4 = 3 by omega] at t3
    refine ⟨?_, ?_, ?_, ?_, ?_, ?_, ?_, ?_⟩
    · rw [show e + aq + 1 = e + (aq + 1) by omega, r1, show e + (aq + 2 + 4 * j) = e + aq + (2 + 4 * j) by omega]
    · rw [t0]; rfl
    · rw [show e + aq + (2 + 4 * j) + 1 = e + aq + (2 + (4 * j + 1)) by omega, t1]; rfl
    · rw [show e + aq + (2 + 4 * j) + 2 = e + aq + (2 + (4 * j + 2)) by omega, t2]; rfl
    · rw [show e + aq + (2 + 4 * j) + 3 = e + aq + (2 + (4 * j + 3)) by omega, t3]; rfl
    · rw [show e + aq + (2 + 4 * j) = e + (aq + 2 + 4 * j) by omega, r2, show e + (aq + 3 + 4 * j) = e + (aq + 2 + 4 * j) + 1 by omega]
    · rw [show e + aq + (2 + 4 * j) = e + (aq + 2 + 4 * j) by omega, r3, show e + (aq + 4 + 4 * j) = e + (aq + 2 + 4 * j) + 2 by omega]
    · rw [show e + aq + (2 + 4 * j) = e + (aq + 2 + 4 * j) by omega, r4, show e + (aq + 5 + 4 * j) = e + (aq + 2 + 4 * j) + 3 by omega]
/-- parts as queries make them -/
def okPt (x : PT) : Prop := pKind x < 4 ∧ (∀ f, pField x = some f → f < 2) ∧ pBoost x < 10 ∧ pSlack x < 10 ∧ pWhat x < 2 ∧ (pKind x = 2 → isTerm (pW x) ∧ pLo x = lN (enc (pW x)) ∧ pHi x = lN ((sg (pW x) + 1) * 37 ^ (12 - (pW x).length) - 1)) ∧ ∀ y, y ∈ pTms x → isTerm y.1 ∧ y.1 ≠ [] ∧ y.2 < 8
def okPs (P : List PT) : Prop := ∀ x, x ∈ P → okPt x
theorem any_bP {α : Type} [Inhabited α] (l : List α) (p : α → Bool) (d : α) : l.any p = bP (∃ k, k < l.length ∧ p (l.getD k d) = true) := by
  rw [Bool.eq_iff_iff, bP_t, List.any_eq_true]
  constructor
  · rintro ⟨x, h1, h2⟩
    obtain ⟨k, hk, e⟩ := List.getElem_of_mem h1
    exact ⟨k, hk, by rw [List.getD_eq_getElem?_getD, List.getElem?_eq_getElem hk]; simp only [Option.getD_some]; rw [e]; exact h2⟩
  · rintro ⟨k, h1, h2⟩
    exact ⟨_, getD_mem h1, h2⟩
theorem hi_lt {w : List Nat} (h : isTerm w) : (sg w + 1) * 37 ^ (12 - w.length) - 1 < 6582952005840035281 := by
  have h1 : sg w + 1 ≤ 37 ^ w.length := by
    rw [sg_v]
    exact v37_lt w.length (fun k _ => dg_lt w k)
  have h2 : (sg w + 1) * 37 ^ (12 - w.length) ≤ 37 ^ w.length * 37 ^ (12 - w.length) := Nat.mul_le_mul_right _ h1
  rw [← Nat.pow_add, show w.length + (12 - w.length) = 12 by have := h.1; omega] at h2
  have : (37 : Nat) ^ 12 = 6582952005840035281 := by decide
  omega
theorem Pa_isFor_ok {σ : Mem} {p : Nat} {x : PT} (hp : isP σ p) (h : cPart σ p x) (hx : okPt x) {f : Nat} (hf : f < 2) : Pa_isFor σ p (nI f) = some (fFor (pField x) f) := by
  have t0 := hp.1
  have h1 := h.2.1
  unfold Pa_isFor
  simp (disch := first | assumption | omega | (simp only [gT_sI, gT_sL, gT_sR, gT_sB]; first | assumption | omega)) only [Option.bind_some, ldI_ok, ldL_ok, ldR_ok, ldB_ok, stI_ok, stL_ok, stR_ok, stB_ok, chk_ok, raI_k, raL_k, raR_k, raB_k, waI_k, waL_k, waB_k, waR_k, alen_k, gT_sI, gT_sL, gT_sR, gT_sB, gN_sI, gN_sL, gN_sR, gN_sB, gI_sL, gI_sR, gI_sB, gL_sI, gL_sR, gL_sB, gR_sI, gR_sL, gR_sB, gB_sI, gB_sL, gB_sR, gI_sIs, gL_sLs, gR_sRs, gB_sBs, gI_sIn, gL_sLn, gR_sRn, gB_sBn, rdI_ok, rdL_ok, rdB_ok, wrI_ok, wrL_ok, wrB_ok, h1]
  cases hg : pField x with
  | none => rfl
  | some g =>
    have := hx.2.1 g hg
    simp only [fI, fFor]
    simp (disch := omega) only [nl, nI_add, nI_mul, iSub, iEq, iLe, iLt, iEqN, iNEq, iNN, iLtN, iNLt, iLeN, iNLe, iAddN, iNAdd, iMin, iMax, iDiv, iRem]
    by_cases c : g = f
    · simp [c]
    · simp [c]
theorem Pa_names_ok {σ : Mem} {p : Nat} {x : PT} (hp : isP σ p) (h : cPart σ p x) (hx : okPt x) {f : Nat} (hf : f < 2) {t : List Nat} (ht : isTerm t) : Pa_names σ p (lN (enc t)) (nI f) = some (pAsks x t f) := by
  have hi := Pa_isFor_ok hp h hx hf
  obtain ⟨t0, t1, t2, t3, r1, r2, r3⟩ := hp
  obtain ⟨p1, p2, p3, p4, p5, p6, p7, p8, p9, p10, p11, p12, p13⟩ := h
  obtain ⟨x1, x2, x3, x4, x5, x6, x7⟩ := hx
  have hte := enc_lt ht.1
  unfold Pa_names pAsks
  simp (disch := first | assumption | omega | (simp only [gT_sI, gT_sL, gT_sR, gT_sB]; first | assumption | omega)) only [Option.bind_some, ldI_ok, ldL_ok, ldR_ok, ldB_ok, stI_ok, stL_ok, stR_ok, stB_ok, chk_ok, raI_k, raL_k, raR_k, raB_k, waI_k, waL_k, waB_k, waR_k, alen_k, gT_sI, gT_sL, gT_sR, gT_sB, gN_sI, gN_sL, gN_sR, gN_sB, gI_sL, gI_sR, gI_sB, gL_sI, gL_sR, gL_sB, gR_sI, gR_sL, gR_sB, gB_sI, gB_sL, gB_sR, gI_sIs, gL_sLs, gR_sRs, gB_sBs, gI_sIn, gL_sLn, gR_sRn, gB_sBn, rdI_ok, rdL_ok, rdB_ok, wrI_ok, wrL_ok, wrB_ok, p4]
  cases pBar x with
  | true => rfl
  | false =>
    simp only [Bool.false_eq_true, if_false, Bool.not_false, Bool.true_and]
    rw [hi]
    cases fFor (pField x) f with
    | false => rfl
    | true =>
      simp only [Option.bind_some, if_true, Bool.true_and]
      rw [p1]
      simp (disch := omega) only [nl, nI_add, nI_mul, iSub, iEq, iLe, iLt, iEqN, iNEq, iNN, iLtN, iNLt, iLeN, iNLe, iAddN, iNAdd, iMin, iMax, iDiv, iRem]
      by_cases c2 : pKind x = 2
      · obtain ⟨y1, y2, y3⟩ := x6 c2
        obtain ⟨z1, z2⟩ := p12 (by omega)
        have hle := enc_lt y1.1
        have hh := hi_lt y1
        have hpre := pre_iff y1 ht
        rw [if_neg (by omega)]
        simp (disch := first | assumption | omega | (simp only [gT_sI, gT_sL, gT_sR, gT_sB]; first | assumption | omega)) only [Option.bind_some, ldI_ok, ldL_ok, ldR_ok, ldB_ok, stI_ok, stL_ok, stR_ok, stB_ok, chk_ok, raI_k, raL_k, raR_k, raB_k, waI_k, waL_k, waB_k, waR_k, alen_k, gT_sI, gT_sL, gT_sR, gT_sB, gN_sI, gN_sL, gN_sR, gN_sB, gI_sL, gI_sR, gI_sB, gL_sI, gL_sR, gL_sB, gR_sI, gR_sL, gR_sB, gB_sI, gB_sL, gB_sR, gI_sIs, gL_sLs, gR_sRs, gB_sBs, gI_sIn, gL_sLn, gR_sRn, gB_sBn, rdI_ok, rdL_ok, rdB_ok, wrI_ok, wrL_ok, wrB_ok, z1, z2, y2, y3]
        simp (disch := omega) only [lLt]
        rw [c2]
        simp only [show ((2 : Nat) == 2) = true from rfl, show ((2 : Nat) == 1) = false from rfl, Bool.true_and, Bool.false_and, Bool.or_false]
        by_cases c3 : enc t < enc (pW x)
        · rw [if_pos c3]
          have : isPre (pW x) t = false := Bool.eq_false_iff.mpr (fun q => by have := hpre.mpr q; omega)
          rw [this]
        · rw [if_neg c3]
          by_cases c4 : (sg (pW x) + 1) * 37 ^ (12 - (pW x).length) - 1 < enc t
          · rw [if_pos c4]
            have : isPre (pW x) t = false := Bool.eq_false_iff.mpr (fun q => by have := hpre.mpr q; omega)
            rw [this]
          · rw [if_neg c4, hpre.mp ⟨by omega, by omega⟩]
      · rw [if_pos c2]
        have e2 : (pKind x == 2) = false := by simpa using c2
        by_cases c1 : pKind x = 1
        · have e1 : (pKind x == 1) = true := by simpa using c1
          rw [if_neg (by omega), e1, e2]
          simp only [Bool.false_and, Bool.false_or, Bool.true_and]
          have hlp : lp (fun q : Int32 => Pa_names_l60 σ p (lN (enc t)) q) (nI 0) = some (if bP (∃ k, k < (pTms x).length ∧ ((pTms x).getD k ([], 0)).1 = t) = true then .inl () else .inr ()) := by
            refine lp_find (fun k => ((pTms x).getD k ([], 0)).1 = t) (pTms x).length (fun k hk => ?_) ?_
            · have hy := x7 _ (getD_mem (d := (([], 0) : List Nat × Nat)) hk)
              have hye := enc_lt hy.1.1
              have ta : (gT σ (p + 1)).1 = 101 ∧ (gT σ (p + 1)).2 = 8 := by rw [t1]; exact ⟨rfl, rfl⟩
              obtain ⟨ta, tb⟩ := ta
              unfold Pa_names_l60
              simp (disch := first | assumption | omega | (simp only [gT_sI, gT_sL, gT_sR, gT_sB]; first | assumption | omega)) only [Option.bind_some, ldI_ok, ldL_ok, ldR_ok, ldB_ok, stI_ok, stL_ok, stR_ok, stB_ok, chk_ok, raI_k, raL_k, raR_k, raB_k, waI_k, waL_k, waB_k, waR_k, alen_k, gT_sI, gT_sL, gT_sR, gT_sB, gN_sI, gN_sL, gN_sR, gN_sB, gI_sL, gI_sR, gI_sB, gL_sI, gL_sR, gL_sB, gR_sI, gR_sL, gR_sB, gB_sI, gB_sL, gB_sR, gI_sIs, gL_sLs, gR_sRs, gB_sBs, gI_sIn, gL_sLn, gR_sRn, gB_sBn, rdI_ok, rdL_ok, rdB_ok, wrI_ok, wrL_ok, wrB_ok, p8, r1, (p10 k hk).1]
              simp (disch := omega) only [nl, nI_add, nI_mul, iSub, iEq, iLe, iLt, iEqN, iNEq, iNN, iLtN, iNLt, iLeN, iNLe, iAddN, iNAdd, iMin, iMax, iDiv, iRem, lEq]
              rw [if_neg (by omega)]
              by_cases c : ((pTms x).getD k ([], 0)).1 = t
              · rw [if_neg (by rw [c]; simp), bP_t.mpr c]
                rfl
              · rw [if_pos (fun q => c (enc_inj hy.1 ht q)), Bool.eq_false_iff.mpr (fun q => c (bP_t.mp q))]
                rfl
            · unfold Pa_names_l60
              simp (disch := first | assumption | omega | (simp only [gT_sI, gT_sL, gT_sR, gT_sB]; first | assumption | omega)) only [Option.bind_some, ldI_ok, ldL_ok, ldR_ok, ldB_ok, stI_ok, stL_ok, stR_ok, stB_ok, chk_ok, raI_k, raL_k, raR_k, raB_k, waI_k, waL_k, waB_k, waR_k, alen_k, gT_sI, gT_sL, gT_sR, gT_sB, gN_sI, gN_sL, gN_sR, gN_sB, gI_sL, gI_sR, gI_sB, gL_sI, gL_sR, gL_sB, gR_sI, gR_sL, gR_sB, gB_sI, gB_sL, gB_sR, gI_sIs, gL_sLs, gR_sRs, gB_sBs, gI_sIn, gL_sLn, gR_sRn, gB_sBn, rdI_ok, rdL_ok, rdB_ok, wrI_ok, wrL_ok, wrB_ok, p8]
              simp (disch := omega) only [nl, nI_add, nI_mul, iSub, iEq, iLe, iLt, iEqN, iNEq, iNN, iLtN, iNLt, iLeN, iNLe, iAddN, iNAdd, iMin, iMax, iDiv, iRem]
              rw [if_pos (Nat.le_refl _)]
          have e : (pTms x).any (fun y => y.1 == t) = bP (∃ k, k < (pTms x).length ∧ ((pTms x).getD k ([], 0)).1 = t) := by
            rw [any_bP (pTms x) (fun y => y.1 == t) ([], 0)]
            simp only [beq_iff_eq]
          rw [e, hlp]
          cases bP (∃ k, k < (pTms x).length ∧ ((pTms x).getD k ([], 0)).1 = t) <;> rfl
        · have e1 : (pKind x == 1) = false := by simpa using c1
          rw [if_pos c1, e1, e2]
          rfl
def qAsks (P : List PT) (t : List Nat) (f : Nat) : Bool := P.any fun x => pAsks x t f
theorem Qu_names_ok {σ : Mem} {q : Nat} {P : List PT} (hq : isQ σ q) (h : cQuery σ q P) (hP : okPs P) {f : Nat} (hf : f < 2) {t : List Nat} (ht : isTerm t) : Qu_names σ q (lN (enc t)) (nI f) = some (decide (t ≠ []) && qAsks P t f) := by
  obtain ⟨t0, r0, t1, hp⟩ := hq
  obtain ⟨q1, q2, q3⟩ := h
  have hte := enc_lt ht.1
  have he0 : lN (enc t) = 0 ↔ enc t = 0 := Iff.of_eq (lEq (b := 0) (by omega) (by omega))
  obtain ⟨ta, tb⟩ : (gT σ (q + 1)).1 = 107 ∧ (gT σ (q + 1)).2 = 40 := by rw [t1]; exact ⟨rfl, rfl⟩
  unfold Qu_names
  have hlp : lp (fun z : Int32 => Qu_names_l3 σ q (lN (enc t)) (nI f) z) (nI 0) = some (if (decide (t ≠ []) && qAsks P t f) = true then .inl () else .inr ()) := by
    by_cases c : t = []
    · subst c
      have : lp (fun z : Int32 => Qu_names_l3 σ q (lN (enc [])) (nI f) z) (nI 0) = some (.inr ()) := by
        refine lp_seq (fun j => nI j) (m := 0) (fun j hj => absurd hj (by omega)) ?_
        unfold Qu_names_l3
        rw [if_pos (he0.mpr rfl)]
      rw [this]
      rfl
    · have hne : ¬ enc t = 0 := fun z => c ((enc_0 ht).mp z)
      have e : qAsks P t f = bP (∃ k, k < P.length ∧ pAsks (P.getD k default) t f = true) := any_bP P _ default
      rw [decide_eq_true c, Bool.true_and, e]
      refine lp_find (fun k => pAsks (P.getD k default) t f = true) P.length (fun k hk => ?_) ?_
      · have hx := hP _ (getD_mem (d := default) hk)
        obtain ⟨rk, pk⟩ := hp k (by omega)
        have tk := pk.1
        have := Pa_names_ok pk (q3 k hk) hx hf ht
        unfold Qu_names_l3
        rw [if_neg (fun z => hne (he0.mp z))]
        simp (disch := first | assumption | omega | (simp only [gT_sI, gT_sL, gT_sR, gT_sB]; first | assumption | omega)) only [Option.bind_some, ldI_ok, ldL_ok, ldR_ok, ldB_ok, stI_ok, stL_ok, stR_ok, stB_ok, chk_ok, raI_k, raL_k, raR_k, raB_k, waI_k, waL_k, waB_k, waR_k, alen_k, gT_sI, gT_sL, gT_sR, gT_sB, gN_sI, gN_sL, gN_sR, gN_sB, gI_sL, gI_sR, gI_sB, gL_sI, gL_sR, gL_sB, gR_sI, gR_sL, gR_sB, gB_sI, gB_sL, gB_sR, gI_sIs, gL_sLs, gR_sRs, gB_sBs, gI_sIn, gL_sLn, gR_sRn, gB_sBn, rdI_ok, rdL_ok, rdB_ok, wrI_ok, wrL_ok, wrB_ok, q1]
        simp (disch := omega) only [nl, nI_add, nI_mul, iSub, iEq, iLe, iLt, iEqN, iNEq, iNN, iLtN, iNLt, iLeN, iNLe, iAddN, iNAdd, iMin, iMax, iDiv, iRem]
        rw [if_neg (by omega)]
        simp (disch := first | assumption | omega | (simp only [gT_sI, gT_sL, gT_sR, gT_sB]; first | assumption | omega)) only [Option.bind_some, ldI_ok, ldL_ok, ldR_ok, ldB_ok, stI_ok, stL_ok, stR_ok, stB_ok, chk_ok, raI_k, raL_k, raR_k, raB_k, waI_k, waL_k, waB_k, waR_k, alen_k, gT_sI, gT_sL, gT_sR, gT_sB, gN_sI, gN_sL, gN_sR, gN_sB, gI_sL, gI_sR, gI_sB, gL_sI, gL_sR, gL_sB, gR_sI, gR_sL, gR_sB, gB_sI, gB_sL, gB_sR, gI_sIs, gL_sLs, gR_sRs, gB_sBs, gI_sIn, gL_sLn, gR_sRn, gB_sBn, rdI_ok, rdL_ok, rdB_ok, wrI_ok, wrL_ok, wrB_ok, r0, rk, this]
        cases pAsks (P.getD k default) t f
        · have : bP (false = true) = false := Bool.eq_false_iff.mpr (fun z => Bool.false_ne_true (bP_t.mp z))
          rw [this]
          rfl
        · rw [bP_t.mpr rfl]
          rfl
      · unfold Qu_names_l3
        rw [if_neg (fun z => hne (he0.mp z))]
        simp (disch := first | assumption | omega | (simp only [gT_sI, gT_sL, gT_sR, gT_sB]; first | assumption | omega)) only [Option.bind_some, ldI_ok, ldL_ok, ldR_ok, ldB_ok, stI_ok, stL_ok, stR_ok, stB_ok, chk_ok, raI_k, raL_k, raR_k, raB_k, waI_k, waL_k, waB_k, waR_k, alen_k, gT_sI, gT_sL, gT_sR, gT_sB, gN_sI, gN_sL, gN_sR, gN_sB, gI_sL, gI_sR, gI_sB, gL_sI, gL_sR, gL_sB, gR_sI, gR_sL, gR_sB, gB_sI, gB_sL, gB_sR, gI_sIs, gL_sLs, gR_sRs, gB_sBs, gI_sIn, gL_sLn, gR_sRn, gB_sBn, rdI_ok, rdL_ok, rdB_ok, wrI_ok, wrL_ok, wrB_ok, q1]
        simp (disch := omega) only [nl, nI_add, nI_mul, iSub, iEq, iLe, iLt, iEqN, iNEq, iNN, iLtN, iNLt, iLeN, iNLe, iAddN, iNAdd, iMin, iMax, iDiv, iRem]
        rw [if_pos (Nat.le_refl _)]
  rw [show (0 : Int32) = nI 0 from rfl, hlp]
  cases (decide (t ≠ []) && qAsks P t f) <;> rfl
/-- the first token that the answer's query asks for -/
def mkS (D : List DocT) (A : AnT) (x w : Int32) (ln : Bool) : Int32 := if w = 0 ∨ w = 1 then (match hitAt A x with
  | none => -1
  | some h => let f := if w = 0 then 0 else 1
    let j := run (fun j => !(decide (tmA D f h.1 j ≠ []) && qAsks A.2.2 (tmA D f h.1 j) f)) (tkN D f h.1) 0
    if j < tkN D f h.1 then (if ln = true then nI (tA (dTok (dA D h.1) f) j).2.1 else nI (tA (dTok (dA D h.1) f) j).1) else -1) else -2
theorem E_mark_ok {e : Nat} {da : Nat → Nat} {σ : Mem} {tp : Nat → Nat} {n : Nat} {D : List DocT} {dl : Nat → Bool} {bs : Nat} {G : List SegT} {V : Nat → VwT} {A : AnT} {nr : Option (List Nat)} {mg : Nat} {st sp : Bool} (h : cH e da σ tp n D dl bs G V A nr mg st sp) (hT : okTx D) (ok : okA D A) (hP : okPs A.2.2) (x w : Int32) (ln : Bool) : E_mark σ e x w ln = some (mkS D A x w ln) := by
  obtain ⟨hF, -, hD, -, -, -, hA, -⟩ := h
  have t0 := iFix0 hF
  obtain ⟨t1, -⟩ := iFix hF 24 0 0 (by decide) rfl
  have hjn : (jn (if w = 0 then some (Sum.inr ()) else if w = 1 then some (Sum.inr ()) else some (Sum.inl (-2 : Int32))) fun q1 : Unit => (ldR σ 11 12 (some e)).bind fun v4 => (chk σ 0 v4).bind fun a5 => (An_documentAt σ a5 x).bind fun v6 => if v6 = none then some (-1) else (chk σ 1 v6).bind fun a8 => (Do_textOf σ a8 w).bind fun v9 => (lp (fun q => E_mark_l40 σ e w ln v9 q) (0)).bind (se (fun z21 => if ln = true then (chk σ 8 v9).bind fun a24 => (Te_lengthAt σ a24 z21).bind fun v25 => some v25 else (chk σ 8 v9).bind fun a26 => (Te_startAt σ a26 z21).bind fun v27 => some v27) (fun z22 => some (-1)))) = E_mark σ e x w ln := rfl
  rw [← hjn]
  unfold mkS
  by_cases hw : w = 0 ∨ w = 1
  · have e1 : (if w = 0 then some (Sum.inr ()) else if w = 1 then some (Sum.inr ()) else some (Sum.inl (-2 : Int32))) = some (Sum.inr ()) := by
      rcases hw with q | q
      · rw [if_pos q]
      · by_cases c : w = 0
        · rw [if_pos c]
        · rw [if_neg c, if_pos q]
    rw [e1, if_pos hw]
    simp only [jn_r]
    simp (disch := first | assumption | omega | (simp only [gT_sI, gT_sL, gT_sR, gT_sB]; first | assumption | omega)) only [Option.bind_some, ldI_ok, ldL_ok, ldR_ok, ldB_ok, stI_ok, stL_ok, stR_ok, stB_ok, chk_ok, raI_k, raL_k, raR_k, raB_k, waI_k, waL_k, waB_k, waR_k, alen_k, gT_sI, gT_sL, gT_sR, gT_sB, gN_sI, gN_sL, gN_sR, gN_sB, gI_sL, gI_sR, gI_sB, gL_sI, gL_sR, gL_sB, gR_sI, gR_sL, gR_sB, gB_sI, gB_sL, gB_sR, gI_sIs, gL_sLs, gR_sRs, gB_sBs, gI_sIn, gL_sLn, gR_sRn, gB_sBn, rdI_ok, rdL_ok, rdB_ok, wrI_ok, wrL_ok, wrB_ok, hF.an, An_documentAt_ok hF hA]
    cases hx : hitAt A x with
    | none => rfl
    | some y =>
      obtain ⟨h1, -⟩ := hitAt_ok ok hx
      have dd := hD.d h1
      have td := dd.1.t
      obtain ⟨p, q, d4, d5, d6, d7⟩ := dd.2.2.2.2.2
      have hf : (if w = 0 then 0 else 1) < 2 := by split <;> omega
      have ew : w = nI (if w = 0 then 0 else 1) := by
        rcases hw with q | q
        · rw [q]; rfl
        · rw [q]; rfl
      have hm : ∃ v, Do_textOf σ (da y.1) w = some (some v) ∧ isText (e + 401) σ v (dTok (dA D y.1) (if w = 0 then 0 else 1)) := by
        unfold Do_textOf
        by_cases c : w = 0
        · rw [if_neg (by simp [c]), if_pos c]
          simp (disch := first | assumption | omega | (simp only [gT_sI, gT_sL, gT_sR, gT_sB]; first | assumption | omega)) only [Option.bind_some, ldI_ok, ldL_ok, ldR_ok, ldB_ok, stI_ok, stL_ok, stR_ok, stB_ok, chk_ok, raI_k, raL_k, raR_k, raB_k, waI_k, waL_k, waB_k, waR_k, alen_k, gT_sI, gT_sL, gT_sR, gT_sB, gN_sI, gN_sL, gN_sR, gN_sB, gI_sL, gI_sR, gI_sB, gL_sI, gL_sR, gL_sB, gR_sI, gR_sL, gR_sB, gB_sI, gB_sL, gB_sR, gI_sIs, gL_sLs, gR_sRs, gB_sBs, gI_sIn, gL_sLn, gR_sRn, gB_sBn, rdI_ok, rdL_ok, rdB_ok, wrI_ok, wrL_ok, wrB_ok, d4]
          exact ⟨p, rfl, d6⟩
        · rw [if_pos c, if_neg c]
          simp (disch := first | assumption | omega | (simp only [gT_sI, gT_sL, gT_sR, gT_sB]; first | assumption | omega)) only [Option.bind_some, ldI_ok, ldL_ok, ldR_ok, ldB_ok, stI_ok, stL_ok, stR_ok, stB_ok, chk_ok, raI_k, raL_k, raR_k, raB_k, waI_k, waL_k, waB_k, waR_k, alen_k, gT_sI, gT_sL, gT_sR, gT_sB, gN_sI, gN_sL, gN_sR, gN_sB, gI_sL, gI_sR, gI_sB, gL_sI, gL_sR, gL_sB, gR_sI, gR_sL, gR_sB, gB_sI, gB_sL, gB_sR, gI_sIs, gL_sLs, gR_sRs, gB_sBs, gI_sIn, gL_sLn, gR_sRn, gB_sBn, rdI_ok, rdL_ok, rdB_ok, wrI_ok, wrL_ok, wrB_ok, d5]
          exact ⟨q, rfl, d7⟩
      obtain ⟨v, hv, hvt⟩ := hm
      simp only [Option.map_some, Option.bind_some, reduceCtorEq, if_false]
      rw [chk_ok td]
      simp only [Option.bind_some]
      rw [hv]
      simp only [Option.bind_some]
      clear hv e1 hjn
      generalize (if w = 0 then 0 else 1) = f at *
      obtain ⟨hl, hok⟩ := hT _ f h1 hf
      have hl : tkN D f y.1 ≤ 50 + 150 * f := hl
      obtain ⟨a, b, c, u, v0, va, vb, vc, vu, sa, sb, sc, vals, hvo⟩ := hvt
      have tv := v0.t
      have ta := sa.t
      have tb := sb.t
      have tc := sc.t
      have ma := sa.m
      have mb := sb.m
      have mc := sc.m
      have hlen : (dTok (dA D y.1) f).length = tkN D f y.1 := rfl
      rw [hlen] at ma mb mc
      obtain ⟨aq, ⟨q0, q1, q2⟩, q3⟩ := hA.2.2.2.2
      have hQ := hF.q q0
      have tq := hQ.1
      have hlp : lp (fun q : Int32 => E_mark_l40 σ e w ln (some v) q) (nI 0) = some (if run (fun j => !(decide (tmA D f y.1 j ≠ []) && qAsks A.2.2 (tmA D f y.1 j) f)) (tkN D f y.1) 0 < tkN D f y.1 then .inl (nI (run (fun j => !(decide (tmA D f y.1 j ≠ []) && qAsks A.2.2 (tmA D f y.1 j) f)) (tkN D f y.1) 0)) else .inr ()) := by
        have hN : ∀ j, j < tkN D f y.1 → E_mark_l40 σ e w ln (some v) (nI j) = some (if (decide (tmA D f y.1 j ≠ []) && qAsks A.2.2 (tmA D f y.1 j) f) = true then .inr (.inl (nI j)) else .inl (nI (j + 1))) := fun j hj => by
          have hte : isTerm (tmA D f y.1 j) := (hok _ (getD_mem (d := (0, 0, [])) hj)).2.2
          have hqn := Qu_names_ok hQ q3 hP hf hte
          have v3 : gL σ c j = lN (enc (tmA D f y.1 j)) := (vals j hj).2.2
          unfold E_mark_l40 Te_tokens Te_termAt
          have hnn : ¬ nI j < 0 := fun z => by
            have : (nI j < 0) = (j < 0) := iLt (b := 0) (by omega) (by omega)
            rw [this] at z
            omega
          simp only [hnn, if_false]
          simp (disch := first | assumption | omega | (simp only [gT_sI, gT_sL, gT_sR, gT_sB]; first | assumption | omega)) only [Option.bind_some, ldI_ok, ldL_ok, ldR_ok, ldB_ok, stI_ok, stL_ok, stR_ok, stB_ok, chk_ok, raI_k, raL_k, raR_k, raB_k, waI_k, waL_k, waB_k, waR_k, alen_k, gT_sI, gT_sL, gT_sR, gT_sB, gN_sI, gN_sL, gN_sR, gN_sB, gI_sL, gI_sR, gI_sB, gL_sI, gL_sR, gL_sB, gR_sI, gR_sL, gR_sB, gB_sI, gB_sL, gB_sR, gI_sIs, gL_sLs, gR_sRs, gB_sBs, gI_sIn, gL_sLn, gR_sRn, gB_sBn, rdI_ok, rdL_ok, rdB_ok, wrI_ok, wrL_ok, wrB_ok, vc, mc]
          simp (disch := omega) only [iLe]
          rw [if_neg (by omega), if_neg (by omega)]
          simp (disch := first | assumption | omega | (simp only [gT_sI, gT_sL, gT_sR, gT_sB]; first | assumption | omega)) only [Option.bind_some, ldI_ok, ldL_ok, ldR_ok, ldB_ok, stI_ok, stL_ok, stR_ok, stB_ok, chk_ok, raI_k, raL_k, raR_k, raB_k, waI_k, waL_k, waB_k, waR_k, alen_k, gT_sI, gT_sL, gT_sR, gT_sB, gN_sI, gN_sL, gN_sR, gN_sB, gI_sL, gI_sR, gI_sB, gL_sI, gL_sR, gL_sB, gR_sI, gR_sL, gR_sB, gB_sI, gB_sL, gB_sR, gI_sIs, gL_sLs, gR_sRs, gB_sBs, gI_sIn, gL_sLn, gR_sRn, gB_sBn, rdI_ok, rdL_ok, rdB_ok, wrI_ok, wrL_ok, wrB_ok, hF.an, q1, v3]
          rw [ew, hqn]
          simp only [Option.bind_some, nl, nI_add]
          split <;> rfl
        have hend : E_mark_l40 σ e w ln (some v) (nI (tkN D f y.1)) = some (.inr (.inr ())) := by
          unfold E_mark_l40 Te_tokens
          simp (disch := first | assumption | omega | (simp only [gT_sI, gT_sL, gT_sR, gT_sB]; first | assumption | omega)) only [Option.bind_some, ldI_ok, ldL_ok, ldR_ok, ldB_ok, stI_ok, stL_ok, stR_ok, stB_ok, chk_ok, raI_k, raL_k, raR_k, raB_k, waI_k, waL_k, waB_k, waR_k, alen_k, gT_sI, gT_sL, gT_sR, gT_sB, gN_sI, gN_sL, gN_sR, gN_sB, gI_sL, gI_sR, gI_sB, gL_sI, gL_sR, gL_sB, gR_sI, gR_sL, gR_sB, gB_sI, gB_sL, gB_sR, gI_sIs, gL_sLs, gR_sRs, gB_sBs, gI_sIn, gL_sLn, gR_sRn, gB_sBn, rdI_ok, rdL_ok, rdB_ok, wrI_ok, wrL_ok, wrB_ok, vc, mc]
          simp (disch := omega) only [iLe]
          rw [if_pos (Nat.le_refl _)]
        refine lp_run (p := fun j => !(decide (tmA D f y.1 j ≠ []) && qAsks A.2.2 (tmA D f y.1 j) f)) (tkN D f y.1) 0 (fun j h1 h2 h3 => ?_) ?_
        · rw [hN j (by omega), if_neg (fun z => by rw [z] at h3; cases h3)]
        · have hr := run_ge (fun j => !(decide (tmA D f y.1 j ≠ []) && qAsks A.2.2 (tmA D f y.1 j) f)) (tkN D f y.1) 0
          have ho := run_out (fun j => !(decide (tmA D f y.1 j ≠ []) && qAsks A.2.2 (tmA D f y.1 j) f)) (tkN D f y.1) 0
          generalize run (fun j => !(decide (tmA D f y.1 j ≠ []) && qAsks A.2.2 (tmA D f y.1 j) f)) (tkN D f y.1) 0 = r at *
          by_cases c : r < tkN D f y.1
          · rw [hN r c, if_pos (by have := ho (by omega); rw [Bool.not_eq_false'] at this; exact this), if_pos c]
          · rw [show r = tkN D f y.1 by omega, hend, if_neg (Nat.lt_irrefl _)]
      rw [show (0 : Int32) = nI 0 from rfl, hlp]
      generalize run (fun j => !(decide (tmA D f y.1 j ≠ []) && qAsks A.2.2 (tmA D f y.1 j) f)) (tkN D f y.1) 0 = r at *
      by_cases c : r < tkN D f y.1
      · rw [if_pos c, if_pos c]
        obtain ⟨v1, v2, -⟩ := vals r c
        have hnn : ¬ nI r < 0 := fun z => by
          have : (nI r < 0) = (r < 0) := iLt (b := 0) (by omega) (by omega)
          rw [this] at z
          omega
        simp only [Option.bind_some, se_l]
        rw [chk_ok tv]
        unfold Te_lengthAt Te_startAt
        simp only [hnn, if_false]
        simp (disch := first | assumption | omega | (simp only [gT_sI, gT_sL, gT_sR, gT_sB]; first | assumption | omega)) only [Option.bind_some, ldI_ok, ldL_ok, ldR_ok, ldB_ok, stI_ok, stL_ok, stR_ok, stB_ok, chk_ok, raI_k, raL_k, raR_k, raB_k, waI_k, waL_k, waB_k, waR_k, alen_k, gT_sI, gT_sL, gT_sR, gT_sB, gN_sI, gN_sL, gN_sR, gN_sB, gI_sL, gI_sR, gI_sB, gL_sI, gL_sR, gL_sB, gR_sI, gR_sL, gR_sB, gB_sI, gB_sL, gB_sR, gI_sIs, gL_sLs, gR_sRs, gB_sBs, gI_sIn, gL_sLn, gR_sRn, gB_sBn, rdI_ok, rdL_ok, rdB_ok, wrI_ok, wrL_ok, wrB_ok, va, vb, ma, mb]
        simp (disch := omega) only [iLe]
        have hnl : ¬ tkN D f y.1 ≤ r := by omega
        simp only [hnl, if_false]
        simp (disch := first | assumption | omega | (simp only [gT_sI, gT_sL, gT_sR, gT_sB]; first | assumption | omega)) only [Option.bind_some, ldI_ok, ldL_ok, ldR_ok, ldB_ok, stI_ok, stL_ok, stR_ok, stB_ok, chk_ok, raI_k, raL_k, raR_k, raB_k, waI_k, waL_k, waB_k, waR_k, alen_k, gT_sI, gT_sL, gT_sR, gT_sB, gN_sI, gN_sL, gN_sR, gN_sB, gI_sL, gI_sR, gI_sB, gL_sI, gL_sR, gL_sB, gR_sI, gR_sL, gR_sB, gB_sI, gB_sL, gB_sR, gI_sIs, gL_sLs, gR_sRs, gB_sBs, gI_sIn, gL_sLn, gR_sRn, gB_sBn, rdI_ok, rdL_ok, rdB_ok, wrI_ok, wrL_ok, wrB_ok, v1, v2]
        cases ln <;> rfl
      · rw [if_neg c, if_neg c]
        rfl
  · have e1 : (if w = 0 then some (Sum.inr ()) else if w = 1 then some (Sum.inr ()) else some (Sum.inl (-2 : Int32))) = some (Sum.inl (-2)) := by
      rw [if_neg (fun q => hw (.inl q)), if_neg (fun q => hw (.inr q))]
    rw [e1, if_neg hw]
    rfl
/-! the reference's marks -/
theorem cmp_lpI {f : Int32 × Int32 → Option ((Int32 × Int32) ⊕ Int32)} {a b : List Nat} {n : Nat} (b0 : Nat) (hb : b0 < 2) (hs : b0 = 1 → ∀ k, k < n → f (nI 1, nI k) = some (.inl (nI (if a.getD k 0 = b.getD k 0 then 1 else 0), nI (k + 1)))) (hf : ∀ k, k < n → f (nI 0, nI k) = some (.inr (nI 0))) (he : ∀ x, f (x, nI n) = some (.inr x)) : lp f (nI b0, nI 0) = some (nI (if b0 = 1 ∧ ∀ k, k < n → a.getD k 0 = b.getD k 0 then 1 else 0)) := by
  by_cases h1 : b0 = 1
  · subst h1
    have := lp_for (f := f) (fun k (x : Nat) => (nI x, nI k)) n (fun k x => x = if ∀ j, j < k → a.getD j 0 = b.getD j 0 then 1 else 0) (fun r => r = nI (if ∀ j, j < n → a.getD j 0 = b.getD j 0 then 1 else 0)) (fun k x hk hI => ?_) (fun x hI => ⟨nI x, he _, by rw [hI]⟩) n 0 1 (by omega) (by rw [if_pos (fun j hj => absurd hj (by omega))])
    · obtain ⟨r, h1, rfl⟩ := this
      rw [h1]
      simp only [true_and]
    · subst hI
      by_cases c : ∀ j, j < k → a.getD j 0 = b.getD j 0
      · left
        rw [if_pos c]
        refine ⟨_, hs rfl k hk, ?_⟩
        by_cases q : a.getD k 0 = b.getD k 0
        · rw [if_pos q, if_pos]
          intro j hj
          by_cases z : j = k
          · rw [z]; exact q
          · exact c j (by omega)
        · rw [if_neg q, if_neg]
          exact fun z => q (z k (by omega))
      · right
        rw [if_neg c]
        refine ⟨_, hf k hk, ?_⟩
        rw [if_neg]
        exact fun q => c (fun j hj => q j (by omega))
  · have h0 : b0 = 0 := by omega
    subst h0
    rw [if_neg (by omega)]
    by_cases h0 : 0 < n
    · exact lp_out (hf 0 h0)
    · have : n = 0 := by omega
      subst this
      exact lp_out (he _)
theorem M_isMarked_ok {R : RS} {D : List DocT} {dl : Nat → Bool} {P : List PT} (hD : rDocs R D dl) (hM : rMarks R P) (hDL : D.length ≤ 400) (hT : okTx D) {d f k : Nat} (hd : d < D.length) (hf : f < 2) (hk : k < tkN D f d) : M_isMarked R (nI (250 * d + 50 * f + k)) (nI f) = some (decide (tmA D f d k ≠ []) && qAsks P (tmA D f d k) f) := by
  obtain ⟨M, m1, m2, m3, m4⟩ := hM
  obtain ⟨hl, hok⟩ := hT d f hd hf
  have htm : isTerm (tmA D f d k) := (hok _ (getD_mem (d := (0, 0, [])) hk)).2.2
  obtain ⟨-, -, u3, u4⟩ := (hD.2.2.2 d f hd hf).2 k hk
  have hl : tkN D f d ≤ 50 + 150 * f := hl
  have u3 : R.1 9 (250 * d + 50 * f + k) = nI (tmA D f d k).length := u3
  have u4 : ∀ i, i < (tmA D f d k).length → R.1 10 (12 * (250 * d + 50 * f + k) + i) = nI ((tmA D f d k).getD i 0) := u4
  generalize htt : tmA D f d k = t at *
  have ht12 := htm.1
  have hpos : 250 * d + 50 * f + k < 100000 := by omega
  generalize 250 * d + 50 * f + k = u at *
  have hlp : lp (fun q : Int32 => M_isMarked_l2 R (nI u) (nI f) q) (nI 0) = some (if bP (∃ i, i < M.length ∧ (t ≠ [] ∧ mAsks (mkA M i) t f = true)) = true then .inl () else .inr ()) := by
    refine lp_find (fun i => t ≠ [] ∧ mAsks (mkA M i) t f = true) M.length (fun i hi => ?_) ?_
    · obtain ⟨a1, a2, a3, a4, a5, a6⟩ := m3 i hi
      generalize mkA M i = m at *
      obtain ⟨kd, g, w⟩ := m
      simp only at a1 a2 a3 a4 a5 a6
      have hg : (if fI g = -1 then some (Sum.inr ()) else if fI g = nI f then some (Sum.inr ()) else some (Sum.inl (Sum.inr ()))) = some (if fFor g f = true then (Sum.inr () : ((Int32 ⊕ (Unit ⊕ Unit)) ⊕ Unit) ⊕ Unit) else Sum.inl (Sum.inr ())) := by
        cases g with
        | none => rfl
        | some g =>
          have hg2 := a2.2.1 g rfl
          simp only [fI, fFor]
          simp (disch := omega) only [nl, nI_add, nI_mul, iSub, iEq, iLe, iLt, iEqN, iNEq, iNN, iLtN, iNLt, iLeN, iNLe, iAddN, iNAdd, iMin, iMax, iDiv, iRem]
          by_cases c : g = f
          · simp [c]
          · simp [c]
      have hcond : (if nI t.length ≤ 0 then some (0 : Int32) else (rdI R 22 400 (nI i)).bind fun v11 => if ¬ v11 = 2 then (rdI R 24 400 (nI i)).bind fun v14 => if ¬ nI t.length = v14 then some 0 else some 1 else (rdI R 24 400 (nI i)).bind fun v17 => if nI t.length < v17 then some 0 else some 1) = some (nI (if t ≠ [] ∧ ((kd = 1 ∧ t.length = w.length) ∨ (kd = 2 ∧ w.length ≤ t.length)) then 1 else 0)) := by
        simp (disch := first | assumption | omega | (simp only [gT_sI, gT_sL, gT_sR, gT_sB]; first | assumption | omega)) only [Option.bind_some, ldI_ok, ldL_ok, ldR_ok, ldB_ok, stI_ok, stL_ok, stR_ok, stB_ok, chk_ok, raI_k, raL_k, raR_k, raB_k, waI_k, waL_k, waB_k, waR_k, alen_k, gT_sI, gT_sL, gT_sR, gT_sB, gN_sI, gN_sL, gN_sR, gN_sB, gI_sL, gI_sR, gI_sB, gL_sI, gL_sR, gL_sB, gR_sI, gR_sL, gR_sB, gB_sI, gB_sL, gB_sR, gI_sIs, gL_sLs, gR_sRs, gB_sBs, gI_sIn, gL_sLn, gR_sRn, gB_sBn, rdI_ok, rdL_ok, rdB_ok, wrI_ok, wrL_ok, wrB_ok, u3, a3, a5]
        simp (disch := omega) only [nl, nI_add, nI_mul, iSub, iEq, iLe, iLt, iEqN, iNEq, iNN, iLtN, iNLt, iLeN, iNLe, iAddN, iNAdd, iMin, iMax, iDiv, iRem]
        by_cases c : t = []
        · rw [if_pos (by rw [c]; exact Nat.le_refl _), if_neg (fun z => z.1 c)]
        · have := List.length_pos_iff.mpr c
          rw [if_neg (by omega)]
          rcases a1 with q | q
          · rw [if_pos (by omega)]
            by_cases c2 : t.length = w.length
            · rw [if_neg (by omega), if_pos ⟨c, .inl ⟨q, c2⟩⟩]
            · rw [if_pos c2, if_neg (fun z => by omega)]
          · rw [if_neg (by omega)]
            by_cases c2 : t.length < w.length
            · rw [if_pos c2, if_neg (fun z => by omega)]
            · rw [if_neg c2, if_pos ⟨c, .inr ⟨q, by omega⟩⟩]
      have hw12 := a2.1
      have hcmp : ∀ b : Nat, b < 2 → (b = 1 → w.length ≤ t.length) → lp (fun q : Int32 × Int32 => M_isMarked_l95 R (nI u) (nI f) (nI i) q.1 q.2) (nI b, nI 0) = some (nI (if b = 1 ∧ ∀ k, k < w.length → t.getD k 0 = w.getD k 0 then 1 else 0)) := fun b hb hbl => by
        refine cmp_lpI b hb (fun hb1 j hj => ?_) (fun j hj => ?_) (fun x => ?_)
        · have v1 := u4 j (by have := hbl hb1; omega)
          have v2 := a6 j hj
          have c1 := isTerm_at htm (k := j) (by have := hbl hb1; omega)
          have c2 := isTerm_at a2.2.2 (k := j) hj
          unfold isTb at c1 c2
          unfold M_isMarked_l95
          simp (disch := first | assumption | omega | (simp only [gT_sI, gT_sL, gT_sR, gT_sB]; first | assumption | omega)) only [Option.bind_some, ldI_ok, ldL_ok, ldR_ok, ldB_ok, stI_ok, stL_ok, stR_ok, stB_ok, chk_ok, raI_k, raL_k, raR_k, raB_k, waI_k, waL_k, waB_k, waR_k, alen_k, gT_sI, gT_sL, gT_sR, gT_sB, gN_sI, gN_sL, gN_sR, gN_sB, gI_sL, gI_sR, gI_sB, gL_sI, gL_sR, gL_sB, gR_sI, gR_sL, gR_sB, gB_sI, gB_sL, gB_sR, gI_sIs, gL_sLs, gR_sRs, gB_sBs, gI_sIn, gL_sLn, gR_sRn, gB_sBn, rdI_ok, rdL_ok, rdB_ok, wrI_ok, wrL_ok, wrB_ok, a5]
          simp (disch := omega) only [nl, nI_add, nI_mul, iSub, iEq, iLe, iLt, iEqN, iNEq, iNN, iLtN, iNLt, iLeN, iNLe, iAddN, iNAdd, iMin, iMax, iDiv, iRem]
          rw [if_neg (by omega), if_neg (by omega)]
          simp (disch := first | assumption | omega | (simp only [gT_sI, gT_sL, gT_sR, gT_sB]; first | assumption | omega)) only [Option.bind_some, ldI_ok, ldL_ok, ldR_ok, ldB_ok, stI_ok, stL_ok, stR_ok, stB_ok, chk_ok, raI_k, raL_k, raR_k, raB_k, waI_k, waL_k, waB_k, waR_k, alen_k, gT_sI, gT_sL, gT_sR, gT_sB, gN_sI, gN_sL, gN_sR, gN_sB, gI_sL, gI_sR, gI_sB, gL_sI, gL_sR, gL_sB, gR_sI, gR_sL, gR_sB, gB_sI, gB_sL, gB_sR, gI_sIs, gL_sLs, gR_sRs, gB_sBs, gI_sIn, gL_sLn, gR_sRn, gB_sBn, rdI_ok, rdL_ok, rdB_ok, wrI_ok, wrL_ok, wrB_ok, v1, v2]
          simp only [iEq (show t.getD j 0 < 2147483648 by omega) (show w.getD j 0 < 2147483648 by omega)]
          by_cases c : t.getD j 0 = w.getD j 0
          · simp only [c, if_true, if_false, not_true_eq_false, not_false_eq_true, true_and, and_true, false_and, and_false, true_or, or_true, false_or, or_false, decide_true, decide_false, Bool.false_eq_true, reduceCtorEq, Option.bind_some, Option.map_some, Option.map_none, Option.bind_none, jn_l, jn_r, jn_n, se_l, se_r, nl, nI_add]
          · simp only [c, if_true, if_false, not_true_eq_false, not_false_eq_true, true_and, and_true, false_and, and_false, true_or, or_true, false_or, or_false, decide_true, decide_false, Bool.false_eq_true, reduceCtorEq, Option.bind_some, Option.map_some, Option.map_none, Option.bind_none, jn_l, jn_r, jn_n, se_l, se_r, nl, nI_add]
        · unfold M_isMarked_l95
          simp (disch := first | assumption | omega | (simp only [gT_sI, gT_sL, gT_sR, gT_sB]; first | assumption | omega)) only [Option.bind_some, ldI_ok, ldL_ok, ldR_ok, ldB_ok, stI_ok, stL_ok, stR_ok, stB_ok, chk_ok, raI_k, raL_k, raR_k, raB_k, waI_k, waL_k, waB_k, waR_k, alen_k, gT_sI, gT_sL, gT_sR, gT_sB, gN_sI, gN_sL, gN_sR, gN_sB, gI_sL, gI_sR, gI_sB, gL_sI, gL_sR, gL_sB, gR_sI, gR_sL, gR_sB, gB_sI, gB_sL, gB_sR, gI_sIs, gL_sLs, gR_sRs, gB_sBs, gI_sIn, gL_sLn, gR_sRn, gB_sBn, rdI_ok, rdL_ok, rdB_ok, wrI_ok, wrL_ok, wrB_ok, a5]
          simp (disch := omega) only [nl, nI_add, nI_mul, iSub, iEq, iLe, iLt, iEqN, iNEq, iNN, iLtN, iNLt, iLeN, iNLe, iAddN, iNAdd, iMin, iMax, iDiv, iRem]
          rw [if_neg (by omega)]
          rfl
        · unfold M_isMarked_l95
          simp (disch := first | assumption | omega | (simp only [gT_sI, gT_sL, gT_sR, gT_sB]; first | assumption | omega)) only [Option.bind_some, ldI_ok, ldL_ok, ldR_ok, ldB_ok, stI_ok, stL_ok, stR_ok, stB_ok, chk_ok, raI_k, raL_k, raR_k, raB_k, waI_k, waL_k, waB_k, waR_k, alen_k, gT_sI, gT_sL, gT_sR, gT_sB, gN_sI, gN_sL, gN_sR, gN_sB, gI_sL, gI_sR, gI_sB, gL_sI, gL_sR, gL_sB, gR_sI, gR_sL, gR_sB, gB_sI, gB_sL, gB_sR, gI_sIs, gL_sLs, gR_sRs, gB_sBs, gI_sIn, gL_sLn, gR_sRn, gB_sBn, rdI_ok, rdL_ok, rdB_ok, wrI_ok, wrL_ok, wrB_ok, a5]
          simp (disch := omega) only [nl, nI_add, nI_mul, iSub, iEq, iLe, iLt, iEqN, iNEq, iNN, iLtN, iNLt, iLeN, iNLe, iAddN, iNAdd, iMin, iMax, iDiv, iRem]
          rw [if_pos (Nat.le_refl _)]
      have hfin : mAsks (kd, g, w) t f = (fFor g f && decide ((kd = 1 ∧ t.length = w.length ∨ kd = 2 ∧ w.length ≤ t.length) ∧ ∀ k, k < w.length → t.getD k 0 = w.getD k 0)) := by
        unfold mAsks isPre
        simp only
        congr 1
        rw [Bool.eq_iff_iff, Bool.or_eq_true, Bool.and_eq_true, Bool.and_eq_true, beq_iff_eq, beq_iff_eq, decide_eq_true_eq, decide_eq_true_eq, beq_iff_eq, ← term_eq]
        constructor
        · rintro (⟨q1, q2, q3⟩ | ⟨q1, q2, q3⟩)
          · exact ⟨.inr ⟨q1, q2⟩, q3⟩
          · exact ⟨.inl ⟨q1, q2.symm⟩, fun k hk => (q3 k (by omega)).symm⟩
        · rintro ⟨⟨q1, q2⟩ | ⟨q1, q2⟩, q3⟩
          · exact .inr ⟨q1, q2.symm, fun k hk => (q3 k (by omega)).symm⟩
          · exact .inl ⟨q1, q2, q3⟩
      unfold M_isMarked_l2
      rw [m1]
      simp (disch := omega) only [iLe]
      rw [if_neg (by omega), rdI_ok (by omega) (by omega), a4]
      simp only [Option.bind_some]
      rw [hg]
      cases hgf : fFor g f with
      | false =>
        have : bP (t ≠ [] ∧ mAsks (kd, g, w) t f = true) = false := Bool.eq_false_iff.mpr (fun q => by
          have := (bP_t.mp q).2
          rw [hfin, hgf] at this
          cases this)
        rw [this]
        simp only [Bool.false_eq_true, if_false, jn_l, jn_r, nl, nI_add]
      | true =>
        simp only [if_true, jn_r]
        rw [rdI_ok (by omega) (by omega), u3]
        simp only [Option.bind_some]
        rw [hcond]
        simp only [Option.bind_some]
        have hq : ∀ b : Nat, b < 2 → (b = 1 → w.length ≤ t.length) → lp (fun q : Int32 × Int32 => M_isMarked_l95 R (nI u) (nI f) (nI i) q.1 q.2) (nI b, 0) = some (nI (if b = 1 ∧ ∀ k, k < w.length → t.getD k 0 = w.getD k 0 then 1 else 0)) := hcmp
        by_cases c : t ≠ [] ∧ ((kd = 1 ∧ t.length = w.length) ∨ (kd = 2 ∧ w.length ≤ t.length))
        · rw [if_pos c, hq 1 (by omega) (fun _ => by omega)]
          by_cases c2 : ∀ k, k < w.length → t.getD k 0 = w.getD k 0
          · have e : bP (t ≠ [] ∧ mAsks (kd, g, w) t f = true) = true := bP_t.mpr ⟨c.1, by rw [hfin, hgf, Bool.true_and]; exact decide_eq_true ⟨c.2, c2⟩⟩
            rw [if_pos ⟨rfl, c2⟩, e]
            rfl
          · have e : bP (t ≠ [] ∧ mAsks (kd, g, w) t f = true) = false := Bool.eq_false_iff.mpr (fun q => by
              have := (bP_t.mp q).2
              rw [hfin, hgf, Bool.true_and] at this
              exact c2 (of_decide_eq_true this).2)
            rw [if_neg (fun z => c2 z.2), e]
            exact congrArg (fun z => some (Sum.inl z)) (nI_add i 1)
        · rw [if_neg c, hq 0 (by omega) (fun z => absurd z (by omega)), if_neg (fun z => absurd z.1 (by omega))]
          have e : bP (t ≠ [] ∧ mAsks (kd, g, w) t f = true) = false := Bool.eq_false_iff.mpr (fun q => by
            have h2 := bP_t.mp q
            have := h2.2
            rw [hfin, hgf, Bool.true_and] at this
            exact c ⟨h2.1, (of_decide_eq_true this).1⟩)
          rw [e]
          exact congrArg (fun z => some (Sum.inl z)) (nI_add i 1)
    · unfold M_isMarked_l2
      rw [m1]
      simp (disch := omega) only [nl, nI_add, nI_mul, iSub, iEq, iLe, iLt, iEqN, iNEq, iNN, iLtN, iNLt, iLeN, iNLe, iAddN, iNAdd, iMin, iMax, iDiv, iRem]
      rw [if_pos (Nat.le_refl _)]
  unfold M_isMarked
  rw [show (0 : Int32) = nI 0 from rfl, hlp]
  have e : (decide (t ≠ []) && qAsks P t f) = bP (∃ i, i < M.length ∧ (t ≠ [] ∧ mAsks (mkA M i) t f = true)) := by
    by_cases c : t = []
    · have : bP (∃ i, i < M.length ∧ (t ≠ [] ∧ mAsks (mkA M i) t f = true)) = false := Bool.eq_false_iff.mpr (fun q => by
        obtain ⟨i, -, q, -⟩ := bP_t.mp q
        exact q c)
      rw [this, c]
      rfl
    · have := m4 t f c
      unfold qAsks
      rw [← this, any_bP M (fun m => mAsks m t f) (0, none, []), decide_eq_true c, Bool.true_and]
      congr 1
      simp only [mkA, c, not_false_eq_true, ne_eq, true_and]
  rw [e]
  cases bP (∃ i, i < M.length ∧ (t ≠ [] ∧ mAsks (mkA M i) t f = true)) <;> rfl
theorem M_mark__ok {R : RS} {tp : Nat → Nat} {n : Nat} {D : List DocT} {dl : Nat → Bool} {bs : Nat} {G : List SegT} {V : Nat → VwT} {A : AnT} {nr : Option (List Nat)} {mg : Nat} {st sp : Bool} (h : rH R tp n D dl bs G V A nr mg st sp) (hDL : D.length ≤ 400) (hT : okTx D) (ok : okA D A) (h4 : A.2.1.length ≤ 400) (x w : Int32) (ln : Bool) : M_mark_ R x w ln = some (mkS D A x w ln) := by
  obtain ⟨-, hD, -, -, -, hA, -⟩ := h
  unfold M_mark_ mkS
  rw [M_in_ok, w01]
  by_cases hw : w = 0 ∨ w = 1
  · rw [decide_eq_true hw, if_pos hw]
    simp only [Option.bind_some, if_true]
    rw [M_in_hits hA h4]
    cases hx : hitAt A x with
    | none => rfl
    | some y =>
      obtain ⟨h1, j, hj, rfl, hj2, rfl⟩ := hitAt_ok ok hx
      have hj2 := hj2 h4
      have hf : (if w = 0 then 0 else 1) < 2 := by split <;> omega
      have ew : w = nI (if w = 0 then 0 else 1) := by
        rcases hw with q | q
        · rw [q]; rfl
        · rw [q]; rfl
      simp only [Option.isSome_some, if_true, if_false, not_true_eq_false, not_false_eq_true, true_and, and_true, false_and, and_false, true_or, or_true, false_or, or_false, decide_true, decide_false, Bool.false_eq_true, reduceCtorEq, Option.bind_some, Option.map_some, Option.map_none, Option.bind_none, jn_l, jn_r, jn_n, se_l, se_r]
      simp (disch := first | assumption | omega | (simp only [gT_sI, gT_sL, gT_sR, gT_sB]; first | assumption | omega)) only [Option.bind_some, ldI_ok, ldL_ok, ldR_ok, ldB_ok, stI_ok, stL_ok, stR_ok, stB_ok, chk_ok, raI_k, raL_k, raR_k, raB_k, waI_k, waL_k, waB_k, waR_k, alen_k, gT_sI, gT_sL, gT_sR, gT_sB, gN_sI, gN_sL, gN_sR, gN_sB, gI_sL, gI_sR, gI_sB, gL_sI, gL_sR, gL_sB, gR_sI, gR_sL, gR_sB, gB_sI, gB_sL, gB_sR, gI_sIs, gL_sLs, gR_sRs, gB_sBs, gI_sIn, gL_sLn, gR_sRn, gB_sBn, rdI_ok, rdL_ok, rdB_ok, wrI_ok, wrL_ok, wrB_ok, (hA.2.2.1 j hj2).1]
      generalize (if w = 0 then 0 else 1) = f at *
      generalize (A.2.1.getD j (0, 0)).1 = d at *
      obtain ⟨hl, hok⟩ := hT d f h1 hf
      have hl : tkN D f d ≤ 50 + 150 * f := hl
      have u0 : R.1 6 (2 * d + f) = nI (tkN D f d) := (hD.2.2.2 d f h1 hf).1
      have u1 := (hD.2.2.2 d f h1 hf).2
      have hN : ∀ j, j < tkN D f d → M_mark__l39 R w ln (nI d) (nI j) = some (if (decide (tmA D f d j ≠ []) && qAsks A.2.2 (tmA D f d j) f) = true then .inr (.inl (nI (250 * d + 50 * f + j))) else .inl (nI (j + 1))) := fun j hj => by
        have hm := M_isMarked_ok hD hA.2.2.2 hDL hT h1 hf hj
        unfold M_mark__l39 M_base
        rw [ew]
        simp (disch := first | assumption | omega | (simp only [gT_sI, gT_sL, gT_sR, gT_sB]; first | assumption | omega)) only [Option.bind_some, ldI_ok, ldL_ok, ldR_ok, ldB_ok, stI_ok, stL_ok, stR_ok, stB_ok, chk_ok, raI_k, raL_k, raR_k, raB_k, waI_k, waL_k, waB_k, waR_k, alen_k, gT_sI, gT_sL, gT_sR, gT_sB, gN_sI, gN_sL, gN_sR, gN_sB, gI_sL, gI_sR, gI_sB, gL_sI, gL_sR, gL_sB, gR_sI, gR_sL, gR_sB, gB_sI, gB_sL, gB_sR, gI_sIs, gL_sLs, gR_sRs, gB_sBs, gI_sIn, gL_sLn, gR_sRn, gB_sBn, rdI_ok, rdL_ok, rdB_ok, wrI_ok, wrL_ok, wrB_ok, nl, nI_add, nI_mul, iSub, iEq, iLe, iLt, iEqN, iNEq, iNN, iLtN, iNLt, iLeN, iNLe, iAddN, iNAdd, iMin, iMax, iDiv, iRem, u0]
        rw [if_neg (by omega), hm]
        simp only [Option.bind_some]
        split <;> rfl
      have hend : M_mark__l39 R w ln (nI d) (nI (tkN D f d)) = some (.inr (.inr ())) := by
        unfold M_mark__l39
        rw [ew]
        simp (disch := first | assumption | omega | (simp only [gT_sI, gT_sL, gT_sR, gT_sB]; first | assumption | omega)) only [Option.bind_some, ldI_ok, ldL_ok, ldR_ok, ldB_ok, stI_ok, stL_ok, stR_ok, stB_ok, chk_ok, raI_k, raL_k, raR_k, raB_k, waI_k, waL_k, waB_k, waR_k, alen_k, gT_sI, gT_sL, gT_sR, gT_sB, gN_sI, gN_sL, gN_sR, gN_sB, gI_sL, gI_sR, gI_sB, gL_sI, gL_sR, gL_sB, gR_sI, gR_sL, gR_sB, gB_sI, gB_sL, gB_sR, gI_sIs, gL_sLs, gR_sRs, gB_sBs, gI_sIn, gL_sLn, gR_sRn, gB_sBn, rdI_ok, rdL_ok, rdB_ok, wrI_ok, wrL_ok, wrB_ok, nl, nI_add, nI_mul, iSub, iEq, iLe, iLt, iEqN, iNEq, iNN, iLtN, iNLt, iLeN, iNLe, iAddN, iNAdd, iMin, iMax, iDiv, iRem, u0]
        rw [if_pos (Nat.le_refl _)]
      have hlp : lp (fun q : Int32 => M_mark__l39 R w ln (nI d) q) (nI 0) = some (if run (fun j => !(decide (tmA D f d j ≠ []) && qAsks A.2.2 (tmA D f d j) f)) (tkN D f d) 0 < tkN D f d then .inl (nI (250 * d + 50 * f + run (fun j => !(decide (tmA D f d j ≠ []) && qAsks A.2.2 (tmA D f d j) f)) (tkN D f d) 0)) else .inr ()) := by
        refine lp_run (p := fun j => !(decide (tmA D f d j ≠ []) && qAsks A.2.2 (tmA D f d j) f)) (tkN D f d) 0 (fun j h1 h2 h3 => ?_) ?_
        · rw [hN j (by omega), if_neg (fun z => by rw [z] at h3; cases h3)]
        · have hr := run_ge (fun j => !(decide (tmA D f d j ≠ []) && qAsks A.2.2 (tmA D f d j) f)) (tkN D f d) 0
          have ho := run_out (fun j => !(decide (tmA D f d j ≠ []) && qAsks A.2.2 (tmA D f d j) f)) (tkN D f d) 0
          generalize run (fun j => !(decide (tmA D f d j ≠ []) && qAsks A.2.2 (tmA D f d j) f)) (tkN D f d) 0 = r at *
          by_cases c : r < tkN D f d
          · rw [hN r c, if_pos (by have := ho (by omega); rw [Bool.not_eq_false'] at this; exact this), if_pos c]
          · rw [show r = tkN D f d by omega, hend, if_neg (Nat.lt_irrefl _)]
      rw [show (0 : Int32) = nI 0 from rfl, hlp]
      generalize run (fun j => !(decide (tmA D f d j ≠ []) && qAsks A.2.2 (tmA D f d j) f)) (tkN D f d) 0 = r at *
      by_cases c : r < tkN D f d
      · rw [if_pos c, if_pos c]
        obtain ⟨v1, v2, -, -⟩ := u1 r c
        simp only [Option.bind_some, se_l]
        simp (disch := first | assumption | omega | (simp only [gT_sI, gT_sL, gT_sR, gT_sB]; first | assumption | omega)) only [Option.bind_some, ldI_ok, ldL_ok, ldR_ok, ldB_ok, stI_ok, stL_ok, stR_ok, stB_ok, chk_ok, raI_k, raL_k, raR_k, raB_k, waI_k, waL_k, waB_k, waR_k, alen_k, gT_sI, gT_sL, gT_sR, gT_sB, gN_sI, gN_sL, gN_sR, gN_sB, gI_sL, gI_sR, gI_sB, gL_sI, gL_sR, gL_sB, gR_sI, gR_sL, gR_sB, gB_sI, gB_sL, gB_sR, gI_sIs, gL_sLs, gR_sRs, gB_sBs, gI_sIn, gL_sLn, gR_sRn, gB_sBn, rdI_ok, rdL_ok, rdB_ok, wrI_ok, wrL_ok, wrB_ok, v1, v2]
        cases ln <;> rfl
      · rw [if_neg c, if_neg c]
        rfl
  · rw [decide_eq_false hw, if_neg hw]
    rfl
