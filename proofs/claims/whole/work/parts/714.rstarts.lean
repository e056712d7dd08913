/-! the reference: beginnings scored -/
theorem M_begins_ok {R : RS} {D : List DocT} {dl : Nat → Bool} (hD : rDocs R D dl) (hDL : D.length ≤ 400) (hT : okTx D) {d f k w : Nat} (hd : d < D.length) (hf : f < 2) (hk : k < (dTok (dA D d) f).length) {t : List Nat} (hw : rWd R w t) (hw4 : w < 400) (ht : isTerm t) : M_begins R (nI (250 * d + 50 * f + k)) (nI w) = some (!(tmA D f d k).isEmpty && isPre t (tmA D f d k)) := by
  obtain ⟨hl, hok⟩ := hT d f hd hf
  have hto := hok _ (getD_mem (d := (0, 0, [])) hk)
  obtain ⟨u1, u2, u3, u4⟩ := (hD.2.2.2 d f hd hf).2 k hk
  have htm : isTerm (tA (dTok (dA D d) f) k).2.2 := hto.2.2
  clear hto
  have hl12 := htm.1
  have ht12 := ht.1
  obtain ⟨w1, w2⟩ := hw
  have hu : 250 * d + 50 * f + k < 100000 := by omega
  unfold tmA
  generalize (tA (dTok (dA D d) f) k).2.2 = τ at *
  unfold M_begins
  simp (disch := first | assumption | omega | (simp only [gT_sI, gT_sL, gT_sR, gT_sB]; first | assumption | omega)) only [Option.bind_some, ldI_ok, ldL_ok, ldR_ok, ldB_ok, stI_ok, stL_ok, stR_ok, stB_ok, chk_ok, raI_k, raL_k, raR_k, raB_k, waI_k, waL_k, waB_k, waR_k, alen_k, gT_sI, gT_sL, gT_sR, gT_sB, gN_sI, gN_sL, gN_sR, gN_sB, gI_sL, gI_sR, gI_sB, gL_sI, gL_sR, gL_sB, gR_sI, gR_sL, gR_sB, gB_sI, gB_sL, gB_sR, gI_sIs, gL_sLs, gR_sRs, gB_sBs, gI_sIn, gL_sLn, gR_sRn, gB_sBn, rdI_ok, rdL_ok, rdB_ok, wrI_ok, wrL_ok, wrB_ok, u3, w1]
  have e1 : (if nI τ.length < nI t.length then some false else if nI τ.length ≤ 0 then some false else some true) = some (decide (t.length ≤ τ.length) && !τ.isEmpty) := by
    have c0 : (nI τ.length ≤ 0) = (τ.length ≤ 0) := iLe (b := 0) (by omega) (by omega)
    simp only [iLt (show τ.length < 2147483648 by omega) (show t.length < 2147483648 by omega), c0]
    by_cases c : τ.length < t.length
    · rw [if_pos c, decide_eq_false (by omega)]
      rfl
    · rw [if_neg c, decide_eq_true (by omega)]
      cases τ with
      | nil => rfl
      | cons a l => rfl
  rw [e1]
  simp only [Option.bind_some]
  have hlp := cmp_lp (f := fun q : Bool × Int32 => M_begins_l33 R (nI (250 * d + 50 * f + k)) (nI w) q.1 q.2) (a := τ) (b := t) (b0 := decide (t.length ≤ τ.length) && !τ.isEmpty) (n := t.length) (fun hb j hj => ?_) (fun j hj => ?_) (fun x => ?_)
  · rw [show (0 : Int32) = nI 0 from rfl, hlp]
    simp only [Option.bind_some]
    congr 1
    unfold isPre
    rw [Bool.eq_iff_iff]
    simp only [Bool.and_eq_true, decide_eq_true_eq]
    constructor
    · rintro ⟨⟨h1, h2⟩, h3⟩
      exact ⟨h2, h1, h3⟩
    · rintro ⟨h2, h1, h3⟩
      exact ⟨⟨h1, h2⟩, h3⟩
  · rw [Bool.and_eq_true] at hb
    have hb := of_decide_eq_true hb.1
    have v1 := u4 j (by omega)
    have v2 := w2 j hj
    have b1 := isTerm_at htm (k := j) (by omega)
    have b2 := isTerm_at ht (k := j) hj
    unfold isTb at b1 b2
    unfold M_begins_l33
    simp (disch := first | assumption | omega | (simp only [gT_sI, gT_sL, gT_sR, gT_sB]; first | assumption | omega)) only [Option.bind_some, ldI_ok, ldL_ok, ldR_ok, ldB_ok, stI_ok, stL_ok, stR_ok, stB_ok, chk_ok, raI_k, raL_k, raR_k, raB_k, waI_k, waL_k, waB_k, waR_k, alen_k, gT_sI, gT_sL, gT_sR, gT_sB, gN_sI, gN_sL, gN_sR, gN_sB, gI_sL, gI_sR, gI_sB, gL_sI, gL_sR, gL_sB, gR_sI, gR_sL, gR_sB, gB_sI, gB_sL, gB_sR, gI_sIs, gL_sLs, gR_sRs, gB_sBs, gI_sIn, gL_sLn, gR_sRn, gB_sBn, rdI_ok, rdL_ok, rdB_ok, wrI_ok, wrL_ok, wrB_ok, w1]
    simp (disch := omega) only [nl, nI_add, nI_mul, iSub, iEq, iLe, iLt, iEqN, iNEq, iNN, iLtN, iNLt, iLeN, iNLe, iAddN, iNAdd, iMin, iMax, iDiv, iRem]
    rw [if_neg (by omega)]
    simp only [if_true]
    simp (disch := first | assumption | omega | (simp only [gT_sI, gT_sL, gT_sR, gT_sB]; first | assumption | omega)) only [Option.bind_some, ldI_ok, ldL_ok, ldR_ok, ldB_ok, stI_ok, stL_ok, stR_ok, stB_ok, chk_ok, raI_k, raL_k, raR_k, raB_k, waI_k, waL_k, waB_k, waR_k, alen_k, gT_sI, gT_sL, gT_sR, gT_sB, gN_sI, gN_sL, gN_sR, gN_sB, gI_sL, gI_sR, gI_sB, gL_sI, gL_sR, gL_sB, gR_sI, gR_sL, gR_sB, gB_sI, gB_sL, gB_sR, gI_sIs, gL_sLs, gR_sRs, gB_sBs, gI_sIn, gL_sLn, gR_sRn, gB_sBn, rdI_ok, rdL_ok, rdB_ok, wrI_ok, wrL_ok, wrB_ok, v1, v2]
    simp only [iEq (show τ.getD j 0 < 2147483648 by omega) (show t.getD j 0 < 2147483648 by omega)]
    by_cases c : τ.getD j 0 = t.getD j 0
    · simp only [c, if_true, if_false, not_true_eq_false, not_false_eq_true, true_and, and_true, false_and, and_false, true_or, or_true, false_or, or_false, decide_true, decide_false, Bool.false_eq_true, reduceCtorEq, Option.bind_some, Option.map_some, Option.map_none, Option.bind_none, jn_l, jn_r, jn_n, se_l, se_r, nl, nI_add]
    · simp only [c, if_true, if_false, not_true_eq_false, not_false_eq_true, true_and, and_true, false_and, and_false, true_or, or_true, false_or, or_false, decide_true, decide_false, Bool.false_eq_true, reduceCtorEq, Option.bind_some, Option.map_some, Option.map_none, Option.bind_none, jn_l, jn_r, jn_n, se_l, se_r, nl, nI_add]
  · unfold M_begins_l33
    simp (disch := first | assumption | omega | (simp only [gT_sI, gT_sL, gT_sR, gT_sB]; first | assumption | omega)) only [Option.bind_some, ldI_ok, ldL_ok, ldR_ok, ldB_ok, stI_ok, stL_ok, stR_ok, stB_ok, chk_ok, raI_k, raL_k, raR_k, raB_k, waI_k, waL_k, waB_k, waR_k, alen_k, gT_sI, gT_sL, gT_sR, gT_sB, gN_sI, gN_sL, gN_sR, gN_sB, gI_sL, gI_sR, gI_sB, gL_sI, gL_sR, gL_sB, gR_sI, gR_sL, gR_sB, gB_sI, gB_sL, gB_sR, gI_sIs, gL_sLs, gR_sRs, gB_sBs, gI_sIn, gL_sLn, gR_sRn, gB_sBn, rdI_ok, rdL_ok, rdB_ok, wrI_ok, wrL_ok, wrB_ok, w1]
    simp (disch := omega) only [nl, nI_add, nI_mul, iSub, iEq, iLe, iLt, iEqN, iNEq, iNN, iLtN, iNLt, iLeN, iNLe, iAddN, iNAdd, iMin, iMax, iDiv, iRem]
    rw [if_neg (by omega)]
    simp
  · unfold M_begins_l33
    simp (disch := first | assumption | omega | (simp only [gT_sI, gT_sL, gT_sR, gT_sB]; first | assumption | omega)) only [Option.bind_some, ldI_ok, ldL_ok, ldR_ok, ldB_ok, stI_ok, stL_ok, stR_ok, stB_ok, chk_ok, raI_k, raL_k, raR_k, raB_k, waI_k, waL_k, waB_k, waR_k, alen_k, gT_sI, gT_sL, gT_sR, gT_sB, gN_sI, gN_sL, gN_sR, gN_sB, gI_sL, gI_sR, gI_sB, gL_sI, gL_sR, gL_sB, gR_sI, gR_sL, gR_sB, gB_sI, gB_sL, gB_sR, gI_sIs, gL_sLs, gR_sRs, gB_sBs, gI_sIn, gL_sLn, gR_sRn, gB_sBn, rdI_ok, rdL_ok, rdB_ok, wrI_ok, wrL_ok, wrB_ok, w1]
    simp (disch := omega) only [nl, nI_add, nI_mul, iSub, iEq, iLe, iLt, iEqN, iNEq, iNN, iLtN, iNLt, iLeN, iNLe, iAddN, iNAdd, iMin, iMax, iDiv, iRem]
    rw [if_pos (by omega)]
theorem M_matchStarts_ok {R : RS} {D : List DocT} {dl : Nat → Bool} {i o w d : Nat} {v : VwT} {g : Option Nat} {t : List Nat} {lo hi : Int64} (h : rSc R D dl i v) (hd : d < D.length) (ho : o < 400) (h30 : R.1 30 o = fI g) (hg : ∀ x, g = some x → x < 2) (h31 : R.1 31 o = nI w) (hw4 : w < 400) (hw : rWd R w t) (ht : isTerm t) (ha : rAc R none) : ∃ R', M_matchStarts R (nI d) (nI o) = some R' ∧ Rp wAc R R' ∧ rAc R' (evP D v (mkPT 2 g false false false 1 0 [] 0 0 lo hi t) d) := by
  have hx : ∀ f, inF D v (mkPT 2 g false false false 1 0 [] 0 0 lo hi t) f d = if preS D f d t = true then some (16 * wtS f) else none := fun f => rfl
  have hev : evP D v (mkPT 2 g false false false 1 0 [] 0 0 lo hi t) d = eitS (if fFor g 0 = true then inF D v (mkPT 2 g false false false 1 0 [] 0 0 lo hi t) 0 d else none) (if fFor g 1 = true then inF D v (mkPT 2 g false false false 1 0 [] 0 0 lo hi t) 1 d else none) := by
    have hk : pKind (mkPT 2 g false false false 1 0 [] 0 0 lo hi t) = 2 := rfl
    unfold evP
    rw [hk, if_neg (by decide), if_neg (fun z => by cases z.1)]
    rfl
  have hle : ∀ f, ∀ z, inF D v (mkPT 2 g false false false 1 0 [] 0 0 lo hi t) f d = some z → z ≤ qCap := fun f z hz => by
    rw [hx f] at hz
    have := wtS_le f
    split at hz
    · cases hz; rw [qC]; omega
    · cases hz
  have hstep : ∀ (f : Nat) (m : RS) (acc : Option Nat), f < 2 → Rp wAc R m → rAc m acc → (∀ z, acc = some z → z ≤ qCap) → ∃ m', M_matchStarts_l2 m (nI d) (nI o) (nI f) = some (.inl (nI (f + 1), m')) ∧ Rp wAc R m' ∧ rAc m' (eitS acc (if fFor g f = true then inF D v (mkPT 2 g false false false 1 0 [] 0 0 lo hi t) f d else none)) := fun f m acc hf gm ham hacc => by
    have hS := h.rp gm wAc_sc
    obtain ⟨s1, s2, s3, s4, s5, s6, s7, s8, s9⟩ := hS
    have m30 : m.1 30 o = fI g := by rw [gm.I (by decide) (by unfold wAc; omega)]; exact h30
    have m31 : m.1 31 o = nI w := by rw [gm.I (by decide) (by unfold wAc; omega)]; exact h31
    have mw : rWd m w t := ⟨by rw [gm.I (by decide) (by unfold wAc; omega)]; exact hw.1, fun k hk => by rw [gm.I (by decide) (by unfold wAc; omega)]; exact hw.2 k hk⟩
    obtain ⟨u0, -⟩ := s1.2.2.2 d f hd hf
    have u0 : m.1 6 (2 * d + f) = nI (tkN D f d) := u0
    have hlen := tkN_le s3 hd hf
    rw [evF_step]
    unfold M_matchStarts_l2
    rw [if_neg (fun z => by have := (iLe (a := 2) (b := f) (by omega) (by omega)).mp z; omega), rdI_ok ho (by omega), m30]
    simp only [Option.bind_some]
    rw [fF_if hg hf, show (1 : Int32) = nI 1 from rfl, nI_add]
    by_cases cf : fFor g f = true
    · rw [if_pos cf, if_pos cf]
      simp only [jn_r]
      rw [hx f]
      obtain ⟨b, e1, e2⟩ : ∃ b, lp (fun q : Int32 × Int32 => M_matchStarts_l36 m (nI d) (nI o) (nI f) q.1 q.2) ((fun k (x : Nat) => (nI x, nI k)) 0 0) = some b ∧ b = nI (if preS D f d t = true then 1 else 0) := by
        refine lp_for (fun k (x : Nat) => (nI x, nI k)) (tkN D f d) (fun k x => x = if ∃ j, j < k ∧ (!(tmA D f d j).isEmpty && isPre t (tmA D f d j)) = true then 1 else 0) _ (fun k x hk hI => ?_) (fun x hI => ?_) (tkN D f d) 0 0 (by omega) (by rw [if_neg (fun ⟨j, z, _⟩ => absurd z (Nat.not_lt_zero _))])
        · left
          have hbeg := M_begins_ok s1 s2 s3 hd hf hk mw hw4 ht
          have hb : M_base (nI d) (nI f) = some (nI (250 * d + 50 * f)) := by
            unfold M_base
            rw [show (250 : Int32) = nI 250 from rfl, show (50 : Int32) = nI 50 from rfl, nI_mul, nI_mul, nI_add]
          have hst : M_matchStarts_l36 m (nI d) (nI o) (nI f) (nI x) (nI k) = some (.inl (if x = 1 then nI 1 else nI (if (!(tmA D f d k).isEmpty && isPre t (tmA D f d k)) = true then 1 else 0), nI (k + 1))) := by
            have hx2 : x < 2 := by rw [hI]; split <;> omega
            unfold M_matchStarts_l36
            rw [show (2 : Int32) = nI 2 from rfl, nI_mul, nI_add, rdI_ok (by omega) (by omega), u0]
            simp only [Option.bind_some]
            rw [if_neg (fun z => by have := (iLe (by omega) (by omega)).mp z; omega)]
            have e0 : (nI x = 0) = (x = 0) := iEq (b := 0) (by omega) (by omega)
            simp only [e0]
            rw [show (1 : Int32) = nI 1 from rfl, nI_add]
            by_cases c0 : x = 0
            · rw [if_neg (fun z => z c0), hb]
              simp only [Option.bind_some]
              rw [rdI_ok ho (by omega), m31]
              simp only [Option.bind_some]
              rw [nI_add, hbeg, if_neg (by omega)]
              simp only [Option.bind_some]
              cases (!(tmA D f d k).isEmpty && isPre t (tmA D f d k)) <;> rfl
            · rw [if_pos c0, if_pos (by omega)]
              rfl
          refine ⟨if x = 1 then 1 else (if (!(tmA D f d k).isEmpty && isPre t (tmA D f d k)) = true then 1 else 0), ?_, ?_⟩
          · show M_matchStarts_l36 m (nI d) (nI o) (nI f) (nI x) (nI k) = _
            rw [hst]
            split <;> rfl
          · by_cases c : ∃ j, j < k ∧ (!(tmA D f d j).isEmpty && isPre t (tmA D f d j)) = true
            · rw [if_pos c] at hI
              obtain ⟨j, j1, j2⟩ := c
              rw [if_pos hI, if_pos ⟨j, by omega, j2⟩]
            · rw [if_neg c] at hI
              rw [if_neg (by omega)]
              by_cases c2 : (!(tmA D f d k).isEmpty && isPre t (tmA D f d k)) = true
              · rw [if_pos c2, if_pos ⟨k, by omega, c2⟩]
              · rw [if_neg c2, if_neg (fun ⟨j, j1, j2⟩ => by
                  by_cases z : j = k
                  · rw [z] at j2; exact c2 j2
                  · exact c ⟨j, by omega, j2⟩)]
        · refine ⟨nI x, ?_, ?_⟩
          · show M_matchStarts_l36 m (nI d) (nI o) (nI f) (nI x) (nI (tkN D f d)) = _
            unfold M_matchStarts_l36
            rw [show (2 : Int32) = nI 2 from rfl, nI_mul, nI_add, rdI_ok (by omega) (by omega), u0]
            simp only [Option.bind_some]
            rw [if_pos ((iLe (by omega) (by omega)).mpr (Nat.le_refl _))]
          · rw [hI]
            have : (∃ j, j < tkN D f d ∧ (!(tmA D f d j).isEmpty && isPre t (tmA D f d j)) = true) ↔ preS D f d t = true := by
              unfold preS
              rw [any_bP _ _ (0, 0, []), bP_t]
              rfl
            by_cases c : preS D f d t = true
            · rw [if_pos c, if_pos (this.mpr c)]
            · rw [if_neg c, if_neg (fun z => c (this.mp z))]
      have e1 : lp (fun q : Int32 × Int32 => M_matchStarts_l36 m (nI d) (nI o) (nI f) q.1 q.2) (0, 0) = some b := e1
      rw [e1, e2]
      simp only [Option.bind_some]
      simp only [b01]
      cases hp : preS D f d t with
      | false =>
        rw [if_pos rfl, if_neg (by decide)]
        refine ⟨m, rfl, gm, ?_⟩
        have : eitS acc none = acc := by cases acc <;> rfl
        rw [this]
        exact ham
      | true =>
        rw [if_neg (by decide), if_pos rfl]
        have ew : (if ¬ nI f = 0 then some (16 : Int32) else some 48) = some (nI (16 * wtS f)) := by
          have : (nI f = 0) = (f = 0) := iEq (b := 0) (by omega) (by omega)
          simp only [this]
          unfold wtS
          by_cases c0 : f = 0
          · rw [if_neg (fun z => z c0), if_pos c0]; rfl
          · rw [if_pos c0, if_neg c0]; rfl
        rw [ew]
        simp only [Option.bind_some]
        have hw3 := wtS_le f
        obtain ⟨m', e2, g2, a2⟩ := M_come_ok (v := 16 * wtS f) ham hacc (by rw [qC]; omega)
        rw [e2]
        exact ⟨m', rfl, gm.tr g2 (fun _ _ _ z => z), a2⟩
    · rw [if_neg cf, if_neg cf]
      exact ⟨m, rfl, gm, ham⟩
  obtain ⟨m1, e1, g1, a1⟩ := hstep 0 R none (by decide) Rp.rf ha (fun z y => by cases y)
  rw [eitS_n] at a1
  obtain ⟨m2, e2, g2, a2⟩ := hstep 1 m1 _ (by decide) g1 a1 (fun z y => by
    split at y
    · exact hle 0 z y
    · cases y)
  have e3 : M_matchStarts_l2 m2 (nI d) (nI o) (nI 2) = some (.inr m2) := by
    unfold M_matchStarts_l2
    rw [if_pos (show (2 : Int32) ≤ nI 2 by decide)]
  unfold M_matchStarts
  rw [lp_on (f := fun q : Int32 × RS => M_matchStarts_l2 q.2 (nI d) (nI o) q.1) (a := (0, R)) e1, lp_on (f := fun q : Int32 × RS => M_matchStarts_l2 q.2 (nI d) (nI o) q.1) (a := (nI (0 + 1), m1)) e2, lp_out (f := fun q : Int32 × RS => M_matchStarts_l2 q.2 (nI d) (nI o) q.1) (a := (nI (1 + 1), m2)) e3]
  refine ⟨m2, rfl, g2, ?_⟩
  rw [hev]
  exact a2
