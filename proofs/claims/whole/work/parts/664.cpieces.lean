/-! the class's parser: numbers, names, a new part, its terms -/
theorem jb_neg : ∀ b, b < 256 → 128 ≤ b → jb b < 0 := by decide +kernel
theorem jb_eq {b c : Nat} (hb : b < 256) (hc : c < 128) : (jb b = nI c) = (b = c) := by
  by_cases h : b < 128
  · rw [(jb_all b hb).2.2 h, iEq (by omega) (by omega)]
  · refine propext ⟨fun z => absurd z (neg_ne (jb_neg b hb (by omega)) (by omega)), fun z => by omega⟩
def numA (o : Option Nat) : Int32 := match o with
  | none => -1
  | some v => nI v
theorem Ps_number_ok {e ps q n : Nat} {σ : Mem} {tp : Nat → Nat} {st sp : Bool} (h : cEnv e ps q σ tp n st sp) {i mx : Nat} (hc : cPc ps σ tp n i) (hm : mx ≤ 9) : Ps_number σ ps (nI mx) = some (numA (qNum tp n mx i)) := by
  obtain ⟨t0, r0, i1, r2, r3, hps, hlt, hn⟩ := h.ps
  obtain ⟨ta, tb, tc⟩ := h.2.1
  obtain ⟨hi, c4, c5, c6⟩ := hc
  have hT := fun j (hj : j < 600) => (tc j hj).1
  have hk := pK_lt hT hn hi
  have hS := pS_b (tp := tp) hi
  have hE := pE_b (tp := tp) hi
  unfold Ps_number qNum
  simp (disch := first | assumption | omega | (simp only [gT_sI, gT_sL, gT_sR, gT_sB]; first | assumption | omega)) only [Option.bind_some, ldI_ok, ldL_ok, ldR_ok, ldB_ok, stI_ok, stL_ok, stR_ok, stB_ok, chk_ok, raI_k, raL_k, raR_k, raB_k, waI_k, waL_k, waB_k, waR_k, alen_k, gT_sI, gT_sL, gT_sR, gT_sB, gN_sI, gN_sL, gN_sR, gN_sB, gI_sL, gI_sR, gI_sB, gL_sI, gL_sR, gL_sB, gR_sI, gR_sL, gR_sB, gB_sI, gB_sL, gB_sR, gI_sIs, gL_sLs, gR_sRs, gB_sBs, gI_sIn, gL_sLn, gR_sRn, gB_sBn, rdI_ok, rdL_ok, rdB_ok, wrI_ok, wrL_ok, wrB_ok, c4, c5, c6]
  rw [show (256 : Int32) = nI 256 from rfl]
  simp (disch := omega) only [iEq, iSub, iLe]
  by_cases k : pK tp n i = 256
  · obtain ⟨w1, w2, w3, -⟩ := pW_w hT hn hi k
    rw [if_neg (by omega)]
    by_cases c : pE tp n i - pS tp n i ≤ mx
    · rw [if_pos c]
      generalize pS tp n i = s at *
      generalize pE tp n i = f at *
      have hlp : ∃ b, lp (fun q : Int32 × Int32 => Ps_number_l32 σ ps q.1 q.2) ((fun (j : Nat) (_ : Unit) => (nI (nV tp s j), nI (s + j))) 0 ()) = some b ∧ b = if ∀ j, j < f - s → 48 ≤ tp (s + j) ∧ tp (s + j) ≤ 57 then .inr (nI (nV tp s (f - s))) else .inl () := by
        refine lp_for (fun (j : Nat) (_ : Unit) => (nI (nV tp s j), nI (s + j))) (f - s) (fun j _ => ∀ i, i < j → 48 ≤ tp (s + i) ∧ tp (s + i) ≤ 57) _ (fun j _ hj hI => ?_) (fun _ hI => ?_) (f - s) 0 () (by omega) (fun i hi => absurd hi (Nat.not_lt_zero _))
        · obtain ⟨u1, u2⟩ := tc (s + j) (by omega)
          have u3 := (jb_all _ u1).2.2 (isL_lt (w1 j hj).2)
          have u4 := isL_lt (w1 j hj).2
          have hv := nV_lt j hI
          have hp : (10 : Nat) ^ j ≤ 10 ^ 8 := Nat.pow_le_pow_right (by decide) (by omega)
          unfold Ps_number_l32
          simp (disch := first | assumption | omega | (simp only [gT_sI, gT_sL, gT_sR, gT_sB]; first | assumption | omega)) only [Option.bind_some, ldI_ok, ldL_ok, ldR_ok, ldB_ok, stI_ok, stL_ok, stR_ok, stB_ok, chk_ok, raI_k, raL_k, raR_k, raB_k, waI_k, waL_k, waB_k, waR_k, alen_k, gT_sI, gT_sL, gT_sR, gT_sB, gN_sI, gN_sL, gN_sR, gN_sB, gI_sL, gI_sR, gI_sB, gL_sI, gL_sR, gL_sB, gR_sI, gR_sL, gR_sB, gB_sI, gB_sL, gB_sR, gI_sIs, gL_sLs, gR_sRs, gB_sBs, gI_sIn, gL_sLn, gR_sRn, gB_sBn, rdI_ok, rdL_ok, rdB_ok, wrI_ok, wrL_ok, wrB_ok, c6, i1, r0]
          simp (disch := omega) only [iLe]
          rw [if_neg (by omega), if_neg (by omega)]
          simp (disch := first | assumption | omega | (simp only [gT_sI, gT_sL, gT_sR, gT_sB]; first | assumption | omega)) only [Option.bind_some, ldI_ok, ldL_ok, ldR_ok, ldB_ok, stI_ok, stL_ok, stR_ok, stB_ok, chk_ok, raI_k, raL_k, raR_k, raB_k, waI_k, waL_k, waB_k, waR_k, alen_k, gT_sI, gT_sL, gT_sR, gT_sB, gN_sI, gN_sL, gN_sR, gN_sB, gI_sL, gI_sR, gI_sB, gL_sI, gL_sR, gL_sB, gR_sI, gR_sL, gR_sB, gB_sI, gB_sL, gB_sR, gI_sIs, gL_sLs, gR_sRs, gB_sBs, gI_sIn, gL_sLn, gR_sRn, gB_sBn, rdI_ok, rdL_ok, rdB_ok, wrI_ok, wrL_ok, wrB_ok, tb, u2, u3]
          rw [show (48 : Int32) = nI 48 from rfl, show (57 : Int32) = nI 57 from rfl]
          simp (disch := omega) only [iLt, iLe]
          by_cases d : tp (s + j) < 48
          · right
            rw [if_pos d]
            refine ⟨_, rfl, ?_⟩
            rw [if_neg (fun z => by have := z j hj; omega)]
          · rw [if_neg d]
            by_cases d2 : tp (s + j) ≤ 57
            · left
              rw [if_pos d2]
              refine ⟨(), ?_, fun i hi => ?_⟩
              · rw [show (10 : Int32) = nI 10 from rfl, show (1 : Int32) = nI 1 from rfl, nI_mul, nI_add, nI_add, iSub (by omega)]
                show some (Sum.inl (nI (nV tp s j * 10 + tp (s + j) - 48), nI (s + j + 1))) = some (Sum.inl (nI (nV tp s j * 10 + (tp (s + j) - 48)), nI (s + (j + 1))))
                rw [show nV tp s j * 10 + tp (s + j) - 48 = nV tp s j * 10 + (tp (s + j) - 48) by omega, Nat.add_assoc]
              · by_cases z : i = j
                · rw [z]; omega
                · exact hI i (by omega)
            · right
              rw [if_neg d2]
              refine ⟨_, rfl, ?_⟩
              rw [if_neg (fun z => by have := z j hj; omega)]
        · refine ⟨_, ?_, rfl⟩
          unfold Ps_number_l32
          simp (disch := first | assumption | omega | (simp only [gT_sI, gT_sL, gT_sR, gT_sB]; first | assumption | omega)) only [Option.bind_some, ldI_ok, ldL_ok, ldR_ok, ldB_ok, stI_ok, stL_ok, stR_ok, stB_ok, chk_ok, raI_k, raL_k, raR_k, raB_k, waI_k, waL_k, waB_k, waR_k, alen_k, gT_sI, gT_sL, gT_sR, gT_sB, gN_sI, gN_sL, gN_sR, gN_sB, gI_sL, gI_sR, gI_sB, gL_sI, gL_sR, gL_sB, gR_sI, gR_sL, gR_sB, gB_sI, gB_sL, gB_sR, gI_sIs, gL_sLs, gR_sRs, gB_sBs, gI_sIn, gL_sLn, gR_sRn, gB_sBn, rdI_ok, rdL_ok, rdB_ok, wrI_ok, wrL_ok, wrB_ok, c6]
          simp (disch := omega) only [iLe]
          rw [if_pos (by omega), if_pos hI]
      obtain ⟨b, e1, e2⟩ := hlp
      have e1 : lp (fun q : Int32 × Int32 => Ps_number_l32 σ ps q.1 q.2) (0, nI s) = some b := e1
      rw [e1, e2]
      by_cases z : ∀ j, j < f - s → 48 ≤ tp (s + j) ∧ tp (s + j) ≤ 57
      · rw [if_pos z, if_pos ⟨k, c, z⟩]
        rfl
      · rw [if_neg z, if_neg (fun y => z y.2.2)]
        rfl
    · rw [if_neg c, if_neg (fun z => c z.2.1)]
      rfl
  · rw [if_pos k, if_neg (fun z => k z.1)]
    rfl
def nmL (x : Nat) : List Nat := [[], [120], [121], [116, 105, 116, 108, 101], [98, 111, 100, 121]].getD x []
theorem nmL_ok : ∀ x, x < 5 → 1 ≤ x → sLen x = some (nI (nmL x).length) ∧ (nmL x).length < 10 ∧ ∀ k, k < (nmL x).length → sCh x (nI k) = some (nI ((nmL x).getD k 0)) ∧ (nmL x).getD k 0 < 128 := by decide +kernel
theorem Ps_wordIs_ok {e ps q n : Nat} {σ : Mem} {tp : Nat → Nat} {st sp : Bool} (h : cEnv e ps q σ tp n st sp) {a b x : Nat} (hab : a ≤ b) (hb : b ≤ n) (hx : x < 5 ∧ 1 ≤ x) : Ps_wordIs σ ps (nI a) (nI b) x = some (isNm tp a b (nmL x)) := by
  obtain ⟨t0, r0, i1, r2, r3, hps, hlt, hn⟩ := h.ps
  obtain ⟨ta, tb, tc⟩ := h.2.1
  obtain ⟨l1, l2, l3⟩ := nmL_ok x hx.1 hx.2
  unfold Ps_wordIs isNm
  generalize hl : nmL x = l at *
  have e0 : (nI a < 0) = (a < 0) := iLt (b := 0) (by omega) (by omega)
  rw [if_neg (by rw [e0]; omega)]
  simp (disch := first | assumption | omega | (simp only [gT_sI, gT_sL, gT_sR, gT_sB]; first | assumption | omega)) only [Option.bind_some, ldI_ok, ldL_ok, ldR_ok, ldB_ok, stI_ok, stL_ok, stR_ok, stB_ok, chk_ok, raI_k, raL_k, raR_k, raB_k, waI_k, waL_k, waB_k, waR_k, alen_k, gT_sI, gT_sL, gT_sR, gT_sB, gN_sI, gN_sL, gN_sR, gN_sB, gI_sL, gI_sR, gI_sB, gL_sI, gL_sR, gL_sB, gR_sI, gR_sL, gR_sB, gB_sI, gB_sL, gB_sR, gI_sIs, gL_sLs, gR_sRs, gB_sBs, gI_sIn, gL_sLn, gR_sRn, gB_sBn, rdI_ok, rdL_ok, rdB_ok, wrI_ok, wrL_ok, wrB_ok, i1]
  simp (disch := omega) only [iLt]
  rw [if_neg (by omega), l1]
  simp only [Option.bind_some]
  simp (disch := omega) only [iSub, iEq]
  by_cases c : b - a = l.length
  · rw [if_pos c]
    have hlp : lp (fun q : Int32 => Ps_wordIs_l27 σ ps (nI a) x q) (nI 0) = some (if bP (∃ k, k < l.length ∧ ¬ tp (a + k) = l.getD k 0) = true then .inl () else .inr ()) := by
      refine lp_find (fun k => ¬ tp (a + k) = l.getD k 0) l.length (fun k hk => ?_) ?_
      · obtain ⟨u1, u2⟩ := tc (a + k) (by omega)
        obtain ⟨v1, v2⟩ := l3 k hk
        unfold Ps_wordIs_l27
        rw [l1]
        simp only [Option.bind_some]
        simp (disch := omega) only [iLe]
        rw [if_neg (by omega)]
        simp (disch := first | assumption | omega | (simp only [gT_sI, gT_sL, gT_sR, gT_sB]; first | assumption | omega)) only [Option.bind_some, ldI_ok, ldL_ok, ldR_ok, ldB_ok, stI_ok, stL_ok, stR_ok, stB_ok, chk_ok, raI_k, raL_k, raR_k, raB_k, waI_k, waL_k, waB_k, waR_k, alen_k, gT_sI, gT_sL, gT_sR, gT_sB, gN_sI, gN_sL, gN_sR, gN_sB, gI_sL, gI_sR, gI_sB, gL_sI, gL_sR, gL_sB, gR_sI, gR_sL, gR_sB, gB_sI, gB_sL, gB_sR, gI_sIs, gL_sLs, gR_sRs, gB_sBs, gI_sIn, gL_sLn, gR_sRn, gB_sBn, rdI_ok, rdL_ok, rdB_ok, wrI_ok, wrL_ok, wrB_ok, r0, nI_add, tb, u2, v1]
        simp (disch := omega) only [jb_eq]
        by_cases z : tp (a + k) = l.getD k 0
        · have hbz : bP (¬ tp (a + k) = l.getD k 0) = false := Bool.eq_false_iff.mpr (fun y => bP_t.mp y z)
          rw [if_pos z, hbz, show (1 : Int32) = nI 1 from rfl, nI_add]
          rfl
        · rw [if_neg z, bP_t.mpr z]
          rfl
      · unfold Ps_wordIs_l27
        rw [l1]
        simp only [Option.bind_some]
        simp (disch := omega) only [iLe]
        rw [if_pos (Nat.le_refl _)]
    rw [show (0 : Int32) = nI 0 from rfl, hlp]
    by_cases z : ∀ k, k < l.length → tp (a + k) = l.getD k 0
    · have hbz : bP (∃ k, k < l.length ∧ ¬ tp (a + k) = l.getD k 0) = false := Bool.eq_false_iff.mpr (fun y => by obtain ⟨k, k1, k2⟩ := bP_t.mp y; exact k2 (z k k1))
      rw [hbz, decide_eq_true ⟨c, z⟩]
      rfl
    · have hz : ∃ k, k < l.length ∧ ¬ tp (a + k) = l.getD k 0 := Classical.byContradiction (fun y => z (fun k hk => Classical.byContradiction (fun w => y ⟨k, hk, w⟩)))
      rw [bP_t.mpr hz, decide_eq_false (fun y => z y.2)]
      rfl
  · rw [if_neg c, decide_eq_false (fun z => c z.1)]
theorem Ps_fieldNamed_ok {e ps q n : Nat} {σ : Mem} {tp : Nat → Nat} {st sp : Bool} (h : cEnv e ps q σ tp n st sp) {a b : Nat} (hab : a ≤ b) (hb : b ≤ n) : Ps_fieldNamed σ ps (nI a) (nI b) = some (if isNm tp a b [116, 105, 116, 108, 101] = true then 0 else if isNm tp a b [98, 111, 100, 121] = true then 1 else -1) := by
  have t0 := h.ps.1
  unfold Ps_fieldNamed
  rw [chk_ok t0]
  simp only [Option.bind_some]
  rw [Ps_wordIs_ok h hab hb ⟨by decide, by decide⟩]
  simp only [Option.bind_some]
  rw [Ps_wordIs_ok h hab hb ⟨by decide, by decide⟩]
  simp only [Option.bind_some]
  show (if isNm tp a b [116, 105, 116, 108, 101] = true then some (0 : Int32) else if isNm tp a b [98, 111, 100, 121] = true then some 1 else some (-1)) = _
  split
  · rfl
  · split <;> rfl
theorem Ps_beginsPart_ok {e ps q n : Nat} {σ : Mem} {tp : Nat → Nat} {st sp : Bool} (h : cEnv e ps q σ tp n st sp) {i : Nat} (hc : cPc ps σ tp n i) : Ps_beginsPart σ ps = some (qBeg (pK tp n i)) := by
  obtain ⟨t0, r0, i1, r2, r3, hps, hlt, hn⟩ := h.ps
  obtain ⟨ta, tb, tc⟩ := h.2.1
  obtain ⟨hi, c4, c5, c6⟩ := hc
  have hk := pK_lt (fun j (hj : j < 600) => (tc j hj).1) hn hi
  unfold Ps_beginsPart qBeg
  simp (disch := first | assumption | omega | (simp only [gT_sI, gT_sL, gT_sR, gT_sB]; first | assumption | omega)) only [Option.bind_some, ldI_ok, ldL_ok, ldR_ok, ldB_ok, stI_ok, stL_ok, stR_ok, stB_ok, chk_ok, raI_k, raL_k, raR_k, raB_k, waI_k, waL_k, waB_k, waR_k, alen_k, gT_sI, gT_sL, gT_sR, gT_sB, gN_sI, gN_sL, gN_sR, gN_sB, gI_sL, gI_sR, gI_sB, gL_sI, gL_sR, gL_sB, gR_sI, gR_sL, gR_sB, gB_sI, gB_sL, gB_sR, gI_sIs, gL_sLs, gR_sRs, gB_sBs, gI_sIn, gL_sLn, gR_sRn, gB_sBn, rdI_ok, rdL_ok, rdB_ok, wrI_ok, wrL_ok, wrB_ok, c4]
  generalize pK tp n i = k at *
  simp (disch := omega) only [nl, nI_add, nI_mul, iSub, iEq, iLe, iLt, iEqN, iNEq, iNN, iLtN, iNLt, iLeN, iNLe, iAddN, iNAdd, iMin, iMax, iDiv, iRem]
  by_cases k1 : k = 256
  · subst k1; rfl
  rw [if_neg k1]
  by_cases k2 : k = 34
  · subst k2; rfl
  rw [if_neg k2]
  by_cases k3 : k = 40
  · subst k3; rfl
  rw [if_neg k3]
  by_cases k4 : k = 91
  · subst k4; rfl
  rw [if_neg k4]
  by_cases k5 : k = 45
  · subst k5; rfl
  rw [if_pos k5, decide_eq_false (by omega)]
/-! parts -/
def wNp (q p : Nat) : Nat → Nat → Nat → Prop := fun t a k => (t = 0 ∧ a = q ∧ k = 1) ∨ wPt p t a k
theorem Qu_nextPart_ok {σ : Mem} {q m : Nat} (hq : isQ σ q) (hm : m < 40) (h1 : gI σ q 1 = nI m) : ∃ σ', Qu_nextPart σ q = some (some (q + (2 + 4 * m)), σ') ∧ Kp (wNp q (q + (2 + 4 * m))) σ σ' ∧ cPart σ' (q + (2 + 4 * m)) (grP false false false 1 0) ∧ gI σ' q 1 = nI (m + 1) := by
  obtain ⟨t0, r0, t1, hp⟩ := hq
  obtain ⟨rm, pm, -⟩ := hp m hm
  obtain ⟨ta, tb⟩ : (gT σ (q + 1)).1 = 107 ∧ (gT σ (q + 1)).2 = 40 := by rw [t1]; exact ⟨rfl, rfl⟩
  unfold Qu_nextPart
  simp (disch := first | assumption | omega | (simp only [gT_sI, gT_sL, gT_sR, gT_sB]; first | assumption | omega)) only [Option.bind_some, ldI_ok, ldL_ok, ldR_ok, ldB_ok, stI_ok, stL_ok, stR_ok, stB_ok, chk_ok, raI_k, raL_k, raR_k, raB_k, waI_k, waL_k, waB_k, waR_k, alen_k, gT_sI, gT_sL, gT_sR, gT_sB, gN_sI, gN_sL, gN_sR, gN_sB, gI_sL, gI_sR, gI_sB, gL_sI, gL_sR, gL_sB, gR_sI, gR_sL, gR_sB, gB_sI, gB_sL, gB_sR, gI_sIs, gL_sLs, gR_sRs, gB_sBs, gI_sIn, gL_sLn, gR_sRn, gB_sBn, rdI_ok, rdL_ok, rdB_ok, wrI_ok, wrL_ok, wrB_ok, h1]
  rw [if_pos (show nI m < 40 from (iLt (b := 40) (by omega) (by omega)).mpr hm)]
  simp (disch := first | assumption | omega | (simp only [gT_sI, gT_sL, gT_sR, gT_sB]; first | assumption | omega)) only [Option.bind_some, ldI_ok, ldL_ok, ldR_ok, ldB_ok, stI_ok, stL_ok, stR_ok, stB_ok, chk_ok, raI_k, raL_k, raR_k, raB_k, waI_k, waL_k, waB_k, waR_k, alen_k, gT_sI, gT_sL, gT_sR, gT_sB, gN_sI, gN_sL, gN_sR, gN_sB, gI_sL, gI_sR, gI_sB, gL_sI, gL_sR, gL_sB, gR_sI, gR_sL, gR_sB, gB_sI, gB_sL, gB_sR, gI_sIs, gL_sLs, gR_sRs, gB_sBs, gI_sIn, gL_sLn, gR_sRn, gB_sBn, rdI_ok, rdL_ok, rdB_ok, wrI_ok, wrL_ok, wrB_ok, r0, tb, rm]
  unfold Pa_clear
  generalize hpp : q + (2 + 4 * m) = p at *
  simp (disch := first | assumption | omega | (simp only [gT_sI, gT_sL, gT_sR, gT_sB]; first | assumption | omega)) only [Option.bind_some, ldI_ok, ldL_ok, ldR_ok, ldB_ok, stI_ok, stL_ok, stR_ok, stB_ok, chk_ok, raI_k, raL_k, raR_k, raB_k, waI_k, waL_k, waB_k, waR_k, alen_k, gT_sI, gT_sL, gT_sR, gT_sB, gN_sI, gN_sL, gN_sR, gN_sB, gI_sL, gI_sR, gI_sB, gL_sI, gL_sR, gL_sB, gR_sI, gR_sL, gR_sB, gB_sI, gB_sL, gB_sR, gI_sIs, gL_sLs, gR_sRs, gB_sBs, gI_sIn, gL_sLn, gR_sRn, gB_sBn, rdI_ok, rdL_ok, rdB_ok, wrI_ok, wrL_ok, wrB_ok, h1]
  refine ⟨_, rfl, ?_, ⟨?_, ?_, ?_, ?_, ?_, ?_, ?_, ?_, ?_, fun k hk => absurd hk (Nat.not_lt_zero _), ?_, fun hk => absurd hk (by show ¬ 2 ≤ 0; omega), fun hk => absurd hk (by show ¬ 0 = 3; omega)⟩, ?_⟩
  · have w0 : ∀ t k, t ≠ 2 → wNp q p t p k := fun t k ht => .inr ⟨ht, Nat.le_refl _, by omega⟩
    exact (((((((((Kp.sI (w0 _ _ (by decide))).i (w0 _ _ (by decide))).b (w0 _ _ (by decide))).b (w0 _ _ (by decide))).b (w0 _ _ (by decide))).i (w0 _ _ (by decide))).i (w0 _ _ (by decide))).i (w0 _ _ (by decide))).i (w0 _ _ (by decide))).i (.inl ⟨rfl, rfl, rfl⟩)
  all_goals try (simp (disch := first | assumption | omega | (simp only [gT_sI, gT_sL, gT_sR, gT_sB]; first | assumption | omega)) only [Option.bind_some, ldI_ok, ldL_ok, ldR_ok, ldB_ok, stI_ok, stL_ok, stR_ok, stB_ok, chk_ok, raI_k, raL_k, raR_k, raB_k, waI_k, waL_k, waB_k, waR_k, alen_k, gT_sI, gT_sL, gT_sR, gT_sB, gN_sI, gN_sL, gN_sR, gN_sB, gI_sL, gI_sR, gI_sB, gL_sI, gL_sR, gL_sB, gR_sI, gR_sL, gR_sB, gB_sI, gB_sL, gB_sR, gI_sIs, gL_sLs, gR_sRs, gB_sBs, gI_sIn, gL_sLn, gR_sRn, gB_sBn, rdI_ok, rdL_ok, rdB_ok, wrI_ok, wrL_ok, wrB_ok]; rfl)
  · exact Nat.zero_le _
  · simp (disch := first | assumption | omega | (simp only [gT_sI, gT_sL, gT_sR, gT_sB]; first | assumption | omega)) only [Option.bind_some, ldI_ok, ldL_ok, ldR_ok, ldB_ok, stI_ok, stL_ok, stR_ok, stB_ok, chk_ok, raI_k, raL_k, raR_k, raB_k, waI_k, waL_k, waB_k, waR_k, alen_k, gT_sI, gT_sL, gT_sR, gT_sB, gN_sI, gN_sL, gN_sR, gN_sB, gI_sL, gI_sR, gI_sB, gL_sI, gL_sR, gL_sB, gR_sI, gR_sL, gR_sB, gB_sI, gB_sL, gB_sR, gI_sIs, gL_sLs, gR_sRs, gB_sBs, gI_sIn, gL_sLn, gR_sRn, gB_sBn, rdI_ok, rdL_ok, rdB_ok, wrI_ok, wrL_ok, wrB_ok]
    rw [show (1 : Int32) = nI 1 from rfl, nI_add]
theorem Qu_nextPart_no {σ : Mem} {q m : Nat} (hq : isQ σ q) (hm : 40 ≤ m) (hm2 : m < 1000) (h1 : gI σ q 1 = nI m) : Qu_nextPart σ q = some (none, σ) := by
  obtain ⟨t0, r0, t1, hp⟩ := hq
  unfold Qu_nextPart
  simp (disch := first | assumption | omega | (simp only [gT_sI, gT_sL, gT_sR, gT_sB]; first | assumption | omega)) only [Option.bind_some, ldI_ok, ldL_ok, ldR_ok, ldB_ok, stI_ok, stL_ok, stR_ok, stB_ok, chk_ok, raI_k, raL_k, raR_k, raB_k, waI_k, waL_k, waB_k, waR_k, alen_k, gT_sI, gT_sL, gT_sR, gT_sB, gN_sI, gN_sL, gN_sR, gN_sB, gI_sL, gI_sR, gI_sB, gL_sI, gL_sR, gL_sB, gR_sI, gR_sL, gR_sB, gB_sI, gB_sL, gB_sR, gI_sIs, gL_sLs, gR_sRs, gB_sBs, gI_sIn, gL_sLn, gR_sRn, gB_sBn, rdI_ok, rdL_ok, rdB_ok, wrI_ok, wrL_ok, wrB_ok, h1]
  rw [if_neg (fun z => by have := (iLt (b := 40) (by omega) (by omega)).mp z; omega)]
theorem cPart.kp {σ σ' : Mem} {p : Nat} {x : PT} {W : Nat → Nat → Nat → Prop} (h : cPart σ p x) (hk : Kp W σ σ') (hp : p + 4 ≤ gN σ) (hw : ∀ t a k, p ≤ a → a < p + 3 → ¬ W t a k) : cPart σ' p x := by
  have hI : ∀ d k, d < 3 → gI σ' (p + d) k = gI σ (p + d) k := fun d k hd => hk.I (by omega) (hw 0 _ k (by omega) (by omega))
  have hL : ∀ d k, d < 3 → gL σ' (p + d) k = gL σ (p + d) k := fun d k hd => hk.L (by omega) (hw 1 _ k (by omega) (by omega))
  have hB : ∀ k, gB σ' p k = gB σ p k := fun k => hk.B (by omega) (hw 3 _ k (by omega) (by omega))
  have hI0 : ∀ k, gI σ' p k = gI σ p k := fun k => hI 0 k (by omega)
  have hL0 : ∀ k, gL σ' p k = gL σ p k := fun k => hL 0 k (by omega)
  unfold cPart at h ⊢
  simp only [hI0, hL0, hB, hI 2 _ (by omega), hL 1 _ (by omega)]
  exact h
/-- a query one of whose parts was written -/
theorem cQuery_set {σ σ' : Mem} {q j : Nat} {P : List PT} {x : PT} (h : cQuery σ q P) (hj : j < P.length) (hk : Kp (wPt (q + (2 + 4 * j))) σ σ') (hN : q + 162 ≤ gN σ) (hx : cPart σ' (q + (2 + 4 * j)) x) : cQuery σ' q (P.set j x) := by
  obtain ⟨a, b, c⟩ := h
  have hb : P.length ≤ 40 := b
  refine ⟨?_, by rw [List.length_set]; exact b, fun i hi => ?_⟩
  · rw [List.length_set, hk.I (a := q) (by omega) (fun z => by unfold wPt at z; omega)]
    exact a
  · rw [List.length_set] at hi
    by_cases z : i = j
    · subst z
      have : (P.set i x).getD i default = x := by
        rw [List.getD_eq_getElem?_getD, List.getElem?_set_self hi]
        rfl
      rw [this]
      exact hx
    · have : (P.set j x).getD i default = P.getD i default := by
        rw [List.getD_eq_getElem?_getD, List.getElem?_set_ne (by omega), ← List.getD_eq_getElem?_getD]
      rw [this]
      exact (c i hi).kp hk (by omega) (fun t a k z1 z2 z3 => by unfold wPt at z3; omega)
theorem cQuery_app {σ σ' : Mem} {q : Nat} {P : List PT} {x : PT} (h : cQuery σ q P) (hj : P.length < 40) (hk : Kp (wNp q (q + (2 + 4 * P.length))) σ σ') (hN : q + 162 ≤ gN σ) (hx : cPart σ' (q + (2 + 4 * P.length)) x) (h1 : gI σ' q 1 = nI (P.length + 1)) : cQuery σ' q (P ++ [x]) := by
  obtain ⟨a, b, c⟩ := h
  refine ⟨?_, by rw [List.length_append]; exact hj, fun i hi => ?_⟩
  · rw [List.length_append]; exact h1
  · rw [List.length_append] at hi
    rw [getD_app]
    by_cases z : i < P.length
    · rw [if_pos z]
      exact (c i z).kp hk (by omega) (fun t a k z1 z2 z3 => by unfold wNp wPt at z3; omega)
    · have hi : i < P.length + 1 := hi
      rw [if_neg z, if_pos (by omega), show i = P.length by omega]
      exact hx
/-- what taking a term writes -/
def wTk (p : Nat) : Nat → Nat → Nat → Prop := fun t a k => (t = 0 ∧ a = p ∧ k = 9) ∨ (t = 1 ∧ a = p + 1) ∨ (t = 0 ∧ a = p + 2)
theorem Pa_takeTerm_ok {σ : Mem} {p m k bo en sl wh : Nat} {g : Option Nat} {ng br sa : Bool} {T : List (List Nat × Nat)} {lo hi : Int64} {w t : List Nat} (hp : isP σ p) (h : cPart σ p (mkPT k g ng br sa bo en T sl wh lo hi w)) (hN : p + 4 ≤ gN σ) (ht : isTerm t) (hT : T.length < 8) : ∃ σ', Pa_takeTerm σ p (lN (enc t)) (nI m) = some σ' ∧ Kp (wTk p) σ σ' ∧ cPart σ' p (mkPT k g ng br sa bo en (T ++ [(t, m)].filter (fun z => !z.1.isEmpty)) sl wh lo hi w) := by
  unfold Pa_takeTerm
  have he0 : lN (enc t) = 0 ↔ enc t = 0 := Iff.of_eq (lEq (b := 0) (by have := enc_lt ht.1; omega) (by omega))
  by_cases c : t = []
  · subst c
    rw [if_pos (he0.mpr rfl)]
    refine ⟨σ, rfl, Kp.rf, ?_⟩
    simpa using h
  · have hne : ¬ enc t = 0 := fun z => c ((enc_0 ht).mp z)
    obtain ⟨t0, t1, t2, t3, r1, r2, r3⟩ := hp
    obtain ⟨p1, p2, p3, p4, p5, p6, p7, p8, p9, p10, p11, p12, p13⟩ := h
    have p8 : gI σ p 9 = nI T.length := p8
    obtain ⟨ta, tb⟩ : (gT σ (p + 1)).1 = 101 ∧ (gT σ (p + 1)).2 = 8 := by rw [t1]; exact ⟨rfl, rfl⟩
    obtain ⟨tc, td⟩ : (gT σ (p + 2)).1 = 100 ∧ (gT σ (p + 2)).2 = 8 := by rw [t2]; exact ⟨rfl, rfl⟩
    rw [if_neg (fun z => hne (he0.mp z))]
    simp (disch := first | assumption | omega | (simp only [gT_sI, gT_sL, gT_sR, gT_sB]; first | assumption | omega)) only [Option.bind_some, ldI_ok, ldL_ok, ldR_ok, ldB_ok, stI_ok, stL_ok, stR_ok, stB_ok, chk_ok, raI_k, raL_k, raR_k, raB_k, waI_k, waL_k, waB_k, waR_k, alen_k, gT_sI, gT_sL, gT_sR, gT_sB, gN_sI, gN_sL, gN_sR, gN_sB, gI_sL, gI_sR, gI_sB, gL_sI, gL_sR, gL_sB, gR_sI, gR_sL, gR_sB, gB_sI, gB_sL, gB_sR, gI_sIs, gL_sLs, gR_sRs, gB_sBs, gI_sIn, gL_sLn, gR_sRn, gB_sBn, rdI_ok, rdL_ok, rdB_ok, wrI_ok, wrL_ok, wrB_ok, p8]
    rw [show (8 : Int32) = nI 8 from rfl]
    simp (disch := omega) only [iLe]
    rw [if_neg (by omega)]
    simp (disch := first | assumption | omega | (simp only [gT_sI, gT_sL, gT_sR, gT_sB]; first | assumption | omega)) only [Option.bind_some, ldI_ok, ldL_ok, ldR_ok, ldB_ok, stI_ok, stL_ok, stR_ok, stB_ok, chk_ok, raI_k, raL_k, raR_k, raB_k, waI_k, waL_k, waB_k, waR_k, alen_k, gT_sI, gT_sL, gT_sR, gT_sB, gN_sI, gN_sL, gN_sR, gN_sB, gI_sL, gI_sR, gI_sB, gL_sI, gL_sR, gL_sB, gR_sI, gR_sL, gR_sB, gB_sI, gB_sL, gB_sR, gI_sIs, gL_sLs, gR_sRs, gB_sBs, gI_sIn, gL_sLn, gR_sRn, gB_sBn, rdI_ok, rdL_ok, rdB_ok, wrI_ok, wrL_ok, wrB_ok, p8, r1, r2, tb, td]
    have hf : [(t, m)].filter (fun z => !z.1.isEmpty) = [(t, m)] := by
      cases t with
      | nil => exact absurd rfl c
      | cons a l => rfl
    rw [hf]
    refine ⟨_, rfl, ((Kp.sL (.inr (.inl ⟨rfl, rfl⟩))).i (.inr (.inr ⟨rfl, rfl⟩))).i (.inl ⟨rfl, rfl, rfl⟩), ?_⟩
    refine ⟨?_, ?_, ?_, ?_, ?_, ?_, ?_, ?_, ?_, fun i hi => ?_, ?_, fun hk => ?_, fun hk => ?_⟩
    · simp (disch := first | assumption | omega | (simp only [gT_sI, gT_sL, gT_sR, gT_sB]; first | assumption | omega)) only [Option.bind_some, ldI_ok, ldL_ok, ldR_ok, ldB_ok, stI_ok, stL_ok, stR_ok, stB_ok, chk_ok, raI_k, raL_k, raR_k, raB_k, waI_k, waL_k, waB_k, waR_k, alen_k, gT_sI, gT_sL, gT_sR, gT_sB, gN_sI, gN_sL, gN_sR, gN_sB, gI_sL, gI_sR, gI_sB, gL_sI, gL_sR, gL_sB, gR_sI, gR_sL, gR_sB, gB_sI, gB_sL, gB_sR, gI_sIs, gL_sLs, gR_sRs, gB_sBs, gI_sIn, gL_sLn, gR_sRn, gB_sBn, rdI_ok, rdL_ok, rdB_ok, wrI_ok, wrL_ok, wrB_ok]; exact p1
    · simp (disch := first | assumption | omega | (simp only [gT_sI, gT_sL, gT_sR, gT_sB]; first | assumption | omega)) only [Option.bind_some, ldI_ok, ldL_ok, ldR_ok, ldB_ok, stI_ok, stL_ok, stR_ok, stB_ok, chk_ok, raI_k, raL_k, raR_k, raB_k, waI_k, waL_k, waB_k, waR_k, alen_k, gT_sI, gT_sL, gT_sR, gT_sB, gN_sI, gN_sL, gN_sR, gN_sB, gI_sL, gI_sR, gI_sB, gL_sI, gL_sR, gL_sB, gR_sI, gR_sL, gR_sB, gB_sI, gB_sL, gB_sR, gI_sIs, gL_sLs, gR_sRs, gB_sBs, gI_sIn, gL_sLn, gR_sRn, gB_sBn, rdI_ok, rdL_ok, rdB_ok, wrI_ok, wrL_ok, wrB_ok]; exact p2
    · simp (disch := first | assumption | omega | (simp only [gT_sI, gT_sL, gT_sR, gT_sB]; first | assumption | omega)) only [Option.bind_some, ldI_ok, ldL_ok, ldR_ok, ldB_ok, stI_ok, stL_ok, stR_ok, stB_ok, chk_ok, raI_k, raL_k, raR_k, raB_k, waI_k, waL_k, waB_k, waR_k, alen_k, gT_sI, gT_sL, gT_sR, gT_sB, gN_sI, gN_sL, gN_sR, gN_sB, gI_sL, gI_sR, gI_sB, gL_sI, gL_sR, gL_sB, gR_sI, gR_sL, gR_sB, gB_sI, gB_sL, gB_sR, gI_sIs, gL_sLs, gR_sRs, gB_sBs, gI_sIn, gL_sLn, gR_sRn, gB_sBn, rdI_ok, rdL_ok, rdB_ok, wrI_ok, wrL_ok, wrB_ok]; exact p3
    · simp (disch := first | assumption | omega | (simp only [gT_sI, gT_sL, gT_sR, gT_sB]; first | assumption | omega)) only [Option.bind_some, ldI_ok, ldL_ok, ldR_ok, ldB_ok, stI_ok, stL_ok, stR_ok, stB_ok, chk_ok, raI_k, raL_k, raR_k, raB_k, waI_k, waL_k, waB_k, waR_k, alen_k, gT_sI, gT_sL, gT_sR, gT_sB, gN_sI, gN_sL, gN_sR, gN_sB, gI_sL, gI_sR, gI_sB, gL_sI, gL_sR, gL_sB, gR_sI, gR_sL, gR_sB, gB_sI, gB_sL, gB_sR, gI_sIs, gL_sLs, gR_sRs, gB_sBs, gI_sIn, gL_sLn, gR_sRn, gB_sBn, rdI_ok, rdL_ok, rdB_ok, wrI_ok, wrL_ok, wrB_ok]; exact p4
    · simp (disch := first | assumption | omega | (simp only [gT_sI, gT_sL, gT_sR, gT_sB]; first | assumption | omega)) only [Option.bind_some, ldI_ok, ldL_ok, ldR_ok, ldB_ok, stI_ok, stL_ok, stR_ok, stB_ok, chk_ok, raI_k, raL_k, raR_k, raB_k, waI_k, waL_k, waB_k, waR_k, alen_k, gT_sI, gT_sL, gT_sR, gT_sB, gN_sI, gN_sL, gN_sR, gN_sB, gI_sL, gI_sR, gI_sB, gL_sI, gL_sR, gL_sB, gR_sI, gR_sL, gR_sB, gB_sI, gB_sL, gB_sR, gI_sIs, gL_sLs, gR_sRs, gB_sBs, gI_sIn, gL_sLn, gR_sRn, gB_sBn, rdI_ok, rdL_ok, rdB_ok, wrI_ok, wrL_ok, wrB_ok]; exact p5
    · simp (disch := first | assumption | omega | (simp only [gT_sI, gT_sL, gT_sR, gT_sB]; first | assumption | omega)) only [Option.bind_some, ldI_ok, ldL_ok, ldR_ok, ldB_ok, stI_ok, stL_ok, stR_ok, stB_ok, chk_ok, raI_k, raL_k, raR_k, raB_k, waI_k, waL_k, waB_k, waR_k, alen_k, gT_sI, gT_sL, gT_sR, gT_sB, gN_sI, gN_sL, gN_sR, gN_sB, gI_sL, gI_sR, gI_sB, gL_sI, gL_sR, gL_sB, gR_sI, gR_sL, gR_sB, gB_sI, gB_sL, gB_sR, gI_sIs, gL_sLs, gR_sRs, gB_sBs, gI_sIn, gL_sLn, gR_sRn, gB_sBn, rdI_ok, rdL_ok, rdB_ok, wrI_ok, wrL_ok, wrB_ok]; exact p6
    · simp (disch := first | assumption | omega | (simp only [gT_sI, gT_sL, gT_sR, gT_sB]; first | assumption | omega)) only [Option.bind_some, ldI_ok, ldL_ok, ldR_ok, ldB_ok, stI_ok, stL_ok, stR_ok, stB_ok, chk_ok, raI_k, raL_k, raR_k, raB_k, waI_k, waL_k, waB_k, waR_k, alen_k, gT_sI, gT_sL, gT_sR, gT_sB, gN_sI, gN_sL, gN_sR, gN_sB, gI_sL, gI_sR, gI_sB, gL_sI, gL_sR, gL_sB, gR_sI, gR_sL, gR_sB, gB_sI, gB_sL, gB_sR, gI_sIs, gL_sLs, gR_sRs, gB_sBs, gI_sIn, gL_sLn, gR_sRn, gB_sBn, rdI_ok, rdL_ok, rdB_ok, wrI_ok, wrL_ok, wrB_ok]; exact p7
    · simp (disch := first | assumption | omega | (simp only [gT_sI, gT_sL, gT_sR, gT_sB]; first | assumption | omega)) only [Option.bind_some, ldI_ok, ldL_ok, ldR_ok, ldB_ok, stI_ok, stL_ok, stR_ok, stB_ok, chk_ok, raI_k, raL_k, raR_k, raB_k, waI_k, waL_k, waB_k, waR_k, alen_k, gT_sI, gT_sL, gT_sR, gT_sB, gN_sI, gN_sL, gN_sR, gN_sB, gI_sL, gI_sR, gI_sB, gL_sI, gL_sR, gL_sB, gR_sI, gR_sL, gR_sB, gB_sI, gB_sL, gB_sR, gI_sIs, gL_sLs, gR_sRs, gB_sBs, gI_sIn, gL_sLn, gR_sRn, gB_sBn, rdI_ok, rdL_ok, rdB_ok, wrI_ok, wrL_ok, wrB_ok]
      rw [show (1 : Int32) = nI 1 from rfl, nI_add]
      show _ = nI (T ++ [(t, m)]).length
      rw [List.length_append]
      rfl
    · show (T ++ [(t, m)]).length ≤ 8
      rw [List.length_append]
      exact hT
    · have hi : i < (T ++ [(t, m)]).length := hi
      rw [List.length_append] at hi
      have hi : i < T.length + 1 := hi
      show gL _ (p + 1) i = lN (enc ((T ++ [(t, m)]).getD i ([], 0)).1) ∧ gI _ (p + 2) i = nI ((T ++ [(t, m)]).getD i ([], 0)).2
      rw [getD_app]
      by_cases z : i < T.length
      · rw [if_pos z]
        simp (disch := first | assumption | omega | (simp only [gT_sI, gT_sL, gT_sR, gT_sB]; first | assumption | omega)) only [Option.bind_some, ldI_ok, ldL_ok, ldR_ok, ldB_ok, stI_ok, stL_ok, stR_ok, stB_ok, chk_ok, raI_k, raL_k, raR_k, raB_k, waI_k, waL_k, waB_k, waR_k, alen_k, gT_sI, gT_sL, gT_sR, gT_sB, gN_sI, gN_sL, gN_sR, gN_sB, gI_sL, gI_sR, gI_sB, gL_sI, gL_sR, gL_sB, gR_sI, gR_sL, gR_sB, gB_sI, gB_sL, gB_sR, gI_sIs, gL_sLs, gR_sRs, gB_sBs, gI_sIn, gL_sLn, gR_sRn, gB_sBn, rdI_ok, rdL_ok, rdB_ok, wrI_ok, wrL_ok, wrB_ok]
        exact p10 i z
      · rw [if_neg z, if_pos (by omega), show i = T.length by omega]
        refine ⟨?_, ?_⟩ <;> simp (disch := first | assumption | omega | (simp only [gT_sI, gT_sL, gT_sR, gT_sB]; first | assumption | omega)) only [Option.bind_some, ldI_ok, ldL_ok, ldR_ok, ldB_ok, stI_ok, stL_ok, stR_ok, stB_ok, chk_ok, raI_k, raL_k, raR_k, raB_k, waI_k, waL_k, waB_k, waR_k, alen_k, gT_sI, gT_sL, gT_sR, gT_sB, gN_sI, gN_sL, gN_sR, gN_sB, gI_sL, gI_sR, gI_sB, gL_sI, gL_sR, gL_sB, gR_sI, gR_sL, gR_sB, gB_sI, gB_sL, gB_sR, gI_sIs, gL_sLs, gR_sRs, gB_sBs, gI_sIn, gL_sLn, gR_sRn, gB_sBn, rdI_ok, rdL_ok, rdB_ok, wrI_ok, wrL_ok, wrB_ok]
    · simp (disch := first | assumption | omega | (simp only [gT_sI, gT_sL, gT_sR, gT_sB]; first | assumption | omega)) only [Option.bind_some, ldI_ok, ldL_ok, ldR_ok, ldB_ok, stI_ok, stL_ok, stR_ok, stB_ok, chk_ok, raI_k, raL_k, raR_k, raB_k, waI_k, waL_k, waB_k, waR_k, alen_k, gT_sI, gT_sL, gT_sR, gT_sB, gN_sI, gN_sL, gN_sR, gN_sB, gI_sL, gI_sR, gI_sB, gL_sI, gL_sR, gL_sB, gR_sI, gR_sL, gR_sB, gB_sI, gB_sL, gB_sR, gI_sIs, gL_sLs, gR_sRs, gB_sBs, gI_sIn, gL_sLn, gR_sRn, gB_sBn, rdI_ok, rdL_ok, rdB_ok, wrI_ok, wrL_ok, wrB_ok]; exact p11
    · simp (disch := first | assumption | omega | (simp only [gT_sI, gT_sL, gT_sR, gT_sB]; first | assumption | omega)) only [Option.bind_some, ldI_ok, ldL_ok, ldR_ok, ldB_ok, stI_ok, stL_ok, stR_ok, stB_ok, chk_ok, raI_k, raL_k, raR_k, raB_k, waI_k, waL_k, waB_k, waR_k, alen_k, gT_sI, gT_sL, gT_sR, gT_sB, gN_sI, gN_sL, gN_sR, gN_sB, gI_sL, gI_sR, gI_sB, gL_sI, gL_sR, gL_sB, gR_sI, gR_sL, gR_sB, gB_sI, gB_sL, gB_sR, gI_sIs, gL_sLs, gR_sRs, gB_sBs, gI_sIn, gL_sLn, gR_sRn, gB_sBn, rdI_ok, rdL_ok, rdB_ok, wrI_ok, wrL_ok, wrB_ok]; exact p12 hk
    · simp (disch := first | assumption | omega | (simp only [gT_sI, gT_sL, gT_sR, gT_sB]; first | assumption | omega)) only [Option.bind_some, ldI_ok, ldL_ok, ldR_ok, ldB_ok, stI_ok, stL_ok, stR_ok, stB_ok, chk_ok, raI_k, raL_k, raR_k, raB_k, waI_k, waL_k, waB_k, waR_k, alen_k, gT_sI, gT_sL, gT_sR, gT_sB, gN_sI, gN_sL, gN_sR, gN_sB, gI_sL, gI_sR, gI_sB, gL_sI, gL_sR, gL_sB, gR_sI, gR_sL, gR_sB, gB_sI, gB_sL, gB_sR, gI_sIs, gL_sLs, gR_sRs, gB_sBs, gI_sIn, gL_sLn, gR_sRn, gB_sBn, rdI_ok, rdL_ok, rdB_ok, wrI_ok, wrL_ok, wrB_ok]; exact p13 hk
