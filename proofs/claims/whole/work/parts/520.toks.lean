/-! TOKENS of a piece a .. b of the tape, from a place on -/
def tkF (st sp : Bool) (tp : Nat → Nat) (a b : Nat) : Nat → Nat → List Tok
  | 0, _ => []
  | f + 1, p => if wS tp p b < b then (wS tp p b - a, wE tp (wS tp p b) b - wS tp p b, mkT st sp tp (wS tp p b) (wE tp (wS tp p b) b - wS tp p b)) :: tkF st sp tp a b f (wE tp (wS tp p b) b) else []
def tk (st sp : Bool) (tp : Nat → Nat) (a b p : Nat) : List Tok := tkF st sp tp a b (b + 1 - p) p
/-- the tokens of a field -/
def toks (st sp : Bool) (tp : Nat → Nat) (a b : Nat) : List Tok := tk st sp tp a b a
theorem wS_b {tp : Nat → Nat} {p b : Nat} (h : p ≤ b) : p ≤ wS tp p b ∧ wS tp p b ≤ b := by
  have := run_ge (fun i => !isL (tp i)) (b - p) p
  unfold wS
  omega
theorem wE_b {tp : Nat → Nat} {p b : Nat} (h : p ≤ b) : p ≤ wE tp p b ∧ wE tp p b ≤ b := by
  have := run_ge (fun i => isL (tp i)) (b - p) p
  unfold wE
  omega
theorem wS_l {tp : Nat → Nat} {p b : Nat} (h : p ≤ b) (h2 : wS tp p b < b) : isL (tp (wS tp p b)) = true := by
  have : (!isL (tp (wS tp p b))) = false := run_out (fun i => !isL (tp i)) (b - p) p (by unfold wS at h2; omega)
  simpa using this
theorem wE_l {tp : Nat → Nat} {p b : Nat} (h : p ≤ b) (h2 : wE tp p b < b) : isL (tp (wE tp p b)) = false := run_out (fun i => isL (tp i)) (b - p) p (by unfold wE at h2; omega)
theorem wE_in {tp : Nat → Nat} {p b i : Nat} (h1 : p ≤ i) (h2 : i < wE tp p b) : isL (tp i) = true := run_in (fun i => isL (tp i)) (b - p) p i h1 h2
theorem wE_gt {tp : Nat → Nat} {p b : Nat} (h : p < b) (h2 : isL (tp p) = true) : p < wE tp p b := by
  have h3 := wE_b (tp := tp) (Nat.le_of_lt h)
  apply Nat.lt_of_le_of_ne h3.1
  intro e
  have := wE_l (tp := tp) (Nat.le_of_lt h) (by omega)
  rw [← e, h2] at this
  cases this
theorem wS_at {tp : Nat → Nat} {p b : Nat} (h : p ≤ b) (h2 : p < b → isL (tp p) = true) : wS tp p b = p :=
  run_eq (Nat.le_refl _) (by omega) (fun i h3 h4 => absurd h4 (by omega)) (fun q => by rw [h2 (by omega)]; rfl)
theorem wS_step {tp : Nat → Nat} {p b : Nat} (h : p < b) (h2 : isL (tp p) = false) : wS tp p b = wS tp (p + 1) b := by
  unfold wS
  rw [show b - p = (b - (p + 1)) + 1 by omega, run, if_pos (by rw [h2]; rfl)]
theorem tkF_f {st sp : Bool} {tp : Nat → Nat} {a b : Nat} : ∀ f g p, p ≤ b → b + 1 - p ≤ f → b + 1 - p ≤ g → tkF st sp tp a b f p = tkF st sp tp a b g p
  | 0, g, p, h, h1, h2 => by omega
  | f + 1, 0, p, h, h1, h2 => by omega
  | f + 1, g + 1, p, h, h1, h2 => by
    unfold tkF
    by_cases c : wS tp p b < b
    · have h3 := wS_b (tp := tp) h
      have h4 := wE_gt (tp := tp) c (wS_l h c)
      have h5 := wE_b (tp := tp) h3.2
      rw [if_pos c, if_pos c, tkF_f f g _ h5.2 (by omega) (by omega)]
    · rw [if_neg c, if_neg c]
theorem tk_eq {st sp : Bool} {tp : Nat → Nat} {a b p : Nat} (h : p ≤ b) : tk st sp tp a b p = if wS tp p b < b then (wS tp p b - a, wE tp (wS tp p b) b - wS tp p b, mkT st sp tp (wS tp p b) (wE tp (wS tp p b) b - wS tp p b)) :: tk st sp tp a b (wE tp (wS tp p b) b) else [] := by
  unfold tk
  rw [show b + 1 - p = (b - p) + 1 by omega, tkF]
  by_cases c : wS tp p b < b
  · have h3 := wS_b (tp := tp) h
    have h4 := wE_gt (tp := tp) c (wS_l h c)
    have h5 := wE_b (tp := tp) h3.2
    rw [if_pos c, if_pos c, tkF_f (b - p) (b + 1 - wE tp (wS tp p b) b) _ h5.2 (by omega) (Nat.le_refl _)]
  · rw [if_neg c, if_neg c]
theorem tk_len {st sp : Bool} {tp : Nat → Nat} {a b : Nat} : ∀ m p, p ≤ b → b - p ≤ m → 2 * (tk st sp tp a b p).length ≤ b + 1 - p
  | 0, p, h, h1 => by
    rw [tk_eq h]
    have h3 := wS_b (tp := tp) h
    rw [if_neg (by omega)]
    simp
  | m + 1, p, h, h1 => by
    rw [tk_eq h]
    by_cases c : wS tp p b < b
    · have h3 := wS_b (tp := tp) h
      have h4 := wE_gt (tp := tp) c (wS_l h c)
      have h5 := wE_b (tp := tp) h3.2
      rw [if_pos c, List.length_cons]
      by_cases z : wE tp (wS tp p b) b = b
      · rw [z, tk_eq (Nat.le_refl b)]
        have h6 := wS_b (tp := tp) (Nat.le_refl b)
        rw [if_neg (by omega)]
        simp
        omega
      · have h7 := wE_l (tp := tp) h3.2 (by omega)
        have h8 := wS_step (tp := tp) (b := b) (by omega) h7
        have e : tk st sp tp a b (wE tp (wS tp p b) b) = tk st sp tp a b (wE tp (wS tp p b) b + 1) := by
          rw [tk_eq h5.2, h8, ← tk_eq (by omega)]
        have := tk_len (st := st) (sp := sp) (tp := tp) (a := a) (b := b) m (wE tp (wS tp p b) b + 1) (by omega) (by omega)
        rw [e]
        omega
    · rw [if_neg c]
      simp
theorem toks_len {st sp : Bool} {tp : Nat → Nat} {a b : Nat} (h : a ≤ b) : 2 * (toks st sp tp a b).length ≤ b + 1 - a := tk_len (b - a) a h (Nat.le_refl _)
/-- what a token is -/
def okTok (t : Tok) : Prop := t.1 ≤ 600 ∧ t.2.1 ≤ 600 ∧ isTerm t.2.2
theorem wd_of {tp : Nat → Nat} {p b : Nat} (ht : ∀ i, i < 600 → tp i < 256) (hb : b ≤ 600) (h : p ≤ b) : isWd tp p (wE tp p b - p) := fun i hi => by
  have h5 := wE_b (tp := tp) h
  exact ⟨ht _ (by omega), wE_in (p := p) (b := b) (by omega) (by omega)⟩
theorem tk_ok {st sp : Bool} {tp : Nat → Nat} {a b : Nat} (ht : ∀ i, i < 600 → tp i < 256) (hb : b ≤ 600) : ∀ m p, p ≤ b → b - p ≤ m → ∀ t ∈ tk st sp tp a b p, okTok t
  | 0, p, h, h1 => by
    rw [tk_eq h]
    have h3 := wS_b (tp := tp) h
    rw [if_neg (by omega)]
    simp
  | m + 1, p, h, h1 => by
    rw [tk_eq h]
    by_cases c : wS tp p b < b
    · have h3 := wS_b (tp := tp) h
      have h4 := wE_gt (tp := tp) c (wS_l h c)
      have h5 := wE_b (tp := tp) h3.2
      rw [if_pos c]
      intro t hm
      rcases List.mem_cons.mp hm with rfl | hm
      · exact ⟨by show _ - _ ≤ _; omega, by show _ - _ ≤ _; omega, mkT_term (wd_of ht hb h3.2)⟩
      · exact tk_ok ht hb m _ h5.2 (by omega) t hm
    · rw [if_neg c]
      simp
theorem toks_ok {st sp : Bool} {tp : Nat → Nat} {a b : Nat} (ht : ∀ i, i < 600 → tp i < 256) (hb : b ≤ 600) (h : a ≤ b) : ∀ t ∈ toks st sp tp a b, okTok t := tk_ok ht hb (b - a) a h (Nat.le_refl _)
theorem drop_cons {ts l : List Tok} {t : Tok} {c : Nat} (h : ts.drop c = t :: l) : c < ts.length ∧ tA ts c = t ∧ ts.drop (c + 1) = l := by
  have h1 : c < ts.length := by
    apply Nat.lt_of_not_le
    intro q
    rw [List.drop_eq_nil_of_le q] at h
    cases h
  refine ⟨h1, ?_, ?_⟩
  · have : (ts.drop c)[0]? = some t := by rw [h]; rfl
    rw [List.getElem?_drop, Nat.add_zero] at this
    unfold tA
    rw [List.getD_eq_getElem?_getD, this]
    rfl
  · rw [← List.drop_drop, h]
    rfl
theorem drop_nil {ts : List Tok} {c : Nat} (h : ts.drop c = []) : ts.length ≤ c := List.drop_eq_nil_iff.mp h
theorem Te_countTokens_ok {σ : Mem} {x : Nat} {st sp : Bool} {tp : Nat → Nat} (h : tpA σ x tp) {a b : Nat} (ha : a ≤ b) (hb : b ≤ 600) : Te_countTokens σ (some x) (nI a) (nI b) = some (nI (toks st sp tp a b).length) := by
  have h0 := wS_b (tp := tp) ha
  unfold Te_countTokens
  rw [Sp_wordStart_ok h ha hb]
  simp only [Option.bind_some]
  obtain ⟨z, hz, rfl⟩ : ∃ z, lp (fun q : Int32 × Int32 × Int32 => Te_countTokens_l13 σ (some x) (nI b) q.1 q.2.1 q.2.2) (nI 0, nI (wS tp a b), nI a) = some z ∧ z = nI (toks st sp tp a b).length := by
    refine lp_inv (fun q => ∃ c p, q = (nI c, nI (wS tp p b), nI (a + c)) ∧ p ≤ b ∧ a + c ≤ p ∧ c ≤ (toks st sp tp a b).length ∧ (toks st sp tp a b).drop c = tk st sp tp a b p) (fun q => 700 - q.2.2.toNatClampNeg) _ ?_ _ ⟨0, a, rfl, ha, by omega, by omega, rfl⟩
    rintro q ⟨c, p, rfl, hp, hc, hcl, hd⟩
    have h1 := wS_b (tp := tp) hp
    unfold Te_countTokens_l13
    rw [tk_eq hp] at hd
    simp (disch := omega) only [nl, nI_add, nI_mul, iSub, iEq, iLe, iLt, iEqN, iNEq, iNN, iLtN, iNLt, iLeN, iNLe, iAddN, iNAdd, iMin, iMax, iDiv, iRem]
    by_cases z : wS tp p b < b
    · left
      have h4 := wE_gt (tp := tp) z (wS_l hp z)
      have h5 := wE_b (tp := tp) h1.2
      rw [if_pos z] at hd
      rw [if_neg (by omega), if_neg (by omega), Sp_wordEnd_ok h h1.2 hb]
      simp only [Option.bind_some]
      rw [Sp_wordStart_ok h h5.2 hb]
      refine ⟨_, rfl, ⟨c + 1, wE tp (wS tp p b) b, ?_, h5.2, by omega, (drop_cons hd).1, (drop_cons hd).2.2⟩, ?_⟩
      · rw [Nat.add_assoc]
      · show 700 - (nI (a + c + 1)).toNatClampNeg < 700 - (nI (a + c)).toNatClampNeg
        rw [nI_clamp (by omega), nI_clamp (by omega)]
        omega
    · right
      rw [if_neg z] at hd
      have e : c = (toks st sp tp a b).length := by
        have h6 := drop_nil hd
        omega
      rw [← e]
      by_cases y : b ≤ a + c
      · rw [if_pos y]
        exact ⟨_, rfl, rfl⟩
      · rw [if_neg y, if_pos (by omega)]
        exact ⟨_, rfl, rfl⟩
  rw [show (0 : Int32) = nI 0 from rfl, hz]
  rfl
/-- the reference stores a document's field-/
def wTok (d f : Nat) : Nat → Nat → Nat → Prop := fun t c k => t = 0 ∧ ((c = 0 ∧ k = 38) ∨ c = 27 ∨ ((c = 7 ∨ c = 8 ∨ c = 9) ∧ 250 * d + 50 * f ≤ k ∧ k < 250 * d + 50 * f + (50 + 150 * f)) ∨ (c = 10 ∧ 12 * (250 * d + 50 * f) ≤ k ∧ k < 12 * (250 * d + 50 * f + (50 + 150 * f))) ∨ (c = 6 ∧ k = 2 * d + f))
/-- the first m tokens lie in the reference's rows -/
def rTk (R : RS) (d f m : Nat) (ts : List Tok) : Prop := ∀ t, t < m → R.1 7 (250 * d + 50 * f + t) = nI (tA ts t).1 ∧ R.1 8 (250 * d + 50 * f + t) = nI (tA ts t).2.1 ∧ R.1 9 (250 * d + 50 * f + t) = nI (tA ts t).2.2.length ∧ ∀ k, k < (tA ts t).2.2.length → R.1 10 (12 * (250 * d + 50 * f + t) + k) = nI ((tA ts t).2.2.getD k 0)
theorem M_tokens_ok {R : RS} {st sp : Bool} {tp : Nat → Nat} (h : rBy R tp) (hst : R.2.2 0 0 = st) (hsp : R.2.2 0 1 = sp) {d f a b : Nat} (hd : d < 400) (hf : f < 2) (ha : a ≤ b) (hb : b ≤ 600) (hl : (toks st sp tp a b).length ≤ 50 + 150 * f) : ∃ R', M_tokens R (nI d) (nI f) (nI a) (nI b) = some R' ∧ Rp (wTok d f) R R' ∧ R'.1 6 (2 * d + f) = nI (toks st sp tp a b).length ∧ rTk R' d f (toks st sp tp a b).length (toks st sp tp a b) := by
  have htp : ∀ i, i < 600 → tp i < 256 := fun i hi => (h i hi).1
  obtain ⟨z, hz, z1, z2, z3⟩ : ∃ z, lp (fun q : Int32 × Int32 × RS => M_tokens_l6 q.2.2 (nI d) (nI f) (nI a) (nI b) q.1 q.2.1) (nI 0, nI a, R) = some z ∧ (z.1 = nI (toks st sp tp a b).length ∧ Rp (wTok d f) R z.2 ∧ rTk z.2 d f (toks st sp tp a b).length (toks st sp tp a b)) := by
    refine lp_inv (fun q => ∃ c p Q, q = (nI c, nI p, Q) ∧ p ≤ b ∧ a ≤ p ∧ c ≤ (toks st sp tp a b).length ∧ (toks st sp tp a b).drop c = tk st sp tp a b p ∧ Rp (wTok d f) R Q ∧ rTk Q d f c (toks st sp tp a b)) (fun q => 700 - q.2.1.toNatClampNeg) _ ?_ _ ⟨0, a, R, rfl, ha, Nat.le_refl _, by omega, rfl, Rp.rf, fun t ht => absurd ht (by omega)⟩
    rintro q ⟨c, p, Q, rfl, hp, hap, hcl, hdr, hk, hT⟩
    have hQ : rBy Q tp := h.rp hk (fun k z => by unfold wTok at z; omega)
    have hQs : Q.2.2 0 0 = st := by rw [hk.B (by decide) (fun z => by unfold wTok at z; omega)]; exact hst
    have hQp : Q.2.2 0 1 = sp := by rw [hk.B (by decide) (fun z => by unfold wTok at z; omega)]; exact hsp
    have h1 := wS_b (tp := tp) hp
    unfold M_tokens_l6
    rw [tk_eq hp] at hdr
    simp only [iLe (show b < 2147483648 by omega) (show p < 2147483648 by omega)]
    by_cases y : b ≤ p
    · right
      rw [if_neg (by omega)] at hdr
      have e : c = (toks st sp tp a b).length := by
        have := drop_nil hdr
        omega
      rw [if_pos y]
      exact ⟨_, rfl, by rw [e], hk, by rw [← e]; exact hT⟩
    · left
      rw [if_neg y]
      have hr := run_ge (fun i => isL (tp i)) (b - p) p
      have hlp : lp (fun q : Int32 => M_tokens_l17 Q (nI d) (nI f) (nI a) (nI b) (nI c) (nI p) q) (nI p) = some (nI (wE tp p b)) := by
        refine lp_run (p := fun i => isL (tp i)) (b - p) p (fun i h4 h5 h6 => ?_) ?_
        · obtain ⟨b1, b2⟩ := hQ i (by omega)
          unfold M_tokens_l17
          simp (disch := first | assumption | omega | (simp only [gT_sI, gT_sL, gT_sR, gT_sB]; first | assumption | omega)) only [Option.bind_some, ldI_ok, ldL_ok, ldR_ok, ldB_ok, stI_ok, stL_ok, stR_ok, stB_ok, chk_ok, raI_k, raL_k, raR_k, raB_k, waI_k, waL_k, waB_k, waR_k, alen_k, gT_sI, gT_sL, gT_sR, gT_sB, gN_sI, gN_sL, gN_sR, gN_sB, gI_sL, gI_sR, gI_sB, gL_sI, gL_sR, gL_sB, gR_sI, gR_sL, gR_sB, gB_sI, gB_sL, gB_sR, gI_sIs, gL_sLs, gR_sRs, gB_sBs, gI_sIn, gL_sLn, gR_sRn, gB_sBn, rdI_ok, rdL_ok, rdB_ok, wrI_ok, wrL_ok, wrB_ok, nl, nI_add, nI_mul, iSub, iEq, iLe, iLt, iEqN, iNEq, iNN, iLtN, iNLt, iLeN, iNLe, iAddN, iNAdd, iMin, iMax, iDiv, iRem, b2, M_isLetter_ok _ b1, h6]
          rw [if_neg (by omega)]
          rfl
        · unfold M_tokens_l17 wE
          by_cases hz : run (fun i => isL (tp i)) (b - p) p = b
          · rw [hz]
            simp (disch := omega) only [nl, nI_add, nI_mul, iSub, iEq, iLe, iLt, iEqN, iNEq, iNN, iLtN, iNLt, iLeN, iNLe, iAddN, iNAdd, iMin, iMax, iDiv, iRem]
            rw [if_pos (by omega)]
          · have ho := run_out (fun i => isL (tp i)) (b - p) p (by omega)
            generalize run (fun i => isL (tp i)) (b - p) p = r at *
            obtain ⟨b1, b2⟩ := hQ r (by omega)
            simp (disch := first | assumption | omega | (simp only [gT_sI, gT_sL, gT_sR, gT_sB]; first | assumption | omega)) only [Option.bind_some, ldI_ok, ldL_ok, ldR_ok, ldB_ok, stI_ok, stL_ok, stR_ok, stB_ok, chk_ok, raI_k, raL_k, raR_k, raB_k, waI_k, waL_k, waB_k, waR_k, alen_k, gT_sI, gT_sL, gT_sR, gT_sB, gN_sI, gN_sL, gN_sR, gN_sB, gI_sL, gI_sR, gI_sB, gL_sI, gL_sR, gL_sB, gR_sI, gR_sL, gR_sB, gB_sI, gB_sL, gB_sR, gI_sIs, gL_sLs, gR_sRs, gB_sBs, gI_sIn, gL_sLn, gR_sRn, gB_sBn, rdI_ok, rdL_ok, rdB_ok, wrI_ok, wrL_ok, wrB_ok, nl, nI_add, nI_mul, iSub, iEq, iLe, iLt, iEqN, iNEq, iNN, iLtN, iNLt, iLeN, iNLe, iAddN, iNAdd, iMin, iMax, iDiv, iRem, b2, M_isLetter_ok _ b1, ho]
            rw [if_neg (by omega)]
            rfl
      rw [hlp]
      simp only [Option.bind_some]
      have h5 := wE_b (tp := tp) hp
      simp only [iLe (show wE tp p b < 2147483648 by omega) (show p < 2147483648 by omega)]
      cases hlt : isL (tp p) with
      | false =>
        have e5 : wE tp p b = p := run_eq (Nat.le_refl _) (by omega) (fun i h3 h4 => absurd h4 (by omega)) (fun _ => hlt)
        have hs := wS_step (tp := tp) (b := b) (by omega) hlt
        rw [e5, if_pos (Nat.le_refl _), if_pos (Nat.le_refl _)]
        simp only [Option.bind_some, nl, nI_add]
        refine ⟨_, rfl, ⟨c, p + 1, Q, rfl, by omega, by omega, hcl, ?_, hk, hT⟩, ?_⟩
        · rw [hdr, hs, ← tk_eq (by omega)]
        · show 700 - (nI (p + 1)).toNatClampNeg < 700 - (nI p).toNatClampNeg
          rw [nI_clamp (by omega), nI_clamp (by omega)]
          omega
      | true =>
        have h4 := wE_gt (tp := tp) (show p < b by omega) hlt
        have hs := wS_at (tp := tp) hp (fun _ => hlt)
        rw [hs, if_pos (by omega)] at hdr
        obtain ⟨d1, d2, d3⟩ := drop_cons hdr
        rw [if_neg (by omega), if_neg (by omega)]
        obtain ⟨Q1, e1, k1, t1⟩ := M_makeTerm_ok hQ hQs hQp (show p + (wE tp p b - p) ≤ 600 by omega) (wd_of htp hb hp)
        have hterm := mkT_term (st := st) (sp := sp) (wd_of htp hb hp)
        have hl12 := hterm.1
        simp only [M_base, Option.bind_some]
        simp (disch := omega) only [nl, nI_add, nI_mul, iSub, iEq, iLe, iLt, iEqN, iNEq, iNN, iLtN, iNLt, iLeN, iNLe, iAddN, iNAdd, iMin, iMax, iDiv, iRem]
        rw [e1]
        simp only [Option.bind_some]
        generalize hT2 : mkT st sp tp p (wE tp p b - p) = T at *
        simp (disch := first | assumption | omega | (simp only [gT_sI, gT_sL, gT_sR, gT_sB]; first | assumption | omega)) only [Option.bind_some, ldI_ok, ldL_ok, ldR_ok, ldB_ok, stI_ok, stL_ok, stR_ok, stB_ok, chk_ok, raI_k, raL_k, raR_k, raB_k, waI_k, waL_k, waB_k, waR_k, alen_k, gT_sI, gT_sL, gT_sR, gT_sB, gN_sI, gN_sL, gN_sR, gN_sB, gI_sL, gI_sR, gI_sB, gL_sI, gL_sR, gL_sB, gR_sI, gR_sL, gR_sB, gB_sI, gB_sL, gB_sR, gI_sIs, gL_sLs, gR_sRs, gB_sBs, gI_sIn, gL_sLn, gR_sRn, gB_sBn, rdI_ok, rdL_ok, rdB_ok, wrI_ok, wrL_ok, wrB_ok]
        simp (disch := omega) only [pI, pL, pB, up2_s, up2_ne, t1.1]
        have hl2 : ∃ z, lp (fun q : Int32 × RS => M_tokens_l108 q.2 (nI d) (nI f) (nI a) (nI b) (nI c) (nI p) (nI (wE tp p b)) (nI (250 * d + 50 * f + c)) q.1) (nI 0, (up2 (up2 (up2 Q1.1 7 (250 * d + 50 * f + c) (nI (p - a))) 8 (250 * d + 50 * f + c) (nI (wE tp p b - p))) 9 (250 * d + 50 * f + c) (nI T.length), Q1.2)) = some z ∧ (Rp (wTok d f) Q1 z ∧ z.1 7 (250 * d + 50 * f + c) = nI (p - a) ∧ z.1 8 (250 * d + 50 * f + c) = nI (wE tp p b - p) ∧ z.1 9 (250 * d + 50 * f + c) = nI T.length ∧ (∀ k, k < T.length → z.1 10 (12 * (250 * d + 50 * f + c) + k) = nI (T.getD k 0)) ∧ (∀ t, t < c → (z.1 7 (250 * d + 50 * f + t) = Q1.1 7 (250 * d + 50 * f + t) ∧ z.1 8 (250 * d + 50 * f + t) = Q1.1 8 (250 * d + 50 * f + t) ∧ z.1 9 (250 * d + 50 * f + t) = Q1.1 9 (250 * d + 50 * f + t) ∧ ∀ k, k < 12 → z.1 10 (12 * (250 * d + 50 * f + t) + k) = Q1.1 10 (12 * (250 * d + 50 * f + t) + k)))) := by
          refine lp_for (fun i Y => (nI i, Y)) T.length (fun i Y => Rp (wTok d f) Q1 Y ∧ rTm Y T ∧ Y.1 7 (250 * d + 50 * f + c) = nI (p - a) ∧ Y.1 8 (250 * d + 50 * f + c) = nI (wE tp p b - p) ∧ Y.1 9 (250 * d + 50 * f + c) = nI T.length ∧ (∀ k, k < i → Y.1 10 (12 * (250 * d + 50 * f + c) + k) = nI (T.getD k 0)) ∧ (∀ t, t < c → (Y.1 7 (250 * d + 50 * f + t) = Q1.1 7 (250 * d + 50 * f + t) ∧ Y.1 8 (250 * d + 50 * f + t) = Q1.1 8 (250 * d + 50 * f + t) ∧ Y.1 9 (250 * d + 50 * f + t) = Q1.1 9 (250 * d + 50 * f + t) ∧ ∀ k, k < 12 → Y.1 10 (12 * (250 * d + 50 * f + t) + k) = Q1.1 10 (12 * (250 * d + 50 * f + t) + k)))) _ (fun i Y hi hI => ?_) (fun Y hI => ?_) T.length 0 _ (by omega) ?_
          · left
            obtain ⟨y1, y2, y3, y4, y5, y6, y7⟩ := hI
            unfold M_tokens_l108
            rw [y2.1]
            simp (disch := first | assumption | omega | (simp only [gT_sI, gT_sL, gT_sR, gT_sB]; first | assumption | omega)) only [Option.bind_some, ldI_ok, ldL_ok, ldR_ok, ldB_ok, stI_ok, stL_ok, stR_ok, stB_ok, chk_ok, raI_k, raL_k, raR_k, raB_k, waI_k, waL_k, waB_k, waR_k, alen_k, gT_sI, gT_sL, gT_sR, gT_sB, gN_sI, gN_sL, gN_sR, gN_sB, gI_sL, gI_sR, gI_sB, gL_sI, gL_sR, gL_sB, gR_sI, gR_sL, gR_sB, gB_sI, gB_sL, gB_sR, gI_sIs, gL_sLs, gR_sRs, gB_sBs, gI_sIn, gL_sLn, gR_sRn, gB_sBn, rdI_ok, rdL_ok, rdB_ok, wrI_ok, wrL_ok, wrB_ok, nl, nI_add, nI_mul, iSub, iEq, iLe, iLt, iEqN, iNEq, iNN, iLtN, iNLt, iLeN, iNLe, iAddN, iNAdd, iMin, iMax, iDiv, iRem, y2.2 i hi]
            rw [if_neg (by omega)]
            refine ⟨_, rfl, Rp.tr y1 (Rp.wI (W := wTok d f) (by unfold wTok; omega)) (fun _ _ _ z => z), y2.rp (Rp.wI (W := fun t c _ => t = 0 ∧ c = 10) ⟨rfl, rfl⟩) (by omega) (by omega), ?_, ?_, ?_, fun k hk' => ?_, fun t ht => ?_⟩
            · simp (disch := omega) only [pI, pL, pB, up2_s, up2_ne]; exact y3
            · simp (disch := omega) only [pI, pL, pB, up2_s, up2_ne]; exact y4
            · simp (disch := omega) only [pI, pL, pB, up2_s, up2_ne]; exact y5
            · by_cases q : k = i
              · subst q; simp only [pI, pL, pB, up2_s, up2_ne]
              · simp (disch := omega) only [pI, pL, pB, up2_s, up2_ne]; exact y6 k (by omega)
            · obtain ⟨u1, u2, u3, u4⟩ := y7 t ht
              refine ⟨?_, ?_, ?_, fun k hk' => ?_⟩
              · simp (disch := omega) only [pI, pL, pB, up2_s, up2_ne]; exact u1
              · simp (disch := omega) only [pI, pL, pB, up2_s, up2_ne]; exact u2
              · simp (disch := omega) only [pI, pL, pB, up2_s, up2_ne]; exact u3
              · simp (disch := omega) only [pI, pL, pB, up2_s, up2_ne]; exact u4 k hk'
          · obtain ⟨y1, y2, y3, y4, y5, y6, y7⟩ := hI
            refine ⟨Y, ?_, y1, y3, y4, y5, y6, y7⟩
            unfold M_tokens_l108
            rw [y2.1]
            simp (disch := omega) only [nl, nI_add, nI_mul, iSub, iEq, iLe, iLt, iEqN, iNEq, iNN, iLtN, iNLt, iLeN, iNLe, iAddN, iNAdd, iMin, iMax, iDiv, iRem]
            rw [if_pos (by omega)]
          · refine ⟨?_, ?_, ?_, ?_, ?_, fun k hk' => absurd hk' (by omega), fun t ht => ?_⟩
            · exact Rp.tr (Rp.tr (Rp.wI (W := wTok d f) (by unfold wTok; omega)) (Rp.wI (W := wTok d f) (by unfold wTok; omega)) (fun _ _ _ z => z)) (Rp.wI (W := wTok d f) (by unfold wTok; omega)) (fun _ _ _ z => z)
            · exact ⟨by simp (disch := omega) only [pI, pL, pB, up2_s, up2_ne]; exact t1.1, fun i hi => by simp (disch := omega) only [pI, pL, pB, up2_s, up2_ne]; exact t1.2 i hi⟩
            · simp (disch := omega) only [pI, pL, pB, up2_s, up2_ne]
            · simp (disch := omega) only [pI, pL, pB, up2_s, up2_ne]
            · simp (disch := omega) only [pI, pL, pB, up2_s, up2_ne]
            · refine ⟨?_, ?_, ?_, fun k hk' => ?_⟩ <;> simp (disch := omega) only [pI, pL, pB, up2_s, up2_ne]
        obtain ⟨z, hz, u1, u2, u3, u4, u5, u6⟩ := hl2
        have hz' := hz
        try simp only [nl] at hz'
        try simp only [nl]
        rw [hz']
        simp only [Option.bind_some, nI_add]
        have kQ : Rp (wTok d f) Q z := Rp.tr (k1.mono (fun t c k q => by unfold wTm at q; unfold wTok; omega)) u1 (fun _ _ _ z => z)
        refine ⟨_, rfl, ⟨c + 1, wE tp p b, z, rfl, h5.2, by omega, d1, d3, Rp.tr hk kQ (fun _ _ _ z => z), fun t ht => ?_⟩, ?_⟩
        · by_cases q : t = c
          · subst q
            rw [d2]
            exact ⟨u2, u3, u4, u5⟩
          · obtain ⟨v1, v2, v3, v4⟩ := u6 t (by omega)
            obtain ⟨w1, w2, w3, w4⟩ := hT t (by omega)
            have n : ∀ c k, ¬ ((c = 0 ∧ k = 38) ∨ c = 27) → ¬ wTm 0 c k := fun c k z q => z q.2
            refine ⟨?_, ?_, ?_, fun k hk' => ?_⟩
            · rw [v1, k1.I (by decide) (n _ _ (by omega))]; exact w1
            · rw [v2, k1.I (by decide) (n _ _ (by omega))]; exact w2
            · rw [v3, k1.I (by decide) (n _ _ (by omega))]; exact w3
            · have : (tA (toks st sp tp a b) t).2.2.length ≤ 12 := by
                have := (toks_ok (st := st) (sp := sp) htp hb ha (tA (toks st sp tp a b) t) (by
                  unfold tA
                  rw [List.getD_eq_getElem?_getD, List.getElem?_eq_getElem (by omega)]
                  exact List.getElem_mem _)).2.2.1
                exact this
              rw [v4 k (by omega), k1.I (by decide) (n _ _ (by omega))]; exact w4 k hk'
        · show 700 - (nI (wE tp p b)).toNatClampNeg < 700 - (nI p).toNatClampNeg
          rw [nI_clamp (by omega), nI_clamp (by omega)]
          omega
  unfold M_tokens
  rw [show (0 : Int32) = nI 0 from rfl, hz]
  simp only [Option.bind_some, z1]
  simp (disch := omega) only [nl, nI_add, nI_mul, iSub, iEq, iLe, iLt, iEqN, iNEq, iNN, iLtN, iNLt, iLeN, iNLe, iAddN, iNAdd, iMin, iMax, iDiv, iRem]
  simp (disch := first | assumption | omega | (simp only [gT_sI, gT_sL, gT_sR, gT_sB]; first | assumption | omega)) only [Option.bind_some, ldI_ok, ldL_ok, ldR_ok, ldB_ok, stI_ok, stL_ok, stR_ok, stB_ok, chk_ok, raI_k, raL_k, raR_k, raB_k, waI_k, waL_k, waB_k, waR_k, alen_k, gT_sI, gT_sL, gT_sR, gT_sB, gN_sI, gN_sL, gN_sR, gN_sB, gI_sL, gI_sR, gI_sB, gL_sI, gL_sR, gL_sB, gR_sI, gR_sL, gR_sB, gB_sI, gB_sL, gB_sR, gI_sIs, gL_sLs, gR_sRs, gB_sBs, gI_sIn, gL_sLn, gR_sRn, gB_sBn, rdI_ok, rdL_ok, rdB_ok, wrI_ok, wrL_ok, wrB_ok]
  refine ⟨_, rfl, Rp.tr z2 (Rp.wI (W := wTok d f) (by unfold wTok; omega)) (fun _ _ _ z => z), by simp only [pI, pL, pB, up2_s, up2_ne], fun t ht => ?_⟩
  obtain ⟨w1, w2, w3, w4⟩ := z3 t ht
  refine ⟨?_, ?_, ?_, fun k hk' => ?_⟩
  · simp (disch := omega) only [pI, pL, pB, up2_s, up2_ne]; exact w1
  · simp (disch := omega) only [pI, pL, pB, up2_s, up2_ne]; exact w2
  · simp (disch := omega) only [pI, pL, pB, up2_s, up2_ne]; exact w3
  · simp (disch := omega) only [pI, pL, pB, up2_s, up2_ne]; exact w4 k hk'
