/-! the class's parser: words, and any atom -/
theorem cPart.k2 {σ : Mem} {p bo en sl wh : Nat} {g : Option Nat} {ng br sa : Bool} {T : List (List Nat × Nat)} {lo hi lo' hi' : Int64} {w w' : List Nat} (h : cPart σ p (mkPT 0 g ng br sa bo en T sl wh lo hi w)) : cPart (sL (sL (sI σ p 0 2) p 12 lo') p 13 hi') p (mkPT 2 g ng br sa bo en T sl wh lo' hi' w') := by
  obtain ⟨p1, p2, p3, p4, p5, p6, p7, p8, p9, p10, p11, p12, p13⟩ := h
  refine ⟨?_, ?_, ?_, ?_, ?_, ?_, ?_, ?_, p9, fun i hi => ?_, ?_, fun z => ⟨?_, ?_⟩, fun z => ?_⟩
  · simp (disch := first | assumption | omega | (simp only [gT_sI, gT_sL, gT_sR, gT_sB]; first | assumption | omega)) only [Option.bind_some, ldI_ok, ldL_ok, ldR_ok, ldB_ok, stI_ok, stL_ok, stR_ok, stB_ok, chk_ok, raI_k, raL_k, raR_k, raB_k, waI_k, waL_k, waB_k, waR_k, alen_k, gT_sI, gT_sL, gT_sR, gT_sB, gN_sI, gN_sL, gN_sR, gN_sB, gI_sL, gI_sR, gI_sB, gL_sI, gL_sR, gL_sB, gR_sI, gR_sL, gR_sB, gB_sI, gB_sL, gB_sR, gI_sIs, gL_sLs, gR_sRs, gB_sBs, gI_sIn, gL_sLn, gR_sRn, gB_sBn, rdI_ok, rdL_ok, rdB_ok, wrI_ok, wrL_ok, wrB_ok]; rfl
  · simp (disch := first | assumption | omega | (simp only [gT_sI, gT_sL, gT_sR, gT_sB]; first | assumption | omega)) only [Option.bind_some, ldI_ok, ldL_ok, ldR_ok, ldB_ok, stI_ok, stL_ok, stR_ok, stB_ok, chk_ok, raI_k, raL_k, raR_k, raB_k, waI_k, waL_k, waB_k, waR_k, alen_k, gT_sI, gT_sL, gT_sR, gT_sB, gN_sI, gN_sL, gN_sR, gN_sB, gI_sL, gI_sR, gI_sB, gL_sI, gL_sR, gL_sB, gR_sI, gR_sL, gR_sB, gB_sI, gB_sL, gB_sR, gI_sIs, gL_sLs, gR_sRs, gB_sBs, gI_sIn, gL_sLn, gR_sRn, gB_sBn, rdI_ok, rdL_ok, rdB_ok, wrI_ok, wrL_ok, wrB_ok]; exact p2
  · simp (disch := first | assumption | omega | (simp only [gT_sI, gT_sL, gT_sR, gT_sB]; first | assumption | omega)) only [Option.bind_some, ldI_ok, ldL_ok, ldR_ok, ldB_ok, stI_ok, stL_ok, stR_ok, stB_ok, chk_ok, raI_k, raL_k, raR_k, raB_k, waI_k, waL_k, waB_k, waR_k, alen_k, gT_sI, gT_sL, gT_sR, gT_sB, gN_sI, gN_sL, gN_sR, gN_sB, gI_sL, gI_sR, gI_sB, gL_sI, gL_sR, gL_sB, gR_sI, gR_sL, gR_sB, gB_sI, gB_sL, gB_sR, gI_sIs, gL_sLs, gR_sRs, gB_sBs, gI_sIn, gL_sLn, gR_sRn, gB_sBn, rdI_ok, rdL_ok, rdB_ok, wrI_ok, wrL_ok, wrB_ok]; exact p3
  · simp (disch := first | assumption | omega | (simp only [gT_sI, gT_sL, gT_sR, gT_sB]; first | assumption | omega)) only [Option.bind_some, ldI_ok, ldL_ok, ldR_ok, ldB_ok, stI_ok, stL_ok, stR_ok, stB_ok, chk_ok, raI_k, raL_k, raR_k, raB_k, waI_k, waL_k, waB_k, waR_k, alen_k, gT_sI, gT_sL, gT_sR, gT_sB, gN_sI, gN_sL, gN_sR, gN_sB, gI_sL, gI_sR, gI_sB, gL_sI, gL_sR, gL_sB, gR_sI, gR_sL, gR_sB, gB_sI, gB_sL, gB_sR, gI_sIs, gL_sLs, gR_sRs, gB_sBs, gI_sIn, gL_sLn, gR_sRn, gB_sBn, rdI_ok, rdL_ok, rdB_ok, wrI_ok, wrL_ok, wrB_ok]; exact p4
  · simp (disch := first | assumption | omega | (simp only [gT_sI, gT_sL, gT_sR, gT_sB]; first | assumption | omega)) only [Option.bind_some, ldI_ok, ldL_ok, ldR_ok, ldB_ok, stI_ok, stL_ok, stR_ok, stB_ok, chk_ok, raI_k, raL_k, raR_k, raB_k, waI_k, waL_k, waB_k, waR_k, alen_k, gT_sI, gT_sL, gT_sR, gT_sB, gN_sI, gN_sL, gN_sR, gN_sB, gI_sL, gI_sR, gI_sB, gL_sI, gL_sR, gL_sB, gR_sI, gR_sL, gR_sB, gB_sI, gB_sL, gB_sR, gI_sIs, gL_sLs, gR_sRs, gB_sBs, gI_sIn, gL_sLn, gR_sRn, gB_sBn, rdI_ok, rdL_ok, rdB_ok, wrI_ok, wrL_ok, wrB_ok]; exact p5
  · simp (disch := first | assumption | omega | (simp only [gT_sI, gT_sL, gT_sR, gT_sB]; first | assumption | omega)) only [Option.bind_some, ldI_ok, ldL_ok, ldR_ok, ldB_ok, stI_ok, stL_ok, stR_ok, stB_ok, chk_ok, raI_k, raL_k, raR_k, raB_k, waI_k, waL_k, waB_k, waR_k, alen_k, gT_sI, gT_sL, gT_sR, gT_sB, gN_sI, gN_sL, gN_sR, gN_sB, gI_sL, gI_sR, gI_sB, gL_sI, gL_sR, gL_sB, gR_sI, gR_sL, gR_sB, gB_sI, gB_sL, gB_sR, gI_sIs, gL_sLs, gR_sRs, gB_sBs, gI_sIn, gL_sLn, gR_sRn, gB_sBn, rdI_ok, rdL_ok, rdB_ok, wrI_ok, wrL_ok, wrB_ok]; exact p6
  · simp (disch := first | assumption | omega | (simp only [gT_sI, gT_sL, gT_sR, gT_sB]; first | assumption | omega)) only [Option.bind_some, ldI_ok, ldL_ok, ldR_ok, ldB_ok, stI_ok, stL_ok, stR_ok, stB_ok, chk_ok, raI_k, raL_k, raR_k, raB_k, waI_k, waL_k, waB_k, waR_k, alen_k, gT_sI, gT_sL, gT_sR, gT_sB, gN_sI, gN_sL, gN_sR, gN_sB, gI_sL, gI_sR, gI_sB, gL_sI, gL_sR, gL_sB, gR_sI, gR_sL, gR_sB, gB_sI, gB_sL, gB_sR, gI_sIs, gL_sLs, gR_sRs, gB_sBs, gI_sIn, gL_sLn, gR_sRn, gB_sBn, rdI_ok, rdL_ok, rdB_ok, wrI_ok, wrL_ok, wrB_ok]; exact p7
  · simp (disch := first | assumption | omega | (simp only [gT_sI, gT_sL, gT_sR, gT_sB]; first | assumption | omega)) only [Option.bind_some, ldI_ok, ldL_ok, ldR_ok, ldB_ok, stI_ok, stL_ok, stR_ok, stB_ok, chk_ok, raI_k, raL_k, raR_k, raB_k, waI_k, waL_k, waB_k, waR_k, alen_k, gT_sI, gT_sL, gT_sR, gT_sB, gN_sI, gN_sL, gN_sR, gN_sB, gI_sL, gI_sR, gI_sB, gL_sI, gL_sR, gL_sB, gR_sI, gR_sL, gR_sB, gB_sI, gB_sL, gB_sR, gI_sIs, gL_sLs, gR_sRs, gB_sBs, gI_sIn, gL_sLn, gR_sRn, gB_sBn, rdI_ok, rdL_ok, rdB_ok, wrI_ok, wrL_ok, wrB_ok]; exact p8
  · simp (disch := first | assumption | omega | (simp only [gT_sI, gT_sL, gT_sR, gT_sB]; first | assumption | omega)) only [Option.bind_some, ldI_ok, ldL_ok, ldR_ok, ldB_ok, stI_ok, stL_ok, stR_ok, stB_ok, chk_ok, raI_k, raL_k, raR_k, raB_k, waI_k, waL_k, waB_k, waR_k, alen_k, gT_sI, gT_sL, gT_sR, gT_sB, gN_sI, gN_sL, gN_sR, gN_sB, gI_sL, gI_sR, gI_sB, gL_sI, gL_sR, gL_sB, gR_sI, gR_sL, gR_sB, gB_sI, gB_sL, gB_sR, gI_sIs, gL_sLs, gR_sRs, gB_sBs, gI_sIn, gL_sLn, gR_sRn, gB_sBn, rdI_ok, rdL_ok, rdB_ok, wrI_ok, wrL_ok, wrB_ok]; exact p10 i hi
  · simp (disch := first | assumption | omega | (simp only [gT_sI, gT_sL, gT_sR, gT_sB]; first | assumption | omega)) only [Option.bind_some, ldI_ok, ldL_ok, ldR_ok, ldB_ok, stI_ok, stL_ok, stR_ok, stB_ok, chk_ok, raI_k, raL_k, raR_k, raB_k, waI_k, waL_k, waB_k, waR_k, alen_k, gT_sI, gT_sL, gT_sR, gT_sB, gN_sI, gN_sL, gN_sR, gN_sB, gI_sL, gI_sR, gI_sB, gL_sI, gL_sR, gL_sB, gR_sI, gR_sL, gR_sB, gB_sI, gB_sL, gB_sR, gI_sIs, gL_sLs, gR_sRs, gB_sBs, gI_sIn, gL_sLn, gR_sRn, gB_sBn, rdI_ok, rdL_ok, rdB_ok, wrI_ok, wrL_ok, wrB_ok]; exact p11
  · simp (disch := first | assumption | omega | (simp only [gT_sI, gT_sL, gT_sR, gT_sB]; first | assumption | omega)) only [Option.bind_some, ldI_ok, ldL_ok, ldR_ok, ldB_ok, stI_ok, stL_ok, stR_ok, stB_ok, chk_ok, raI_k, raL_k, raR_k, raB_k, waI_k, waL_k, waB_k, waR_k, alen_k, gT_sI, gT_sL, gT_sR, gT_sB, gN_sI, gN_sL, gN_sR, gN_sB, gI_sL, gI_sR, gI_sB, gL_sI, gL_sR, gL_sB, gR_sI, gR_sL, gR_sB, gB_sI, gB_sL, gB_sR, gI_sIs, gL_sLs, gR_sRs, gB_sBs, gI_sIn, gL_sLn, gR_sRn, gB_sBn, rdI_ok, rdL_ok, rdB_ok, wrI_ok, wrL_ok, wrB_ok]; rfl
  · simp (disch := first | assumption | omega | (simp only [gT_sI, gT_sL, gT_sR, gT_sB]; first | assumption | omega)) only [Option.bind_some, ldI_ok, ldL_ok, ldR_ok, ldB_ok, stI_ok, stL_ok, stR_ok, stB_ok, chk_ok, raI_k, raL_k, raR_k, raB_k, waI_k, waL_k, waB_k, waR_k, alen_k, gT_sI, gT_sL, gT_sR, gT_sB, gN_sI, gN_sL, gN_sR, gN_sB, gI_sL, gI_sR, gI_sB, gL_sI, gL_sR, gL_sB, gR_sI, gR_sL, gR_sB, gB_sI, gB_sL, gB_sR, gI_sIs, gL_sLs, gR_sRs, gB_sBs, gI_sIn, gL_sLn, gR_sRn, gB_sBn, rdI_ok, rdL_ok, rdB_ok, wrI_ok, wrL_ok, wrB_ok]; rfl
  · have z : 2 = 3 := z
    omega
def qWord (st sp : Bool) (tp : Nat → Nat) (n i : Nat) : Nat ⊕ (Nat × AtX) := match qFld tp n i with
  | none => .inr (qTerm st sp tp n none i)
  | some f => if pK tp n (pE tp n (pE tp n i)) = 34 then qPhrase st sp tp n (some f) (pE tp n (pE tp n i)) else if pK tp n (pE tp n (pE tp n i)) = 256 then .inr (qTerm st sp tp n (some f) (pE tp n (pE tp n i))) else .inl (pS tp n (pE tp n (pE tp n i)))
def fnA (tp : Nat → Nat) (n i : Nat) : Option Nat := if isNm tp (pS tp n i) (pE tp n i) [116, 105, 116, 108, 101] = true then some 0 else if isNm tp (pS tp n i) (pE tp n i) [98, 111, 100, 121] = true then some 1 else none
theorem fnA_i (tp : Nat → Nat) (n i : Nat) : (if isNm tp (pS tp n i) (pE tp n i) [116, 105, 116, 108, 101] = true then (0 : Int32) else if isNm tp (pS tp n i) (pE tp n i) [98, 111, 100, 121] = true then 1 else -1) = fI (fnA tp n i) := by
  unfold fnA
  split
  · rfl
  · split <;> rfl
theorem fnA_lt {tp : Nat → Nat} {n i f : Nat} (h : fnA tp n i = some f) : f < 2 := by
  unfold fnA at h
  split at h
  · cases h; decide
  · split at h
    · cases h; decide
    · cases h
theorem fI_s (f : Nat) : fI (some f) = nI f := by cases f <;> rfl
theorem qFld_eq (tp : Nat → Nat) (n i : Nat) : qFld tp n i = if pK tp n (pE tp n i) = 58 then fnA tp n i else none := rfl
theorem Ps_readWord_ok {e ps q n i p j : Nat} {σ : Mem} {tp : Nat → Nat} {st sp ng br sa : Bool} (h : cEnv e ps q σ tp n st sp) (hc : cPc ps σ tp n i) (hj : j < 40) (hp : p = q + (2 + 4 * j)) (hx : cPart σ p (grP ng br sa 1 0)) (hk : pK tp n i = 256) : ∃ z, Ps_readWord σ ps (some p) = some z ∧ atR ps p σ tp n ng br sa (qWord st sp tp n i) z := by
  obtain ⟨t0, r0, i1, r2, r3, hps, hlt, hn⟩ := h.ps
  have pk := (h.pt hj).2
  rw [← hp] at pk
  have tp4 := pk.1
  have hpl : p + 4 ≤ e + 401 := by have := h.2.2.2.2.2.1; omega
  obtain ⟨m1, f1, g1, c1, h1⟩ := adv h hc
  have n1 := g1.n
  have x1 : cPart m1 p (grP ng br sa 1 0) := hx.kp g1 (by omega) (fun t a k z1 z2 z => by unfold wAd at z; omega)
  have G1 : Kp (wAt ps p) σ m1 := g1.mono (fun t b k _ z => .inl z)
  have hb := pE_b (tp := tp) hc.1
  have t1 := h1.ps.1
  unfold Ps_readWord
  simp (disch := first | assumption | omega | (simp only [gT_sI, gT_sL, gT_sR, gT_sB]; first | assumption | omega)) only [Option.bind_some, ldI_ok, ldL_ok, ldR_ok, ldB_ok, stI_ok, stL_ok, stR_ok, stB_ok, chk_ok, raI_k, raL_k, raR_k, raB_k, waI_k, waL_k, waB_k, waR_k, alen_k, gT_sI, gT_sL, gT_sR, gT_sB, gN_sI, gN_sL, gN_sR, gN_sB, gI_sL, gI_sR, gI_sB, gL_sI, gL_sR, gL_sB, gR_sI, gR_sL, gR_sB, gB_sI, gB_sL, gB_sR, gI_sIs, gL_sLs, gR_sRs, gB_sBs, gI_sIn, gL_sLn, gR_sRn, gB_sBn, rdI_ok, rdL_ok, rdB_ok, wrI_ok, wrL_ok, wrB_ok, hc.2.2.1, hc.2.2.2, f1, c1.2.1]
  rw [Ps_fieldNamed_ok h1 hb.1 hb.2, fnA_i]
  simp only [Option.bind_some]
  refine ex_jn (fun q8 => ∃ iw g, q8.1 = nI (pS tp n iw) ∧ q8.2.1 = nI (pE tp n iw) ∧ iw ≤ n ∧ pK tp n iw = 256 ∧ cEnv e ps q q8.2.2 tp n st sp ∧ cPc ps q8.2.2 tp n (pE tp n iw) ∧ cPart q8.2.2 p (mkPT 0 g ng br sa 1 0 [] 0 0 0 0 []) ∧ Kp (wAt ps p) σ q8.2.2 ∧ qWord st sp tp n i = .inr (qTerm st sp tp n g iw)) ?_ ?_
  · rw [show (58 : Int32) = nI 58 from rfl]
    simp only [kEq (h1.k c1.1) (show 58 < 300 by decide)]
    unfold qWord
    rw [qFld_eq]
    by_cases c58 : pK tp n (pE tp n i) = 58
    · rw [if_neg (fun z => z c58), if_pos c58]
      cases hf : fnA tp n i with
      | none =>
        right
        rw [if_pos (show fI none < 0 by decide)]
        exact ⟨_, rfl, i, none, rfl, rfl, hc.1, hk, h1, c1, x1, G1, rfl⟩
      | some f =>
        have hf2 := fnA_lt hf
        have ef : ¬ nI f < 0 := fun z => by
          have : (nI f < 0) = (f < 0) := iLt (b := 0) (by omega) (by omega)
          rw [this] at z
          omega
        simp only [fI_s]
        rw [if_neg ef]
        have tp1 : (gT m1 p).1 = 4 := by rw [g1.T (by omega)]; exact tp4
        have g2 : Kp (wPI p) m1 (sI m1 p 1 (nI f)) := Kp.sI ⟨rfl, rfl⟩
        have x2 : cPart (sI m1 p 1 (nI f)) p (mkPT 0 (some f) ng br sa 1 0 [] 0 0 0 0 []) := x1.k1 f
        have hl1 := h1.ps.2.2.2.2.2.2.1
        have h2 := h1.kp g2 (wPI_wPs hj hp)
        have c2 := c1.kp g2 hl1 (fun k z => by unfold wPI at z; omega)
        have n2 := g2.n
        obtain ⟨m3, f3, g3, c3, h3⟩ := adv h2 c2
        have n3 := g3.n
        have x3 := x2.kp g3 (by omega) (fun t a k z1 z2 z => by unfold wAd at z; omega)
        have G3 := (G1.tr g2 (fun t b k _ z => wPI_wAt t b k z)).tr g3 (fun t b k _ z => .inl z)
        have t2 := h2.ps.1
        have t3 := h3.ps.1
        rw [stI_ok tp1]
        simp only [Option.bind_some]
        rw [chk_ok t2]
        simp (disch := first | assumption | omega | (simp only [gT_sI, gT_sL, gT_sR, gT_sB]; first | assumption | omega)) only [Option.bind_some, ldI_ok, ldL_ok, ldR_ok, ldB_ok, stI_ok, stL_ok, stR_ok, stB_ok, chk_ok, raI_k, raL_k, raR_k, raB_k, waI_k, waL_k, waB_k, waR_k, alen_k, gT_sI, gT_sL, gT_sR, gT_sB, gN_sI, gN_sL, gN_sR, gN_sB, gI_sL, gI_sR, gI_sB, gL_sI, gL_sR, gL_sB, gR_sI, gR_sL, gR_sB, gB_sI, gB_sL, gB_sR, gI_sIs, gL_sLs, gR_sRs, gB_sBs, gI_sIn, gL_sLn, gR_sRn, gB_sBn, rdI_ok, rdL_ok, rdB_ok, wrI_ok, wrL_ok, wrB_ok, f3, c3.2.1]
        rw [show (34 : Int32) = nI 34 from rfl, show (256 : Int32) = nI 256 from rfl]
        simp only [kEq (h3.k c3.1) (show 34 < 300 by decide), kEq (h3.k c3.1) (show 256 < 300 by decide)]
        generalize hi3 : pE tp n (pE tp n i) = i3 at *
        by_cases c34 : pK tp n i3 = 34
        · left
          rw [if_neg (fun z => z c34), if_pos c34]
          obtain ⟨z, e1, e2, e3⟩ := Ps_readPhrase_ok h3 c3 hj hp x3
          rw [e1]
          exact ⟨_, rfl, G3.tr e2 (fun _ _ _ _ z => z), e3⟩
        · rw [if_pos c34, if_neg c34]
          by_cases c256 : pK tp n i3 = 256
          · right
            rw [if_pos c256, if_pos c256]
            obtain ⟨m4, f4, g4, c4, h4⟩ := adv h3 c3
            have x4 := x3.kp g4 (by omega) (fun t a k z1 z2 z => by unfold wAd at z; omega)
            simp (disch := first | assumption | omega | (simp only [gT_sI, gT_sL, gT_sR, gT_sB]; first | assumption | omega)) only [Option.bind_some, ldI_ok, ldL_ok, ldR_ok, ldB_ok, stI_ok, stL_ok, stR_ok, stB_ok, chk_ok, raI_k, raL_k, raR_k, raB_k, waI_k, waL_k, waB_k, waR_k, alen_k, gT_sI, gT_sL, gT_sR, gT_sB, gN_sI, gN_sL, gN_sR, gN_sB, gI_sL, gI_sR, gI_sB, gL_sI, gL_sR, gL_sB, gR_sI, gR_sL, gR_sB, gB_sI, gB_sL, gB_sR, gI_sIs, gL_sLs, gR_sRs, gB_sBs, gI_sIn, gL_sLn, gR_sRn, gB_sBn, rdI_ok, rdL_ok, rdB_ok, wrI_ok, wrL_ok, wrB_ok, c3.2.2.1, c3.2.2.2, f4]
            exact ⟨_, rfl, i3, some f, rfl, rfl, c3.1, c256, h4, c4, x4, G3.tr g4 (fun t b k _ z => .inl z), rfl⟩
          · left
            rw [if_neg c256, if_neg c256]
            exact ⟨_, rfl, G3, rfl, c3.2.2.1⟩
    · right
      rw [if_pos c58, if_neg c58]
      exact ⟨_, rfl, i, none, rfl, rfl, hc.1, hk, h1, c1, x1, G1, rfl⟩
  · rintro ⟨a, b, m⟩ ⟨iw, g, rfl, rfl, hiw, kw, hm, cm, xm, Gm, eq⟩
    rw [eq]
    simp only at hm cm xm Gm
    obtain ⟨w1, w2, w3, -⟩ := pW_w h.tp hn hiw kw
    have tm := hm.ps.1
    have pkm := (hm.pt hj).2
    rw [← hp] at pkm
    have tpm := pkm.1
    have nm := Gm.n
    have hlm := hm.ps.2.2.2.2.2.2.1
    simp (disch := first | assumption | omega | (simp only [gT_sI, gT_sL, gT_sR, gT_sB]; first | assumption | omega)) only [Option.bind_some, ldI_ok, ldL_ok, ldR_ok, ldB_ok, stI_ok, stL_ok, stR_ok, stB_ok, chk_ok, raI_k, raL_k, raR_k, raB_k, waI_k, waL_k, waB_k, waR_k, alen_k, gT_sI, gT_sL, gT_sR, gT_sB, gN_sI, gN_sL, gN_sR, gN_sB, gI_sL, gI_sR, gI_sB, gL_sI, gL_sR, gL_sB, gR_sI, gR_sL, gR_sB, gB_sI, gB_sL, gB_sR, gI_sIs, gL_sLs, gR_sRs, gB_sBs, gI_sIn, gL_sLn, gR_sRn, gB_sBn, rdI_ok, rdL_ok, rdB_ok, wrI_ok, wrL_ok, wrB_ok, cm.2.1]
    rw [show (42 : Int32) = nI 42 from rfl]
    simp only [kEq (hm.k cm.1) (show 42 < 300 by decide)]
    unfold qTerm
    by_cases c42 : pK tp n (pE tp n iw) = 42
    · rw [if_neg (fun z => z c42), if_pos c42]
      have g1 : Kp (wPI p) m (sI m p 0 2) := Kp.sI ⟨rfl, rfl⟩
      have h1 := hm.kp g1 (wPI_wPs hj hp)
      obtain ⟨t1, r1, -⟩ := h1.ps
      rw [hm.ps.2.1, iSub (by omega), Sp_leastBeginning_ok h1.2.1 (by omega)]
      simp only [Option.bind_some]
      have g2 : Kp (wPt p) m (sL (sI m p 0 2) p 12 (lN (enc (small tp (pS tp n iw) (pE tp n iw - pS tp n iw))))) := (Kp.sI ⟨by decide, Nat.le_refl _, by omega⟩).l ⟨by decide, Nat.le_refl _, by omega⟩
      have hPt : ∀ t a k, wPt p t a k → wPs ps q t a k := fun t a k z => .inr (by unfold wPt at z; omega)
      have h2 := hm.kp g2 hPt
      obtain ⟨t2, r2', -⟩ := h2.ps
      rw [Sp_greatestBeginning_ok h2.2.1 (by omega)]
      simp only [Option.bind_some]
      have g3 := g2.l (a := p) (k := 13) (v := lN ((sg (small tp (pS tp n iw) (pE tp n iw - pS tp n iw)) + 1) * 37 ^ (12 - (small tp (pS tp n iw) (pE tp n iw - pS tp n iw)).length) - 1)) ⟨by decide, Nat.le_refl _, by omega⟩
      have h3 := hm.kp g3 hPt
      have c3 := cm.kp g3 hlm (fun k z => by unfold wPt at z; omega)
      have x3 : cPart _ p (mkPT 2 g ng br sa 1 0 [] 0 0 (lN (enc (small tp (pS tp n iw) (pE tp n iw - pS tp n iw)))) (lN ((sg (small tp (pS tp n iw) (pE tp n iw - pS tp n iw)) + 1) * 37 ^ (12 - (small tp (pS tp n iw) (pE tp n iw - pS tp n iw)).length) - 1)) (small tp (pS tp n iw) (pE tp n iw - pS tp n iw))) := xm.k2
      obtain ⟨m4, f4, g4, c4, h4⟩ := adv h3 c3
      simp only [f4, Option.bind_some]
      have n3 := g3.n
      have x4 := x3.kp g4 (by simp only [gN_sL, gN_sI]; omega) (fun t a k z1 z2 z => by unfold wAd at z; omega)
      exact ⟨_, rfl, (Gm.tr g3 (fun t b k _ z => .inr z)).tr g4 (fun t b k _ z => .inl z), rfl, c4, x4⟩
    · rw [if_pos c42, if_neg c42]
      have g1 : Kp (wPI p) m (sI m p 0 1) := Kp.sI ⟨rfl, rfl⟩
      have h1 := hm.kp g1 (wPI_wPs hj hp)
      have x1 : cPart (sI m p 0 1) p (mkPT 1 g ng br sa 1 0 [] 0 0 0 0 []) := xm.k0 (k' := 1) (by decide)
      have c1 := cm.kp g1 hlm (fun k z => by unfold wPI at z; omega)
      have hterm := mkT_term (st := st) (sp := sp) w1
      have pk1 := (h1.pt hj).2
      rw [← hp] at pk1
      have n1 := g1.n
      obtain ⟨m2, f2, g2, x2⟩ := Pa_takeTerm_ok (m := 0) pk1 x1 (by omega) hterm (by decide)
      have hs := h1.sp
      have ts := hs.1
      obtain ⟨t1, r1, -, r2', -⟩ := h1.ps
      rw [hm.ps.2.1, hm.ps.2.2.2.1, chk_ok ts]
      simp only [Option.bind_some]
      rw [iSub (by omega), Sp_termOf_ok hs h1.2.1 (by omega) w1]
      simp only [Option.bind_some]
      have f2 : Pa_takeTerm (sI m p 0 1) p (lN (enc (mkT st sp tp (pS tp n iw) (pE tp n iw - pS tp n iw)))) 0 = some m2 := f2
      rw [f2]
      have hl1 := h1.ps.2.2.2.2.2.2.1
      exact ⟨_, rfl, (Gm.tr g1 (fun t b k _ z => wPI_wAt t b k z)).tr g2 (fun t b k _ z => wTk_wAt t b k z), rfl, c1.kp g2 hl1 (fun k z => by unfold wTk at z; omega), x2⟩
theorem Ps_readAtom_ok {rec : Mem → Nat → Int32 → Bool → Option (Bool × Mem)} {e ps q n i p j : Nat} {σ : Mem} {tp : Nat → Nat} {st sp ng br sa : Bool} {d : Int32} (h : cEnv e ps q σ tp n st sp) (hc : cPc ps σ tp n i) (hj : j < 40) (hp : p = q + (2 + 4 * j)) (hx : cPart σ p (grP ng br sa 1 0)) (hk : pK tp n i ≠ 40) : ∃ z, Ps_readAtom rec σ ps (some p) d = some z ∧ atR ps p σ tp n ng br sa (qAtom st sp tp n i) z := by
  have t0 := h.ps.1
  unfold Ps_readAtom qAtom
  simp (disch := first | assumption | omega | (simp only [gT_sI, gT_sL, gT_sR, gT_sB]; first | assumption | omega)) only [Option.bind_some, ldI_ok, ldL_ok, ldR_ok, ldB_ok, stI_ok, stL_ok, stR_ok, stB_ok, chk_ok, raI_k, raL_k, raR_k, raB_k, waI_k, waL_k, waB_k, waR_k, alen_k, gT_sI, gT_sL, gT_sR, gT_sB, gN_sI, gN_sL, gN_sR, gN_sB, gI_sL, gI_sR, gI_sB, gL_sI, gL_sR, gL_sB, gR_sI, gR_sL, gR_sB, gB_sI, gB_sL, gB_sR, gI_sIs, gL_sLs, gR_sRs, gB_sBs, gI_sIn, gL_sLn, gR_sRn, gB_sBn, rdI_ok, rdL_ok, rdB_ok, wrI_ok, wrL_ok, wrB_ok, hc.2.1]
  rw [show (34 : Int32) = nI 34 from rfl, show (256 : Int32) = nI 256 from rfl, show (91 : Int32) = nI 91 from rfl, show (40 : Int32) = nI 40 from rfl]
  simp only [kEq (h.k hc.1) (show 34 < 300 by decide), kEq (h.k hc.1) (show 256 < 300 by decide), kEq (h.k hc.1) (show 91 < 300 by decide), kEq (h.k hc.1) (show 40 < 300 by decide)]
  rw [if_neg hk]
  by_cases c34 : pK tp n i = 34
  · rw [if_pos c34, if_neg (by omega), if_pos c34]
    obtain ⟨z, e1, e2⟩ := Ps_readPhrase_ok (st := st) (sp := sp) h hc hj hp hx
    rw [e1]
    exact ⟨_, rfl, e2⟩
  · rw [if_neg c34]
    by_cases c91 : pK tp n i = 91
    · rw [if_pos c91, if_pos c91]
      obtain ⟨z, e1, e2⟩ := Ps_readRange_ok h hc hj hp hx
      rw [e1]
      exact ⟨_, rfl, e2⟩
    · rw [if_neg c91, if_neg c91, if_neg c34]
      by_cases c256 : pK tp n i = 256
      · rw [if_pos c256, if_pos c256]
        obtain ⟨z, e1, e2⟩ := Ps_readWord_ok (st := st) (sp := sp) h hc hj hp hx c256
        rw [e1]
        exact ⟨_, rfl, e2⟩
      · rw [if_neg c256, if_neg c256]
        exact ⟨_, rfl, Kp.rf, rfl, hc.2.2.1⟩
