/-! the reference's parser: a part, whole -/
theorem M_part_atom {R : RS} {tp : Nat → Nat} {n i d np na : Nat} {st sp br : Bool} {X : QSt} (h : rHd R tp n st sp d br X np na) (hc : rPc R tp n i) (hl : X.1.length < 40) (hB : lenB X) (hd8 : d ≤ 8) (h40 : pK tp n (if pK tp n i = 45 then pE tp n i else i) ≠ 40) : match qAtom st sp tp n (if pK tp n i = 45 then pE tp n i else i) with
    | .inl p => ∃ R', M_part R = some (false, R') ∧ R'.1 0 45 = nI p ∧ p < 1000 ∧ Rp (wQr d) R R'
    | .inr (i2, y) => match qBoost tp n i2 with
      | .inl p => ∃ R', M_part R = some (false, R') ∧ R'.1 0 45 = nI p ∧ p < 1000 ∧ Rp (wQr d) R R'
      | .inr (i3, b) => ∃ R', M_part R = some (false, R') ∧ Rp (wQr d) R R' ∧ rEnv R' tp n st sp ∧ rPc R' tp n i3 ∧ rO R' ((X.2.1 ++ [atO y X.2.2.1.length]) ++ opsB tp n i2 (decide (pK tp n i = 45)) b) ∧ rW R' (X.2.2.1 ++ atW y) ∧ rM R' (X.2.2.2 ++ (if (br || decide (pK tp n i = 45)) = true then [] else atM y X.2.2.1.length)) ∧ R'.1 0 59 = nI (X.1.length + 1) ∧ R'.1 0 58 = nI d ∧ R'.1 36 d = nI (np + 1) ∧ R'.1 37 d = nI na ∧ ∀ k, R'.2.2 38 k = R.2.2 38 k := by
  obtain ⟨R2, e2, g2, h2, c2, l2⟩ := M_minus h hc (by omega)
  rw [M_part_eq h hc hl hd8 e2 c2 h2, if_pos h40]
  obtain ⟨b1, b2, b3, b4⟩ := hB
  obtain ⟨hE, hO, hW, hM, h59, h58, h36, h37, hbr⟩ := h
  have w2 : ∀ t c j, (wRd t c j ∨ (t = 0 ∧ c = 0 ∧ j = 59)) → wQr d t c j := fun t c j z => by unfold wRd at z; unfold wQr; omega
  have O2 := hO.rp g2 (by unfold wRd; omega) (fun c j z1 z2 z => by unfold wRd at z; omega)
  have W2 := hW.rp g2 (by unfold wRd; omega) (fun c j z1 z2 z => by unfold wRd at z; omega)
  have M2 := hM.rp g2 (by unfold wRd; omega) (fun c j z1 z2 z => by unfold wRd at z; omega)
  have h58b : R2.1 0 58 = nI d := by rw [g2.I (by decide) (by unfold wRd; omega)]; exact h58
  have h36b : R2.1 36 d = nI np := by rw [g2.I (by decide) (by unfold wRd; omega)]; exact h36
  have h37b : R2.1 37 d = nI na := by rw [g2.I (by decide) (by unfold wRd; omega)]; exact h37
  have h38b : ∀ k, R2.2.2 38 k = R.2.2 38 k := fun k => g2.B (by decide) (by unfold wRd; omega)
  have G2 : Rp (wQr d) R R2 := g2.mono w2
  have hi2 := c2.1
  generalize (if pK tp n i = 45 then pE tp n i else i) = i1 at *
  obtain ⟨z, e3, r3⟩ := M_atom_ok h2 c2 O2 (by omega) W2 (by omega)
  rw [e3]
  simp only [Option.bind_some]
  have wA : ∀ t c j, wAs t c j → wQr d t c j := fun t c j z => by unfold wAs at z; unfold wQr; omega
  cases hq : qAtom st sp tp n i1 with
  | inl p =>
    rw [hq] at r3
    obtain ⟨a1, a2, a3, a4⟩ := r3
    rw [if_neg (by rw [a1]; decide)]
    refine ⟨z.2, rfl, a2, a3, G2.tr a4 (fun t c j y => ?_)⟩
    rcases y with y | y
    · exact wA t c j y
    · unfold wFl at y; unfold wQr; omega
  | inr r =>
    obtain ⟨i2, y⟩ := r
    have hy := qAtom_ok h2.tp h2.1 hi2 hq
    rw [hq] at r3
    obtain ⟨a1, g3, h3, c3, O3, W3⟩ := r3
    rw [if_pos a1]
    have G3 : Rp (wQr d) R z.2 := G2.tr g3 wA
    have M3 := M2.rp g3 (by unfold wAs; omega) (fun c j z1 z2 z => by unfold wAs at z; omega)
    have h59c : z.2.1 0 59 = nI (X.1.length + 1) := by rw [g3.I (by decide) (by unfold wAs; omega)]; exact l2
    have h58c : z.2.1 0 58 = nI d := by rw [g3.I (by decide) (by unfold wAs; omega)]; exact h58b
    have h36c : z.2.1 36 d = nI np := by rw [g3.I (by decide) (by unfold wAs; omega)]; exact h36b
    have h37c : z.2.1 37 d = nI na := by rw [g3.I (by decide) (by unfold wAs; omega)]; exact h37b
    have h38c : ∀ k, z.2.2.2 38 k = R.2.2 38 k := fun k => by rw [g3.B (by decide) (by unfold wAs; omega)]; exact h38b k
    have hbc : br = true ↔ ∃ k, k < d ∧ z.2.2.2 38 k = true := by
      rw [hbr]
      constructor
      · rintro ⟨k, k1, k2⟩
        exact ⟨k, k1, by rw [h38c]; exact k2⟩
      · rintro ⟨k, k1, k2⟩
        exact ⟨k, k1, by rw [← h38c]; exact k2⟩
    rw [O2.1]
    obtain ⟨R4, e4, g4, M4⟩ : ∃ R4, (if decide (pK tp n i = 45) = true then some z.2 else (M_isWithinMinus z.2).bind fun v13 => if v13 = true then some z.2 else (M_mark z.2 (nI X.2.1.length)).bind fun v15 => some v15) = some R4 ∧ Rp wMk z.2 R4 ∧ rM R4 (X.2.2.2 ++ (if (br || decide (pK tp n i = 45)) = true then [] else atM y X.2.2.1.length)) := by
      by_cases c45 : pK tp n i = 45
      · rw [if_pos (decide_eq_true c45), if_pos (by rw [decide_eq_true c45]; simp)]
        refine ⟨z.2, rfl, Rp.rf, ?_⟩
        rw [List.append_nil]
        exact M3
      · rw [if_neg (fun y => c45 (of_decide_eq_true y)), M_isWithinMinus_ok h58c (by omega) hbc]
        simp only [Option.bind_some]
        cases hb : br with
        | true =>
          rw [if_pos rfl, if_pos (by simp)]
          refine ⟨z.2, rfl, Rp.rf, ?_⟩
          rw [List.append_nil]
          exact M3
        | false =>
          rw [if_neg (by decide), if_neg (by rw [decide_eq_false c45]; decide)]
          obtain ⟨R4, e4, g4, m4⟩ := M_mark_ok hy O3 W3 M3 (by omega) (by omega) (by omega)
          rw [e4]
          exact ⟨R4, rfl, g4, m4⟩
    rw [e4]
    simp only [Option.bind_some]
    have wM : ∀ t c j, wMk t c j → wQr d t c j := fun t c j z => by unfold wMk at z; unfold wQr; omega
    have G4 : Rp (wQr d) R R4 := G3.tr g4 wM
    have h4 := h3.rp g4 wMk_env
    have c4 : rPc R4 tp n i2 := c3.rp g4 (fun j z1 z2 z => by unfold wMk at z; omega)
    have O4 := O3.rp g4 (by unfold wMk; omega) (fun c j z1 z2 z => by unfold wMk at z; omega)
    have W4 := W3.rp g4 (by unfold wMk; omega) (fun c j z1 z2 z => by unfold wMk at z; omega)
    have h58d : R4.1 0 58 = nI d := by rw [g4.I (by decide) (by unfold wMk; omega)]; exact h58c
    have h36d : R4.1 36 d = nI np := by rw [g4.I (by decide) (by unfold wMk; omega)]; exact h36c
    have hol : (X.2.1 ++ [atO y X.2.2.1.length]).length + 2 ≤ 400 := by rw [List.length_append]; show X.2.1.length + 1 + 2 ≤ 400; omega
    have r5 := M_endPart_ok (ng := decide (pK tp n i = 45)) h4 c4 O4 hol h58d (by omega) h36d
    have wP : ∀ t c j, wEP d t c j → wQr d t c j := fun t c j z => by unfold wEP at z; unfold wQr; omega
    cases hb : qBoost tp n i2 with
    | inl p =>
      rw [hb] at r5
      obtain ⟨R5, e5, v5, p5, g5⟩ := r5
      rw [e5]
      refine ⟨R5, rfl, v5, p5, G4.tr g5 (fun t c j y => ?_)⟩
      rcases y with y | y
      · exact wP t c j y
      · unfold wFl at y; unfold wQr; omega
    | inr r =>
      obtain ⟨i3, b⟩ := r
      rw [hb] at r5
      obtain ⟨R5, e5, g5, h5, c5, O5, p5⟩ := r5
      rw [e5]
      refine ⟨R5, rfl, G4.tr g5 wP, h5, c5, O5, ?_, ?_, ?_, ?_, p5, ?_, fun k => ?_⟩
      · exact W4.rp g5 (by unfold wEP; omega) (fun c j z1 z2 z => by unfold wEP at z; omega)
      · exact M4.rp g5 (by unfold wEP; omega) (fun c j z1 z2 z => by unfold wEP at z; omega)
      · rw [g5.I (by decide) (by unfold wEP; omega), g4.I (by decide) (by unfold wMk; omega)]; exact h59c
      · rw [g5.I (by decide) (by unfold wEP; omega)]; exact h58d
      · rw [g5.I (by decide) (by unfold wEP; omega), g4.I (by decide) (by unfold wMk; omega)]; exact h37c
      · rw [g5.B (by decide) (by unfold wEP; omega), g4.B (by decide) (by unfold wMk; omega)]; exact h38c k
/-- a ( is read: one deeper -/
theorem M_part_open {R : RS} {tp : Nat → Nat} {n i d np na : Nat} {st sp br sa : Bool} {X : QSt} (h : rHd R tp n st sp d br X np na) (hc : rPc R tp n i) (hl : X.1.length < 40) (hd8 : d < 8) (h40 : pK tp n (if pK tp n i = 45 then pE tp n i else i) = 40) : ∃ R', M_part R = some (true, R') ∧ Rp (wQr d) R R' ∧ rHd R' tp n st sp (d + 1) (br || decide (pK tp n i = 45)) (X.1 ++ [grP (decide (pK tp n i = 45)) (br || decide (pK tp n i = 45)) sa 1 0], X.2) 0 0 ∧ rPc R' tp n (pE tp n (if pK tp n i = 45 then pE tp n i else i)) ∧ R'.1 36 d = nI np ∧ R'.1 37 d = nI na ∧ R'.2.2 38 d = decide (pK tp n i = 45) ∧ ∀ k, k < d → R'.2.2 38 k = R.2.2 38 k := by
  obtain ⟨R2, e2, g2, h2, c2, l2⟩ := M_minus h hc (by omega)
  rw [M_part_eq h hc hl (by omega) e2 c2 h2, if_neg (fun z => z h40)]
  obtain ⟨hE, hO, hW, hM, h59, h58, h36, h37, hbr⟩ := h
  have O2 := hO.rp g2 (by unfold wRd; omega) (fun c j z1 z2 z => by unfold wRd at z; omega)
  have W2 := hW.rp g2 (by unfold wRd; omega) (fun c j z1 z2 z => by unfold wRd at z; omega)
  have M2 := hM.rp g2 (by unfold wRd; omega) (fun c j z1 z2 z => by unfold wRd at z; omega)
  have h58b : R2.1 0 58 = nI d := by rw [g2.I (by decide) (by unfold wRd; omega)]; exact h58
  have h36b : R2.1 36 d = nI np := by rw [g2.I (by decide) (by unfold wRd; omega)]; exact h36
  have h37b : R2.1 37 d = nI na := by rw [g2.I (by decide) (by unfold wRd; omega)]; exact h37
  have h38b : ∀ k, R2.2.2 38 k = R.2.2 38 k := fun k => g2.B (by decide) (by unfold wRd; omega)
  have G2 : Rp (wQr d) R R2 := g2.mono (fun t c j z => by unfold wRd at z; unfold wQr; omega)
  have hi2 := c2.1
  generalize (if pK tp n i = 45 then pE tp n i else i) = i1 at *
  have e8 : ¬ nI d = 8 := by
    have : (nI d = 8) = (d = 8) := iEq (b := 8) (by omega) (by omega)
    rw [this]
    omega
  rw [h58b, if_pos e8, wrB_ok (by omega) (by omega)]
  simp only [Option.bind_some]
  have h58c : (R2.1, R2.2.1, up2 R2.2.2 38 d (decide (pK tp n i = 45))).1 0 58 = nI d := h58b
  have gB : Rp (fun t c j => t = 3 ∧ c = 38 ∧ j = d) R2 (R2.1, R2.2.1, up2 R2.2.2 38 d (decide (pK tp n i = 45))) := Rp.wB ⟨rfl, rfl, rfl⟩
  have vB : (R2.1, R2.2.1, up2 R2.2.2 38 d (decide (pK tp n i = 45))).2.2 38 d = decide (pK tp n i = 45) := by simp only [up2_s]
  generalize (R2.1, R2.2.1, up2 R2.2.2 38 d (decide (pK tp n i = 45))) = R3 at *
  rw [h58b, show (1 : Int32) = nI 1 from rfl, nI_add]
  have e58 : (pI R3 58 (nI (d + 1))).1 0 58 = nI (d + 1) := by simp only [pI, pL, pB, up2_s, up2_ne]
  have gC : Rp (fun t c j => t = 0 ∧ c = 0 ∧ j = 58) R3 (pI R3 58 (nI (d + 1))) := Rp.pI ⟨rfl, rfl, rfl⟩
  generalize pI R3 58 (nI (d + 1)) = R4 at *
  simp (disch := first | assumption | omega) only [e58, wrI_ok, Option.bind_some, pI, pL, pB, up2_s, up2_ne]
  have gD : Rp (fun t c j => t = 0 ∧ (c = 36 ∨ c = 37) ∧ j = d + 1) R4 (up2 (up2 R4.1 36 (d + 1) 0) 37 (d + 1) 0, R4.2) := Rp.tr (R' := (up2 R4.1 36 (d + 1) 0, R4.2)) (Rp.wI ⟨rfl, .inl rfl, rfl⟩) (Rp.wI ⟨rfl, .inr rfl, rfl⟩) (fun _ _ _ z => z)
  have v36 : (up2 (up2 R4.1 36 (d + 1) 0) 37 (d + 1) 0, R4.2).1 36 (d + 1) = nI 0 := by simp (disch := omega) only [pI, pL, pB, up2_s, up2_ne]; rfl
  have v37 : (up2 (up2 R4.1 36 (d + 1) 0) 37 (d + 1) 0, R4.2).1 37 (d + 1) = nI 0 := by simp only [up2_s]; rfl
  generalize (up2 (up2 R4.1 36 (d + 1) 0) 37 (d + 1) 0, R4.2) = R5 at *
  have gg : Rp (fun t c j => (t = 3 ∧ c = 38 ∧ j = d) ∨ (t = 0 ∧ c = 0 ∧ j = 58) ∨ (t = 0 ∧ (c = 36 ∨ c = 37) ∧ j = d + 1)) R2 R5 := ((gB.mono (fun _ _ _ z => .inl z)).tr gC (fun _ _ _ z => .inr (.inl z))).tr gD (fun _ _ _ z => .inr (.inr z))
  have h5 : rEnv R5 tp n st sp := h2.rp gg (fun t c j z => by omega)
  have c5 : rPc R5 tp n i1 := c2.rp gg (fun j z1 z2 z => by omega)
  obtain ⟨R6, e6, g6, c6, h6⟩ := rdv h5 c5
  rw [e6]
  have G5 : Rp (wQr d) R R5 := G2.tr gg (fun t c j z => by unfold wQr; omega)
  have G6 : Rp (wQr d) R R6 := G5.tr g6 (fun t c j z => by unfold wRd at z; unfold wQr; omega)
  have t38 : ∀ k, R6.2.2 38 k = R5.2.2 38 k := fun k => g6.B (by decide) (by unfold wRd; omega)
  have d38 : R6.2.2 38 d = decide (pK tp n i = 45) := by
    rw [t38, gD.B (by decide) (by omega), gC.B (by decide) (by omega)]
    exact vB
  have k38 : ∀ k, k < d → R6.2.2 38 k = R.2.2 38 k := fun k hk => by
    rw [t38, gg.B (by decide) (by omega)]
    exact h38b k
  refine ⟨R6, rfl, G6, ⟨h6, ?_, ?_, ?_, ?_, ?_, ?_, ?_, ?_⟩, c6, ?_, ?_, d38, k38⟩
  · exact (O2.rp gg (by omega) (fun c j z1 z2 z => by omega)).rp g6 (by unfold wRd; omega) (fun c j z1 z2 z => by unfold wRd at z; omega)
  · exact (W2.rp gg (by omega) (fun c j z1 z2 z => by omega)).rp g6 (by unfold wRd; omega) (fun c j z1 z2 z => by unfold wRd at z; omega)
  · exact (M2.rp gg (by omega) (fun c j z1 z2 z => by omega)).rp g6 (by unfold wRd; omega) (fun c j z1 z2 z => by unfold wRd at z; omega)
  · rw [g6.I (by decide) (by unfold wRd; omega), gg.I (by decide) (by omega), l2]
    show _ = nI (X.1 ++ [_]).length
    rw [len1]
  · rw [g6.I (by decide) (by unfold wRd; omega), gD.I (by decide) (by omega)]; exact e58
  · rw [g6.I (by decide) (by unfold wRd; omega)]; exact v36
  · rw [g6.I (by decide) (by unfold wRd; omega)]; exact v37
  · rw [Bool.or_eq_true, hbr]
    constructor
    · rintro (⟨k, k1, k2⟩ | z)
      · exact ⟨k, by omega, by rw [k38 k k1]; exact k2⟩
      · exact ⟨d, by omega, by rw [d38]; exact z⟩
    · rintro ⟨k, k1, k2⟩
      by_cases z : k = d
      · right; rw [← d38, ← z]; exact k2
      · left; exact ⟨k, by omega, by rw [← k38 k (by omega)]; exact k2⟩
  · rw [g6.I (by decide) (by unfold wRd; omega), gg.I (by decide) (by omega)]; exact h36b
  · rw [g6.I (by decide) (by unfold wRd; omega), gg.I (by decide) (by omega)]; exact h37b
/-- the loop at a ) -/
theorem it_close {R : RS} {tp : Nat → Nat} {n i d np na np' na' : Nat} {st sp br' ng : Bool} {Y : QSt} (h : rHd R tp n st sp (d + 1) br' Y np' na') (hc : rPc R tp n i) (hk : pK tp n i = 41) (hB : Y.2.1.length ≤ 200) (hd8 : d < 8) (h36 : R.1 36 d = nI np) (h38 : R.2.2 38 d = ng) : match qBoost tp n (pE tp n i) with
    | .inl p => ∃ R', M_readQuery_l47 R false 0 = some (.inl (false, 0, R')) ∧ R'.1 0 45 = nI p ∧ p < 1000 ∧ Rp (wQr d) R R'
    | .inr (i3, b) => ∃ R', M_readQuery_l47 R false 0 = some (.inl (false, 0, R')) ∧ Rp (wQr d) R R' ∧ Rp (fun t c j => ¬ (t = 0 ∧ c = 37 ∧ j = d) ∧ t ≠ 3 ∧ ¬ (t = 0 ∧ 33 ≤ c ∧ c ≤ 35) ∧ ¬ (t = 0 ∧ 39 ≤ c ∧ c ≤ 41) ∧ ¬ (t = 0 ∧ c = 0 ∧ (j = 59 ∨ j = 51 ∨ j = 30))) R R' ∧ rEnv R' tp n st sp ∧ rPc R' tp n i3 ∧ rO R' ((Y.2.1 ++ [(7, 0, nI np', 0), (8, 0, nI (na' + 1), 0)]) ++ opsB tp n (pE tp n i) ng b) ∧ R'.1 0 58 = nI d ∧ R'.1 36 d = nI (np + 1) := by
  obtain ⟨hE, hO, hW, hM, h59, h58, h36', h37', hbr⟩ := h
  have hkk := hE.k hc.1
  obtain ⟨R1, e1, g1, o1, p1, a1⟩ := M_endAll_ok hO (by omega) h58 (by omega) h36' h37'
  have h1 := hE.rp g1 wEA_env
  have c1 : rPc R1 tp n i := hc.rp g1 (fun j z1 z2 z => by unfold wEA at z; omega)
  have hol : (Y.2.1 ++ [((7 : Nat), (0 : Int32), nI np', (0 : Int32))]).length = Y.2.1.length + 1 := by rw [List.length_append]; rfl
  obtain ⟨R2, e2, g2, o2⟩ := M_emit_ok o1 (by rw [hol]; omega) 8 0 (nI (na' + 1)) 0
  have h2 := h1.rp g2 wEm_env
  have c2 : rPc R2 tp n i := c1.rp g2 (fun j z1 z2 z => by unfold wEm at z; omega)
  have d1 : R1.1 0 58 = nI (d + 1) := by rw [g1.I (by decide) (by unfold wEA; omega)]; exact h58
  have d2 : R2.1 0 58 = nI (d + 1) := by rw [g2.I (by decide) (by unfold wEm; omega)]; exact d1
  have gC : Rp (fun t c j => t = 0 ∧ c = 0 ∧ j = 58) R2 (pI R2 58 (nI d)) := Rp.pI ⟨rfl, rfl, rfl⟩
  have d3 : (pI R2 58 (nI d)).1 0 58 = nI d := by simp only [pI, pL, pB, up2_s, up2_ne]
  have h3 : rEnv (pI R2 58 (nI d)) tp n st sp := h2.rp gC (fun t c j z => by omega)
  have c3 : rPc (pI R2 58 (nI d)) tp n i := c2.rp gC (fun j z1 z2 z => by omega)
  have o3 := o2.rp gC (by omega) (fun c j z1 z2 z => by omega)
  obtain ⟨R4, e4, g4, c4, h4⟩ := rdv h3 c3
  have o4 := o3.rp g4 (by unfold wRd; omega) (fun c j z1 z2 z => by unfold wRd at z; omega)
  have d4 : R4.1 0 58 = nI d := by rw [g4.I (by decide) (by unfold wRd; omega)]; exact d3
  have m4 : R4.2.2 38 d = ng := by
    rw [g4.B (by decide) (by unfold wRd; omega), gC.B (by decide) (by omega), g2.B (by decide) (by unfold wEm; omega), g1.B (by decide) (by unfold wEA; omega)]
    exact h38
  have p4 : R4.1 36 d = nI np := by
    rw [g4.I (by decide) (by unfold wRd; omega), gC.I (by decide) (by omega), g2.I (by decide) (by unfold wEm; omega), g1.I (by decide) (by unfold wEA; omega)]
    exact h36
  have hol2 : ((Y.2.1 ++ [((7 : Nat), (0 : Int32), nI np', (0 : Int32))]) ++ [((8 : Nat), (0 : Int32), nI (na' + 1), (0 : Int32))]).length + 2 ≤ 400 := by rw [List.length_append, hol]; show Y.2.1.length + 1 + 1 + 2 ≤ 400; omega
  have r5 := M_endPart_ok (ng := ng) h4 c4 o4 hol2 d4 (by omega) p4
  have G4 : Rp (wQr d) R R4 := (((g1.mono (W' := wQr d) (fun t c j z => by unfold wEA at z; unfold wQr; omega)).tr g2 (fun t c j z => by unfold wEm at z; unfold wQr; omega)).tr gC (fun t c j z => by unfold wQr; omega)).tr g4 (fun t c j z => by unfold wRd at z; unfold wQr; omega)
  have hst : M_readQuery_l47 R false 0 = (M_endPart R4 ng).bind fun v29 => some (.inl (false, 0, v29)) := by
    unfold M_readQuery_l47
    rw [if_neg (fun z => z hE.2.2.2.2.2), if_neg (fun z => z rfl), M_beginsPart_ok hE hc]
    simp only [Option.bind_some]
    rw [if_neg (by rw [hk]; decide), hc.2.1, show (124 : Int32) = nI 124 from rfl, show (41 : Int32) = nI 41 from rfl]
    simp only [rk_c hkk (c := 124) (by decide), rk_c hkk (c := 41) (by decide)]
    rw [if_pos (show ¬ pK tp n i = 124 by omega)]
    simp only [jn_r]
    have e0 : ¬ nI (d + 1) ≤ 0 := by
      have : (nI (d + 1) ≤ 0) = (d + 1 ≤ 0) := iLe (b := 0) (by omega) (by omega)
      rw [this]
      omega
    rw [if_neg (fun z => z hk), if_neg (by decide), h58, if_neg e0, e1]
    simp only [Option.bind_some]
    rw [d1, rdI_ok (by omega) (by omega), a1]
    simp only [Option.bind_some]
    rw [show (8 : Int32) = nI 8 from rfl, e2]
    simp only [Option.bind_some]
    rw [d2, show (1 : Int32) = nI 1 from rfl, iSub (by omega), show d + 1 - 1 = d by omega, e4]
    simp only [Option.bind_some]
    rw [d4, rdB_ok (by omega) (by omega), m4]
    simp only [Option.bind_some]
    cases M_endPart R4 ng <;> rfl
  rw [hst]
  cases hb : qBoost tp n (pE tp n i) with
  | inl p =>
    rw [hb] at r5
    obtain ⟨R5, e5, v5, p5, g5⟩ := r5
    rw [e5]
    refine ⟨R5, rfl, v5, p5, G4.tr g5 (fun t c j y => ?_)⟩
    rcases y with y | y
    · unfold wEP at y; unfold wQr; omega
    · unfold wFl at y; unfold wQr; omega
  | inr r =>
    obtain ⟨i3, b⟩ := r
    rw [hb] at r5
    obtain ⟨R5, e5, g5, h5, c5, O5, p5⟩ := r5
    rw [e5]
    refine ⟨R5, rfl, G4.tr g5 (fun t c j y => by unfold wEP at y; unfold wQr; omega), ?_, h5, c5, ?_, ?_, p5⟩
    · exact ((((g1.mono (fun t c j z => by unfold wEA at z; omega)).tr g2 (fun t c j z => by unfold wEm at z; omega)).tr gC (fun t c j z => by omega)).tr g4 (fun t c j z => by unfold wRd at z; omega)).tr g5 (fun t c j z => by unfold wEP at z; omega)
    · rw [List.append_assoc Y.2.1] at O5
      exact O5
    · rw [g5.I (by decide) (by unfold wEP; omega)]; exact d4
