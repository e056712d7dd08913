/-! VOCABULARIES asked; TEXTS made -/
theorem ushr_half {m : Nat} (h : m < 2147483648) : ushrI (nI m) 1 = nI (m / 2) := by
  have e1 : (Int32.toUInt32 1 &&& Int32.toUInt32 31) = 1 := by decide
  unfold ushrI
  rw [e1]
  apply Int32.toBitVec_inj.mp
  show (nI m).toBitVec >>> ((1 : UInt32).toBitVec % 32) = BitVec.ofNat 32 (m / 2)
  apply BitVec.eq_of_toNat_eq
  have e2 : ((1 : UInt32).toBitVec % 32).toNat = 1 := by decide
  rw [BitVec.ushiftRight_eq', BitVec.toNat_ushiftRight, e2, BitVec.toNat_ofNat, Nat.shiftRight_eq_div_pow]
  have e3 : (nI m).toBitVec.toNat = m := by
    show (BitVec.ofNat 32 m).toNat = m
    rw [BitVec.toNat_ofNat]
    omega
  rw [e3]
  omega
theorem Vo_placeOf_ok {σ : Mem} {v q : Nat} {E : List Nat} (hv : (gT σ v).1 = 10) (h0 : gR σ v 0 = some q) (hq : gT σ q = (101, E.length)) (hn : E.length < 1000000) (hL : ∀ i, i < E.length → gL σ q i = lN (E.getD i 0)) (hs : ∀ i k, i < k → k < E.length → E.getD i 0 < E.getD k 0) (hb : ∀ i, i < E.length → E.getD i 0 < 6582952005840035281) {y : Nat} (hy : y < 9223372036854775808) : ∃ r, Vo_placeOf σ v (lN y) = some (nI r) ∧ r ≤ E.length ∧ (∀ i, i < r → E.getD i 0 < y) ∧ ∀ i, r ≤ i → i < E.length → y ≤ E.getD i 0 := by
  have q1 : (gT σ q).1 = 100 + 1 := by rw [hq]
  have q2 : (gT σ q).2 = E.length := by rw [hq]
  have hp : ∀ h, h < 31 → 2 ^ (31 - h) = 2 * 2 ^ (31 - (h + 1)) := fun h hh => by
    rw [show 31 - h = 31 - (h + 1) + 1 by omega, Nat.pow_succ]
    omega
  obtain ⟨z, hz, r, rfl, h1, h2, h3⟩ := lp_inv (f := fun p : Int32 × Int32 × Int32 => Vo_placeOf_l12 σ v (lN y) p.1 p.2.1 p.2.2) (fun p => ∃ a b h, p = (nI a, nI b, nI h) ∧ a ≤ b ∧ b ≤ E.length ∧ h ≤ 31 ∧ b - a < 2 ^ (31 - h) ∧ (∀ i, i < a → E.getD i 0 < y) ∧ ∀ i, b ≤ i → i < E.length → y ≤ E.getD i 0) (fun p => p.2.1.toNatClampNeg - p.1.toNatClampNeg) (fun z => ∃ r, z = nI r ∧ r ≤ E.length ∧ (∀ i, i < r → E.getD i 0 < y) ∧ ∀ i, r ≤ i → i < E.length → y ≤ E.getD i 0) (by
    rintro p ⟨a, b, h, rfl, hab, hbn, h31, hba, i1, i2⟩
    unfold Vo_placeOf_l12
    simp (disch := omega) only [nl, nI_add, nI_mul, iSub, iEq, iLe, iLt, iEqN, iNEq, iNN, iLtN, iNLt, iLeN, iNLe, iAddN, iNAdd, iMin, iMax, iDiv, iRem]
    by_cases c0 : 31 ≤ h
    · right
      rw [if_pos c0]
      have e31 : h = 31 := by omega
      subst e31
      have hba : b - a < 1 := hba
      exact ⟨_, rfl, a, rfl, by omega, i1, fun i h1 h2 => i2 i (by omega) h2⟩
    rw [if_neg c0]
    have hp := hp h (by omega)
    by_cases c : b ≤ a
    · right
      rw [if_pos c]
      exact ⟨_, rfl, a, rfl, by omega, i1, fun i h1 h2 => i2 i (by omega) h2⟩
    · left
      rw [if_neg c, show nI 1 = (1 : Int32) from rfl, ushr_half (by omega)]
      have hm := hL ((a + b) / 2) (by omega)
      have hmb := hb ((a + b) / 2) (by omega)
      simp (disch := first | assumption | omega | (simp only [gT_sI, gT_sL, gT_sR, gT_sB]; first | assumption | omega)) only [Option.bind_some, ldI_ok, ldL_ok, ldR_ok, ldB_ok, stI_ok, stL_ok, stR_ok, stB_ok, chk_ok, raI_k, raL_k, raR_k, raB_k, waI_k, waL_k, waB_k, waR_k, alen_k, gT_sI, gT_sL, gT_sR, gT_sB, gN_sI, gN_sL, gN_sR, gN_sB, gI_sL, gI_sR, gI_sB, gL_sI, gL_sR, gL_sB, gR_sI, gR_sL, gR_sB, gB_sI, gB_sL, gB_sR, gI_sIs, gL_sLs, gR_sRs, gB_sBs, gI_sIn, gL_sLn, gR_sRn, gB_sBn, rdI_ok, rdL_ok, rdB_ok, wrI_ok, wrL_ok, wrB_ok, h0, q2, hm]
      simp only [lLe hy (show E.getD ((a + b) / 2) 0 < 9223372036854775808 by omega)]
      by_cases c2 : y ≤ E.getD ((a + b) / 2) 0
      · rw [if_pos c2]
        simp only [Option.bind_some, nl, nI_add]
        refine ⟨_, rfl, ⟨a, (a + b) / 2, h + 1, rfl, by omega, by omega, by omega, by omega, i1, fun i h1 h2 => ?_⟩, ?_⟩
        · by_cases e : i = (a + b) / 2
          · rw [e]; exact c2
          · have := hs ((a + b) / 2) i (by omega) h2
            omega
        · show (nI ((a + b) / 2)).toNatClampNeg - (nI a).toNatClampNeg < (nI b).toNatClampNeg - (nI a).toNatClampNeg
          rw [nI_clamp (by omega), nI_clamp (by omega), nI_clamp (by omega)]
          omega
      · rw [if_neg c2]
        simp only [Option.bind_some, nl, nI_add]
        refine ⟨_, rfl, ⟨(a + b) / 2 + 1, b, h + 1, rfl, by omega, hbn, by omega, by omega, fun i h1 => ?_, i2⟩, ?_⟩
        · by_cases e : i = (a + b) / 2
          · rw [e]; omega
          · have := hs i ((a + b) / 2) (by omega) (by omega)
            omega
        · show (nI b).toNatClampNeg - (nI ((a + b) / 2 + 1)).toNatClampNeg < (nI b).toNatClampNeg - (nI a).toNatClampNeg
          rw [nI_clamp (by omega), nI_clamp (by omega), nI_clamp (by omega)]
          omega) (nI 0, nI E.length, nI 0) ⟨0, E.length, 0, rfl, by omega, Nat.le_refl _, by omega, by rw [show (2 : Nat) ^ (31 - 0) = 2147483648 by decide]; omega, fun i h => absurd h (by omega), fun i h1 h2 => by omega⟩
  refine ⟨r, ?_, h1, h2, h3⟩
  unfold Vo_placeOf
  simp (disch := first | assumption | omega | (simp only [gT_sI, gT_sL, gT_sR, gT_sB]; first | assumption | omega)) only [Option.bind_some, ldI_ok, ldL_ok, ldR_ok, ldB_ok, stI_ok, stL_ok, stR_ok, stB_ok, chk_ok, raI_k, raL_k, raR_k, raB_k, waI_k, waL_k, waB_k, waR_k, alen_k, gT_sI, gT_sL, gT_sR, gT_sB, gN_sI, gN_sL, gN_sR, gN_sB, gI_sL, gI_sR, gI_sB, gL_sI, gL_sR, gL_sB, gR_sI, gR_sL, gR_sB, gB_sI, gB_sL, gB_sR, gI_sIs, gL_sLs, gR_sRs, gB_sBs, gI_sIn, gL_sLn, gR_sRn, gB_sBn, rdI_ok, rdL_ok, rdB_ok, wrI_ok, wrL_ok, wrB_ok, h0, q2]
  rw [show (0 : Int32) = nI 0 from rfl, hz]
  rfl
theorem isVoc.t {lo : Nat} {σ : Mem} {v : Nat} {c : Nat → Nat} (h : isVoc lo σ v c) : (gT σ v).1 = 10 := h.choose_spec.choose_spec.choose_spec.1.t
theorem isVoc.E {lo : Nat} {σ : Mem} {v : Nat} {c : Nat → Nat} (h : isVoc lo σ v c) : ∃ E, vocE E c ∧ Vo_size σ v = some (nI E.length) ∧ ∀ i, i < E.length → Vo_termAt σ v (nI i) = some (lN (E.getD i 0)) := by
  obtain ⟨q, r, E, h1, h2, h3, h4, h5, h6, h7⟩ := h
  have t1 := h1.t
  have t2 := h4.t
  have t3 := h4.m
  have hn := h7.1
  refine ⟨E, h7, ?_, fun i hi => ?_⟩
  · unfold Vo_size
    simp (disch := first | assumption | omega | (simp only [gT_sI, gT_sL, gT_sR, gT_sB]; first | assumption | omega)) only [Option.bind_some, ldI_ok, ldL_ok, ldR_ok, ldB_ok, stI_ok, stL_ok, stR_ok, stB_ok, chk_ok, raI_k, raL_k, raR_k, raB_k, waI_k, waL_k, waB_k, waR_k, alen_k, gT_sI, gT_sL, gT_sR, gT_sB, gN_sI, gN_sL, gN_sR, gN_sB, gI_sL, gI_sR, gI_sB, gL_sI, gL_sR, gL_sB, gR_sI, gR_sL, gR_sB, gB_sI, gB_sL, gB_sR, gI_sIs, gL_sLs, gR_sRs, gB_sBs, gI_sIn, gL_sLn, gR_sRn, gB_sBn, rdI_ok, rdL_ok, rdB_ok, wrI_ok, wrL_ok, wrB_ok, h2, t3]
  · unfold Vo_termAt
    simp (disch := first | assumption | omega | (simp only [gT_sI, gT_sL, gT_sR, gT_sB]; first | assumption | omega)) only [Option.bind_some, ldI_ok, ldL_ok, ldR_ok, ldB_ok, stI_ok, stL_ok, stR_ok, stB_ok, chk_ok, raI_k, raL_k, raR_k, raB_k, waI_k, waL_k, waB_k, waR_k, alen_k, gT_sI, gT_sL, gT_sR, gT_sB, gN_sI, gN_sL, gN_sR, gN_sB, gI_sL, gI_sR, gI_sB, gL_sI, gL_sR, gL_sB, gR_sI, gR_sL, gR_sB, gB_sI, gB_sL, gB_sR, gI_sIs, gL_sLs, gR_sRs, gB_sBs, gI_sIn, gL_sLn, gR_sRn, gB_sBn, rdI_ok, rdL_ok, rdB_ok, wrI_ok, wrL_ok, wrB_ok, nl, nI_add, nI_mul, iSub, iEq, iLe, iLt, iEqN, iNEq, iNN, iLtN, iNLt, iLeN, iNLe, iAddN, iNAdd, iMin, iMax, iDiv, iRem, h2, t3, (h6 i hi).1]
    rw [if_neg (by omega), if_neg (by omega)]
theorem Vo_countOf_ok {lo : Nat} {σ : Mem} {v : Nat} {c : Nat → Nat} (h : isVoc lo σ v c) {t : Nat} (ht : t < 9223372036854775808) : Vo_countOf σ v (lN t) = some (nI (if t = 0 then 0 else c t)) := by
  obtain ⟨q, r, E, h1, h2, h3, h4, h5, h6, h7⟩ := h
  have t1 := h1.t
  have t2 := h4.t
  have t3 := h4.m
  have t4 := h5.t
  have t5 := h5.m
  obtain ⟨hn, hs, hm, hc, hb⟩ := h7
  obtain ⟨p, e1, p1, p2, p3⟩ := Vo_placeOf_ok t1 h2 h4.g hn (fun i hi => (h6 i hi).1) hs (fun i hi => hb _ (getD_mem hi)) ht
  unfold Vo_countOf
  rw [chk_ok t1]
  simp only [Option.bind_some]
  rw [e1]
  simp only [Option.bind_some]
  unfold Vo_termAt
  simp (disch := first | assumption | omega | (simp only [gT_sI, gT_sL, gT_sR, gT_sB]; first | assumption | omega)) only [Option.bind_some, ldI_ok, ldL_ok, ldR_ok, ldB_ok, stI_ok, stL_ok, stR_ok, stB_ok, chk_ok, raI_k, raL_k, raR_k, raB_k, waI_k, waL_k, waB_k, waR_k, alen_k, gT_sI, gT_sL, gT_sR, gT_sB, gN_sI, gN_sL, gN_sR, gN_sB, gI_sL, gI_sR, gI_sB, gL_sI, gL_sR, gL_sB, gR_sI, gR_sL, gR_sB, gB_sI, gB_sL, gB_sR, gI_sIs, gL_sLs, gR_sRs, gB_sBs, gI_sIn, gL_sLn, gR_sRn, gB_sBn, rdI_ok, rdL_ok, rdB_ok, wrI_ok, wrL_ok, wrB_ok, nl, nI_add, nI_mul, iSub, iEq, iLe, iLt, iEqN, iNEq, iNN, iLtN, iNLt, iLeN, iNLe, iAddN, iNAdd, iMin, iMax, iDiv, iRem, h2, t3, h3, t5]
  rw [if_neg (by omega)]
  by_cases hp : E.length ≤ p
  · rw [if_pos hp]
    simp only [Option.bind_some]
    have hnot : ∀ i, i < E.length → E.getD i 0 ≠ t := fun i hi => by have := p2 i (by omega); omega
    have h0 : (if t = 0 then 0 else c t) = 0 := by
      by_cases z : t = 0
      · rw [if_pos z]
      · rw [if_neg z]
        apply Nat.eq_zero_of_not_pos
        intro y
        obtain ⟨i, hi, e⟩ := List.getElem_of_mem ((hm t).mpr ⟨z, y⟩)
        apply hnot i hi
        rw [List.getD_eq_getElem?_getD, List.getElem?_eq_getElem hi]
        exact e
    rw [h0]
    simp only [ll]
    simp only [lEq (show 0 < 9223372036854775808 by omega) ht]
    by_cases z : 0 = t
    · rw [if_neg (fun y => y z), if_pos hp]
    · rw [if_pos z]
  · rw [if_neg hp]
    have h8 := h6 p (by omega)
    have hbp := hb _ (getD_mem (d := 0) (show p < E.length by omega))
    simp (disch := first | assumption | omega | (simp only [gT_sI, gT_sL, gT_sR, gT_sB]; first | assumption | omega)) only [Option.bind_some, ldI_ok, ldL_ok, ldR_ok, ldB_ok, stI_ok, stL_ok, stR_ok, stB_ok, chk_ok, raI_k, raL_k, raR_k, raB_k, waI_k, waL_k, waB_k, waR_k, alen_k, gT_sI, gT_sL, gT_sR, gT_sB, gN_sI, gN_sL, gN_sR, gN_sB, gI_sL, gI_sR, gI_sB, gL_sI, gL_sR, gL_sB, gR_sI, gR_sL, gR_sB, gB_sI, gB_sL, gB_sR, gI_sIs, gL_sLs, gR_sRs, gB_sBs, gI_sIn, gL_sLn, gR_sRn, gB_sBn, rdI_ok, rdL_ok, rdB_ok, wrI_ok, wrL_ok, wrB_ok, h8.1, h8.2]
    simp only [lEq (show E.getD p 0 < 9223372036854775808 by omega) ht]
    by_cases z : E.getD p 0 = t
    · have h9 := (hm _).mp (getD_mem (d := 0) (show p < E.length by omega))
      rw [if_neg (fun y => y z), if_neg hp, z, if_neg (by rw [← z]; exact h9.1)]
    · rw [if_pos z]
      have h0 : (if t = 0 then 0 else c t) = 0 := by
        by_cases z0 : t = 0
        · rw [if_pos z0]
        · rw [if_neg z0]
          apply Nat.eq_zero_of_not_pos
          intro y
          obtain ⟨i, hi, e⟩ := List.getElem_of_mem ((hm t).mpr ⟨z0, y⟩)
          have e : E.getD i 0 = t := by
            rw [List.getD_eq_getElem?_getD, List.getElem?_eq_getElem hi]
            exact e
          have h10 := p3 p (Nat.le_refl _) (by omega)
          by_cases h11 : i < p
          · have := p2 i h11
            omega
          · have : i ≠ p := fun y => z (by rw [← y]; exact e)
            have := hs p i (by omega) hi
            omega
      rw [h0]
theorem Vo_hasBetween_ok {lo : Nat} {σ : Mem} {v : Nat} {c : Nat → Nat} (h : isVoc lo σ v c) {a b : Nat} (ha : a < 9223372036854775808) (hbb : b < 9223372036854775808) : ∃ r : Bool, Vo_hasBetween σ v (lN a) (lN b) = some r ∧ (r = true ↔ ∃ t, t ≠ 0 ∧ 0 < c t ∧ a ≤ t ∧ t ≤ b) := by
  obtain ⟨q, r, E, h1, h2, h3, h4, h5, h6, h7⟩ := h
  have t1 := h1.t
  have t2 := h4.t
  have t3 := h4.m
  obtain ⟨hn, hs, hm, hc, hb⟩ := h7
  obtain ⟨p, e1, p1, p2, p3⟩ := Vo_placeOf_ok t1 h2 h4.g hn (fun i hi => (h6 i hi).1) hs (fun i hi => hb _ (getD_mem hi)) ha
  have hget : ∀ t, t ≠ 0 → 0 < c t → ∃ i, i < E.length ∧ E.getD i 0 = t := fun t z0 y => by
    obtain ⟨i, hi, e⟩ := List.getElem_of_mem ((hm t).mpr ⟨z0, y⟩)
    exact ⟨i, hi, by rw [List.getD_eq_getElem?_getD, List.getElem?_eq_getElem hi]; exact e⟩
  unfold Vo_hasBetween
  rw [chk_ok t1]
  simp only [Option.bind_some]
  rw [e1]
  simp (disch := first | assumption | omega | (simp only [gT_sI, gT_sL, gT_sR, gT_sB]; first | assumption | omega)) only [Option.bind_some, ldI_ok, ldL_ok, ldR_ok, ldB_ok, stI_ok, stL_ok, stR_ok, stB_ok, chk_ok, raI_k, raL_k, raR_k, raB_k, waI_k, waL_k, waB_k, waR_k, alen_k, gT_sI, gT_sL, gT_sR, gT_sB, gN_sI, gN_sL, gN_sR, gN_sB, gI_sL, gI_sR, gI_sB, gL_sI, gL_sR, gL_sB, gR_sI, gR_sL, gR_sB, gB_sI, gB_sL, gB_sR, gI_sIs, gL_sLs, gR_sRs, gB_sBs, gI_sIn, gL_sLn, gR_sRn, gB_sBn, rdI_ok, rdL_ok, rdB_ok, wrI_ok, wrL_ok, wrB_ok, nl, nI_add, nI_mul, iSub, iEq, iLe, iLt, iEqN, iNEq, iNN, iLtN, iNLt, iLeN, iNLe, iAddN, iNAdd, iMin, iMax, iDiv, iRem, h2, t3]
  by_cases hp : E.length ≤ p
  · refine ⟨false, by rw [if_pos hp], ⟨fun z => Bool.noConfusion z, ?_⟩⟩
    rintro ⟨t, z0, z1, z2, z3⟩
    obtain ⟨i, hi, rfl⟩ := hget t z0 z1
    have := p2 i (by omega)
    omega
  · rw [if_neg hp]
    have h8 := h6 p (by omega)
    have hbp := hb _ (getD_mem (d := 0) (show p < E.length by omega))
    unfold Vo_termAt
    simp (disch := first | assumption | omega | (simp only [gT_sI, gT_sL, gT_sR, gT_sB]; first | assumption | omega)) only [Option.bind_some, ldI_ok, ldL_ok, ldR_ok, ldB_ok, stI_ok, stL_ok, stR_ok, stB_ok, chk_ok, raI_k, raL_k, raR_k, raB_k, waI_k, waL_k, waB_k, waR_k, alen_k, gT_sI, gT_sL, gT_sR, gT_sB, gN_sI, gN_sL, gN_sR, gN_sB, gI_sL, gI_sR, gI_sB, gL_sI, gL_sR, gL_sB, gR_sI, gR_sL, gR_sB, gB_sI, gB_sL, gB_sR, gI_sIs, gL_sLs, gR_sRs, gB_sBs, gI_sIn, gL_sLn, gR_sRn, gB_sBn, rdI_ok, rdL_ok, rdB_ok, wrI_ok, wrL_ok, wrB_ok, nl, nI_add, nI_mul, iSub, iEq, iLe, iLt, iEqN, iNEq, iNN, iLtN, iNLt, iLeN, iNLe, iAddN, iNAdd, iMin, iMax, iDiv, iRem, h2, t3, h8.1]
    rw [if_neg (by omega), if_neg hp]
    simp only [Option.bind_some, lLt hbb (show E.getD p 0 < 9223372036854775808 by omega)]
    have h10 := p3 p (Nat.le_refl _) (by omega)
    by_cases z : b < E.getD p 0
    · refine ⟨false, by rw [if_pos z], ⟨fun z => Bool.noConfusion z, ?_⟩⟩
      rintro ⟨t, z0, z1, z2, z3⟩
      obtain ⟨i, hi, rfl⟩ := hget t z0 z1
      by_cases h11 : i < p
      · have := p2 i h11
        omega
      · by_cases e : i = p
        · subst e; omega
        · have := hs p i (by omega) hi
          omega
    · refine ⟨true, by rw [if_neg z], ⟨fun _ => ?_, fun _ => rfl⟩⟩
      have h9 := (hm _).mp (getD_mem (d := 0) (show p < E.length by omega))
      exact ⟨_, h9.1, h9.2, h10, by omega⟩
theorem tpA.kp {σ σ' : Mem} {a : Nat} {tp : Nat → Nat} {W : Nat → Nat → Nat → Prop} (h : tpA σ a tp) (hk : Kp W σ σ') (ha : a < gN σ) (hw : ∀ k, ¬ W 0 a k) : tpA σ' a tp :=
  ⟨by rw [hk.T ha]; exact h.1, by rw [hk.T ha]; exact h.2.1, fun i hi => by rw [hk.I ha (hw i)]; exact h.2.2 i hi⟩
/-- the speller and its row lie below N -/
def spB (σ : Mem) (s : Nat) : Prop := s < gN σ ∧ ∀ q, gR σ s 2 = some q → q < gN σ
theorem isSp.kp {σ σ' : Mem} {s : Nat} {st sp : Bool} {W : Nat → Nat → Nat → Prop} (h : isSp σ s st sp) (hk : Kp W σ σ') (hs : spB σ s) (h1 : ∀ t k, t ≠ 0 → ¬ W t s k) (h2 : ∀ q k, gR σ s 2 = some q → ¬ W 1 q k) : isSp σ' s st sp ∧ spB σ' s := by
  obtain ⟨a, b, c, q, d, e, f, g⟩ := h
  have hq := hs.2 q d
  have hn := hk.1
  have r : gR σ' s 2 = gR σ s 2 := hk.R hs.1 (h1 _ _ (by decide))
  refine ⟨⟨by rw [hk.T hs.1]; exact a, by rw [hk.B hs.1 (h1 _ _ (by decide))]; exact b, by rw [hk.B hs.1 (h1 _ _ (by decide))]; exact c, q, by rw [r]; exact d, by rw [hk.T hq]; exact e, by rw [hk.T hq]; exact f, fun i hi => by rw [hk.L hq (h2 q i d)]; exact g i hi⟩, Nat.lt_of_lt_of_le hs.1 hn, fun q' hq' => ?_⟩
  rw [r] at hq'
  exact Nat.lt_of_lt_of_le (hs.2 q' hq') hn
theorem tA_drop {ts l : List Tok} {t : Tok} {c : Nat} (h : ts.drop c = t :: l) : tA ts c = t := (drop_cons h).2.1
def wTx (g : Nat) : Nat → Nat → Nat → Prop := fun t c _ => (t = 0 ∧ (c = g ∨ c = g + 1)) ∨ (t = 1 ∧ c = g + 2)
theorem Te_init_ok {lo : Nat} {σ : Mem} {th x s : Nat} {st sp : Bool} {tp : Nat → Nat} (hlo : lo ≤ gN σ) (hth : hp lo σ th 8 0) (hx : tpA σ x tp) (hxN : x < gN σ) (hs : isSp σ s st sp) (hsB : spB σ s) (hst : th ≠ s) {a b : Nat} (ha : a ≤ b) (hb : b ≤ 600) : ∃ σ', Te_init σ th (some x) (nI a) (nI b) (some s) = some σ' ∧ Kp (fun t c _ => t = 2 ∧ c = th) σ σ' ∧ gN σ' = gN σ + 7 ∧ gU σ' ≤ gU σ + 3000 ∧ isText lo σ' th (toks st sp tp a b) := by
  have hlen := toks_len (st := st) (sp := sp) (tp := tp) ha
  have htp : ∀ i, i < 600 → tp i < 256 := fun i hi => (hx.2.2 i hi).1
  have hok := toks_ok (st := st) (sp := sp) htp hb ha
  have hN := hth.2.1
  have tth : (gT σ th).1 = 8 := hth.t
  unfold Te_init
  rw [Te_countTokens_ok (st := st) (sp := sp) hx ha hb]
  simp only [Option.bind_some]
  generalize hTS : toks st sp tp a b = ts at *
  generalize hn : ts.length = n at *
  rw [nwA_ok (by omega)]
  simp only [Option.bind_some]
  rw [stR_ok (by rw [gT_nw, if_neg (by omega)]; exact tth)]
  simp only [Option.bind_some]
  rw [nwA_ok (by omega)]
  simp only [Option.bind_some]
  rw [stR_ok (by rw [gT_nw, gT_sR, gN_sR, gN_nw, if_neg (by omega), gT_nw, if_neg (by omega)]; exact tth)]
  simp only [Option.bind_some]
  rw [nwA_ok (by omega)]
  simp only [Option.bind_some, gN_sR, gN_nw]
  rw [stR_ok (by rw [gT_nw, gT_sR, gN_sR, gN_nw, gN_sR, gN_nw, if_neg (by omega), gT_nw, gT_sR, gN_sR, gN_nw, if_neg (by omega), gT_nw, if_neg (by omega)]; exact tth)]
  simp only [Option.bind_some]
  generalize hσ3 : sR (nw (sR (nw (sR (nw σ (100 + 0, n) n) th 0 (some (gN σ))) (100 + 0, n) n) th 1 (some (gN σ + 1))) (100 + 1, n) n) th 2 (some (gN σ + 1 + 1)) = σ3
  have n3 : gN σ3 = gN σ + 3 := by rw [← hσ3]; simp only [gN_sR, gN_nw]
  have u3 : gU σ3 = gU σ + n + n + n := by rw [← hσ3]; simp only [gU_sR, gU_nw]
  have k3 : Kp (fun t c _ => t = 2 ∧ c = th) σ σ3 := by
    rw [← hσ3]
    refine Kp.tr (W := fun t c _ => t = 2 ∧ c = th) ?_ (Kp.sR (W := fun t c _ => t = 2 ∧ c = th) ⟨rfl, rfl⟩) (fun _ _ _ _ z => z)
    refine Kp.tr (W := fun t c _ => t = 2 ∧ c = th) ?_ (Kp.nw (W := fun t c _ => t = 2 ∧ c = th)) (fun _ _ _ _ z => z)
    refine Kp.tr (W := fun t c _ => t = 2 ∧ c = th) ?_ (Kp.sR (W := fun t c _ => t = 2 ∧ c = th) ⟨rfl, rfl⟩) (fun _ _ _ _ z => z)
    refine Kp.tr (W := fun t c _ => t = 2 ∧ c = th) ?_ (Kp.nw (W := fun t c _ => t = 2 ∧ c = th)) (fun _ _ _ _ z => z)
    refine Kp.tr (W := fun t c _ => t = 2 ∧ c = th) ?_ (Kp.sR (W := fun t c _ => t = 2 ∧ c = th) ⟨rfl, rfl⟩) (fun _ _ _ _ z => z)
    exact Kp.nw
  have ta : gT σ3 (gN σ) = (100, n) := by
    rw [← hσ3]; simp only [gT_sR, gT_nw, gN_sR, gN_nw]; rw [if_neg (by omega), if_neg (by omega)]; simp only [if_true]
  have tb : gT σ3 (gN σ + 1) = (100, n) := by
    rw [← hσ3]; simp only [gT_sR, gT_nw, gN_sR, gN_nw]; rw [if_neg (by omega)]; simp only [if_true]
  have tc : gT σ3 (gN σ + 2) = (101, n) := by
    rw [← hσ3]; simp only [gT_sR, gT_nw, gN_sR, gN_nw]; simp only [if_true]
  have ra : gR σ3 th 0 = some (gN σ) := by
    rw [← hσ3, gR_sRn (by omega), gR_nw, gN_sR, gN_nw, gN_sR, gN_nw, if_neg (by omega), gR_sRn (by omega), gR_nw, gN_sR, gN_nw, if_neg (by omega), gR_sRs]
  have rb : gR σ3 th 1 = some (gN σ + 1) := by
    rw [← hσ3, gR_sRn (by omega), gR_nw, gN_sR, gN_nw, gN_sR, gN_nw, if_neg (by omega), gR_sRs]
  have rc : gR σ3 th 2 = some (gN σ + 2) := by
    rw [← hσ3, gR_sRs]
  clear hσ3
  obtain ⟨z, hz, f1, f2, f3, f4⟩ : ∃ z, lp (fun q : Int32 × Int32 × Mem => Te_init_l42 q.2.2 th (some x) (nI a) (nI b) (some s) (nI n) q.1 q.2.1) (nI a, nI 0, σ3) = some z ∧ (Kp (wTx (gN σ)) σ3 z ∧ gN z = gN σ3 ∧ gU z = gU σ3 ∧ ∀ k, k < n → gI z (gN σ) k = nI (tA ts k).1 ∧ gI z (gN σ + 1) k = nI (tA ts k).2.1 ∧ gL z (gN σ + 2) k = lN (enc (tA ts k).2.2)) := by
    refine lp_inv (fun q => ∃ c p Q, q = (nI p, nI c, Q) ∧ p ≤ b ∧ a ≤ p ∧ c ≤ n ∧ ts.drop c = tk st sp tp a b p ∧ Kp (wTx (gN σ)) σ3 Q ∧ gN Q = gN σ3 ∧ gU Q = gU σ3 ∧ ∀ k, k < c → gI Q (gN σ) k = nI (tA ts k).1 ∧ gI Q (gN σ + 1) k = nI (tA ts k).2.1 ∧ gL Q (gN σ + 2) k = lN (enc (tA ts k).2.2)) (fun q => n - q.2.1.toNatClampNeg) _ ?_ _ ⟨0, a, σ3, rfl, ha, Nat.le_refl _, by omega, by rw [← hTS]; rfl, Kp.rf, rfl, rfl, fun k hk => absurd hk (by omega)⟩
    rintro q ⟨c, p, Q, rfl, hp, hap, hcn, hdr, y1, y2, y3, y4⟩
    unfold Te_init_l42
    simp only [iLe (show n < 2147483648 by omega) (show c < 2147483648 by omega)]
    by_cases cc : n ≤ c
    · right
      rw [if_pos cc]
      exact ⟨_, rfl, y1, y2, y3, fun k hk => y4 k (by omega)⟩
    · left
      rw [if_neg cc]
      rw [tk_eq hp] at hdr
      have h1 := wS_b (tp := tp) hp
      have h2 : wS tp p b < b := by
        apply Classical.byContradiction
        intro q
        rw [if_neg q] at hdr
        have := drop_nil hdr
        omega
      rw [if_pos h2] at hdr
      obtain ⟨d1, d2, d3⟩ := drop_cons hdr
      have h5 := wE_b (tp := tp) h1.2
      have kQ : Kp (fun t c _ => t = 2 ∧ c = th) σ Q := Kp.tr k3 y1 (fun t a' k ha' z => by unfold wTx at z; omega)
      have tthQ : (gT Q th).1 = 8 := by rw [kQ.T hN]; exact tth
      have hxQ : tpA Q x tp := hx.kp kQ hxN (fun k z => by omega)
      have hsQ := hs.kp kQ hsB (fun t k _ z => by omega) (fun q k _ z => by omega)
      have ra' : gR Q th 0 = some (gN σ) := by rw [y1.R (by omega) (by unfold wTx; omega)]; exact ra
      have rb' : gR Q th 1 = some (gN σ + 1) := by rw [y1.R (by omega) (by unfold wTx; omega)]; exact rb
      have rc' : gR Q th 2 = some (gN σ + 2) := by rw [y1.R (by omega) (by unfold wTx; omega)]; exact rc
      have ta1 : (gT Q (gN σ)).1 = 100 + 0 := by rw [y1.T (by omega), ta]
      have ta2 : (gT Q (gN σ)).2 = n := by rw [y1.T (by omega), ta]
      have tb1 : (gT Q (gN σ + 1)).1 = 100 + 0 := by rw [y1.T (by omega), tb]
      have tb2 : (gT Q (gN σ + 1)).2 = n := by rw [y1.T (by omega), tb]
      have tc1 : (gT Q (gN σ + 2)).1 = 100 + 1 := by rw [y1.T (by omega), tc]
      have tc2 : (gT Q (gN σ + 2)).2 = n := by rw [y1.T (by omega), tc]
      rw [Sp_wordStart_ok hxQ hp hb]
      simp only [Option.bind_some]
      rw [Sp_wordEnd_ok hxQ h1.2 hb]
      have hsp7 : (gT Q s).1 = 7 := hsQ.1.1
      simp only [Option.bind_some]
      simp (disch := omega) only [nl, nI_add, nI_mul, iSub, iEq, iLe, iLt, iEqN, iNEq, iNN, iLtN, iNLt, iLeN, iNLe, iAddN, iNAdd, iMin, iMax, iDiv, iRem]
      simp (disch := first | assumption | omega | (simp only [gT_sI, gT_sL, gT_sR, gT_sB]; first | assumption | omega)) only [Option.bind_some, ldI_ok, ldL_ok, ldR_ok, ldB_ok, stI_ok, stL_ok, stR_ok, stB_ok, chk_ok, raI_k, raL_k, raR_k, raB_k, waI_k, waL_k, waB_k, waR_k, alen_k, gT_sI, gT_sL, gT_sR, gT_sB, gN_sI, gN_sL, gN_sR, gN_sB, gI_sL, gI_sR, gI_sB, gL_sI, gL_sR, gL_sB, gR_sI, gR_sL, gR_sB, gB_sI, gB_sL, gB_sR, gI_sIs, gL_sLs, gR_sRs, gB_sBs, gI_sIn, gL_sLn, gR_sRn, gB_sBn, rdI_ok, rdL_ok, rdB_ok, wrI_ok, wrL_ok, wrB_ok, ra', rb', rc', ta2, tb2]
      have hxQ2 : tpA (sI (sI Q (gN σ) c (nI (wS tp p b - a))) (gN σ + 1) c (nI (wE tp (wS tp p b) b - wS tp p b))) x tp := by
        refine ⟨hxQ.1, hxQ.2.1, fun i hi => ?_⟩
        rw [gI_sIn (by omega), gI_sIn (by omega)]
        exact hxQ.2.2 i hi
      have hsQ2 : isSp (sI (sI Q (gN σ) c (nI (wS tp p b - a))) (gN σ + 1) c (nI (wE tp (wS tp p b) b - wS tp p b))) s st sp := hsQ.1
      rw [Sp_termOf_ok hsQ2 hxQ2 (by omega) (wd_of htp hb h1.2)]
      simp (disch := first | assumption | omega | (simp only [gT_sI, gT_sL, gT_sR, gT_sB]; first | assumption | omega)) only [Option.bind_some, ldI_ok, ldL_ok, ldR_ok, ldB_ok, stI_ok, stL_ok, stR_ok, stB_ok, chk_ok, raI_k, raL_k, raR_k, raB_k, waI_k, waL_k, waB_k, waR_k, alen_k, gT_sI, gT_sL, gT_sR, gT_sB, gN_sI, gN_sL, gN_sR, gN_sB, gI_sL, gI_sR, gI_sB, gL_sI, gL_sR, gL_sB, gR_sI, gR_sL, gR_sB, gB_sI, gB_sL, gB_sR, gI_sIs, gL_sLs, gR_sRs, gB_sBs, gI_sIn, gL_sLn, gR_sRn, gB_sBn, rdI_ok, rdL_ok, rdB_ok, wrI_ok, wrL_ok, wrB_ok, tc2]
      refine ⟨_, rfl, ⟨c + 1, _, _, rfl, h5.2, by omega, by omega, d3, ?_, y2, y3, fun k hk => ?_⟩, ?_⟩
      · refine Kp.tr (W := wTx (gN σ)) ?_ (Kp.sL (W := wTx (gN σ)) (Or.inr ⟨rfl, rfl⟩)) (fun _ _ _ _ z => z)
        refine Kp.tr (W := wTx (gN σ)) ?_ (Kp.sI (W := wTx (gN σ)) (Or.inl ⟨rfl, Or.inr rfl⟩)) (fun _ _ _ _ z => z)
        exact Kp.tr y1 (Kp.sI (W := wTx (gN σ)) (Or.inl ⟨rfl, Or.inl rfl⟩)) (fun _ _ _ _ z => z)
      · by_cases e : k = c
        · subst e
          rw [d2]
          refine ⟨?_, ?_, ?_⟩
          · rw [gI_sL, gI_sIn (by omega), gI_sIs]
          · rw [gI_sL, gI_sIs]
          · rw [gL_sLs]
        · obtain ⟨v1, v2, v3⟩ := y4 k (by omega)
          refine ⟨?_, ?_, ?_⟩
          · rw [gI_sL, gI_sIn (by omega), gI_sIn (by omega)]; exact v1
          · rw [gI_sL, gI_sIn (by omega), gI_sIn (by omega)]; exact v2
          · rw [gL_sLn (by omega)]; exact v3
      · show n - (nI (c + 1)).toNatClampNeg < n - (nI c).toNatClampNeg
        rw [nI_clamp (by omega), nI_clamp (by omega)]
        omega
  rw [show (0 : Int32) = nI 0 from rfl, hz]
  simp only [Option.bind_some]
  have kz : Kp (fun t c _ => t = 2 ∧ c = th) σ z := Kp.tr k3 f1 (fun t a' k ha' z => by unfold wTx at z; omega)
  have rc' : gR z th 2 = some (gN σ + 2) := by rw [f1.R (by omega) (by unfold wTx; omega)]; exact rc
  have ra' : gR z th 0 = some (gN σ) := by rw [f1.R (by omega) (by unfold wTx; omega)]; exact ra
  have rb' : gR z th 1 = some (gN σ + 1) := by rw [f1.R (by omega) (by unfold wTx; omega)]; exact rb
  have ta' : gT z (gN σ) = (100, n) := by rw [f1.T (by omega), ta]
  have tb' : gT z (gN σ + 1) = (100, n) := by rw [f1.T (by omega), tb]
  have tc' : gT z (gN σ + 2) = (101, n) := by rw [f1.T (by omega), tc]
  have tz : gT z th = (8, 0) := by rw [kz.T hN]; exact hth.2.2
  have hN4 : gN (nwO z 10) = gN σ + 4 := by rw [nwO, gN_nw]; omega
  have hU4 : gU (nwO z 10) = gU σ + n + n + n + 2 := by rw [nwO, gU_nw]; show gU z + 2 = _; omega
  have k4 : Kp (fun _ _ _ => False) z (nwO z 10) := Kp.nw
  rw [ldR_ok (by rw [k4.T (by omega), tz]), k4.R (by omega) (fun z => z), rc']
  simp only [Option.bind_some]
  have e5 : nwK (nwO z 10) (some (gN σ + 2)) = some (nwC (nwO z 10) (gN σ + 2)) := by
    unfold nwK
    simp only [Option.bind_some]
    rw [if_pos (by rw [k4.T (by omega), tc'])]
  rw [e5]
  simp only [Option.bind_some, hN4]
  have k5 : Kp (fun _ _ _ => False) (nwO z 10) (nwC (nwO z 10) (gN σ + 2)) := Kp.nwC
  generalize hσ5 : nwC (nwO z 10) (gN σ + 2) = σ5 at *
  have hN5 : gN σ5 = gN σ + 5 := by rw [← hσ5, gN_nwC]; omega
  have hU5 : gU σ5 = gU σ + n + n + n + 2 + n := by rw [← hσ5, gU_nwC, k4.T (by omega), tc', hU4]
  have hv : hp lo σ5 (gN z) 10 0 := ⟨by omega, by omega, by
    rw [k5.T (by omega), nwO, gT_nw, if_pos rfl]⟩
  have hr : hp lo σ5 (gN σ + 4) 101 n := ⟨by omega, by omega, by
    rw [← hσ5, gT_nwC, if_pos (by omega), k4.T (by omega), tc']⟩
  have hrow : hL σ5 (gN σ + 4) n (fun k => enc (tA ts k).2.2) := fun k hk => by
    rw [← hσ5, gL_nwC, if_pos (by omega), k4.L (by omega) (fun z => z)]
    exact (f4 k hk).2.2
  have htm : ∀ k, k < n → isTerm (tA ts k).2.2 := fun k hk => (hok _ (getD_mem (by omega))).2.2
  obtain ⟨σ6, e6, k6, n6, u6, v6⟩ := Vo_init_ok (lo := lo) (by omega) hv hr (by omega) hrow (fun k hk => enc_lt (htm k hk).1)
  rw [e6]
  simp only [Option.bind_some]
  have kz6 : Kp (wVo (gN z) (gN σ + 4)) z σ6 := Kp.tr (Kp.tr (k4.mono (fun _ _ _ _ q => q.elim)) k5 (fun _ _ _ _ q => q.elim)) k6 (fun _ _ _ _ q => q)
  have w6 : ∀ t c k, c < gN σ + 3 → ¬ wVo (gN z) (gN σ + 4) t c k := fun t c k hc q => by unfold wVo at q; omega
  rw [stR_ok (by rw [kz6.T (by omega), tz])]
  have kall : Kp (fun t c _ => t = 2 ∧ c = th) σ (sR σ6 th 3 (some (gN z))) := by
    refine Kp.tr (W := fun t c _ => t = 2 ∧ c = th) ?_ (Kp.sR (W := fun t c _ => t = 2 ∧ c = th) ⟨rfl, rfl⟩) (fun _ _ _ _ z => z)
    exact Kp.tr kz kz6 (fun t a' k ha' q => absurd q (w6 t a' k (by omega)))
  have k7 : Kp (fun t c _ => t = 2 ∧ c = th) σ6 (sR σ6 th 3 (some (gN z))) := Kp.sR ⟨rfl, rfl⟩
  have hw7 : Wh lo σ6 (fun t c _ => t = 2 ∧ c = th) ∨ True := Or.inr trivial
  refine ⟨_, rfl, kall, by rw [gN_sR]; omega, by rw [gU_sR]; omega, gN σ, gN σ + 1, gN σ + 2, gN z, hth.kp kall, ?_, ?_, ?_, gR_sRs _ _ _ _, ?_, ?_, ?_, fun k hk => ?_, ?_⟩
  · rw [gR_sRn (by omega), kz6.R (by omega) (w6 _ _ _ (by omega))]; exact ra'
  · rw [gR_sRn (by omega), kz6.R (by omega) (w6 _ _ _ (by omega))]; exact rb'
  · rw [gR_sRn (by omega), kz6.R (by omega) (w6 _ _ _ (by omega))]; exact rc'
  · exact ⟨by omega, by rw [gN_sR]; omega, by rw [gT_sR, kz6.T (by omega), ta', hn]⟩
  · exact ⟨by omega, by rw [gN_sR]; omega, by rw [gT_sR, kz6.T (by omega), tb', hn]⟩
  · exact ⟨by omega, by rw [gN_sR]; omega, by rw [gT_sR, kz6.T (by omega), tc', hn]⟩
  · rw [gI_sR, gL_sR, kz6.I (by omega) (w6 _ _ _ (by omega)), kz6.I (by omega) (w6 _ _ _ (by omega)), kz6.L (by omega) (w6 _ _ _ (by omega))]
    exact f4 k (by omega)
  · obtain ⟨q, r, E, h1, h2, h3, h4, h5, h6, h7⟩ := v6
    have hcc : (fun t => cN (fun k => decide (enc (tA ts k).2.2 = t)) n) = tcn ts := by
      funext t
      unfold tcn
      rw [hn]
    rw [hcc] at h6 h7
    refine ⟨q, r, E, h1, ?_, ?_, h4, h5, h6, h7⟩
    · rw [gR_sRn (by omega)]; exact h2
    · rw [gR_sRn (by omega)]; exact h3
