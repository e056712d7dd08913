/-! the reference's parser: numbers, ranges, fields -/
def wFl : Nat → Nat → Nat → Prop := fun t c j => t = 0 ∧ c = 0 ∧ 40 ≤ j ∧ j ≤ 45
theorem wRd_wFl : ∀ t c j, wRd t c j → wFl t c j := fun t c j z => by unfold wRd at z; unfold wFl; omega
theorem rp_fl {R : RS} {v : Int32} : Rp wFl R (pI R 45 v) := Rp.pI ⟨rfl, rfl, by decide, by decide⟩
theorem fl45 {R : RS} {v : Int32} : (pI R 45 v).1 0 45 = v := by simp only [pI, pL, pB, up2_s, up2_ne]
theorem nI_n1 {a : Nat} (h : a < 2147483648) : nI a ≠ -1 := fun z => by
  have e : (nI a = -nI 1) = False := iEqN h (by omega)
  have z : nI a = -nI 1 := z
  rw [e] at z
  exact z
theorem big_word {b : Nat} (h : isL b = true) (h2 : ¬ (48 ≤ b ∧ b ≤ 57)) : 57 < b := by
  unfold isL at h
  rw [decide_eq_true_eq] at h
  unfold sgn at h
  repeat' split at h
  all_goals omega
theorem M_digit_ok {R : RS} {tp : Nat → Nat} {n i lo : Nat} {st sp : Bool} (h : rEnv R tp n st sp) (hc : rPc R tp n i) (hlo : lo < 2) : (∃ v R', qNum tp n 1 i = some v ∧ lo ≤ v ∧ M_digit R (nI lo) = some (nI v, R') ∧ Rp wRd R R' ∧ rPc R' tp n (pE tp n i) ∧ rEnv R' tp n st sp) ∨ ((∀ v, qNum tp n 1 i = some v → v < lo) ∧ M_digit R (nI lo) = some (0, pI R 45 (nI (pS tp n i)))) := by
  have hk := h.k hc.1
  have hf := M_fails_ok h
  have hn := h.1
  obtain ⟨R', e1, g1, c1, h1⟩ := rdv h hc
  obtain ⟨hi, d0, d1, d2, d3⟩ := hc
  have hb := pE_b (tp := tp) hi
  unfold M_digit
  rw [d0, d1, d2, e1, hf, show (1 : Int32) = nI 1 from rfl, d1]
  simp only [rk_1 hk]
  by_cases k : pK tp n i = 256
  · obtain ⟨w1, w2, w3, -⟩ := pW_w h.tp hn hi k
    rw [if_neg (fun z => z k), if_pos k]
    have e1' : (nI (pE tp n i - pS tp n i) = nI 1) = (pE tp n i - pS tp n i = 1) := iEq (by omega) (by omega)
    simp only [e1']
    by_cases c : pE tp n i - pS tp n i = 1
    · rw [if_neg (fun z => z c)]
      obtain ⟨u1, u2⟩ := h.2.1 (pS tp n i) (by omega)
      have hl := (w1 0 (by omega)).2
      rw [Nat.add_zero] at hl
      rw [rdI_ok (by omega) (by omega), u2]
      simp only [Option.bind_some]
      rw [M_in_ok]
      simp only [Option.bind_some]
      have hlt := isL_lt hl
      have hge : 48 ≤ tp (pS tp n i) := by
        by_cases z : 48 ≤ tp (pS tp n i) ∧ tp (pS tp n i) ≤ 57
        · exact z.1
        · have := big_word hl z
          omega
      rw [show (48 : Int32) = nI 48 from rfl, show (9 : Int32) = nI 9 from rfl, iSub (by omega)]
      simp (disch := omega) only [iLe]
      by_cases z : tp (pS tp n i) ≤ 57
      · have hq : qNum tp n 1 i = some (tp (pS tp n i) - 48) := by
          unfold qNum
          rw [if_pos ⟨k, by omega, fun j hj => by rw [show j = 0 by omega, Nat.add_zero]; omega⟩, c]
          show some (0 * 10 + (tp (pS tp n i + 0) - 48)) = _
          rw [Nat.add_zero, Nat.zero_mul, Nat.zero_add]
        by_cases y : lo ≤ tp (pS tp n i) - 48
        · left
          rw [decide_eq_true ⟨y, by omega⟩]
          exact ⟨_, R', hq, y, rfl, g1, c1, h1⟩
        · right
          rw [decide_eq_false (fun x => y x.1)]
          refine ⟨fun v hv => ?_, rfl⟩
          rw [hq] at hv
          cases hv
          omega
      · right
        rw [decide_eq_false (fun x => by omega)]
        refine ⟨fun v hv => ?_, rfl⟩
        unfold qNum at hv
        rw [if_neg (fun x => by have := x.2.2 0 (by omega); rw [Nat.add_zero] at this; omega)] at hv
        cases hv
    · right
      rw [if_pos c]
      refine ⟨fun v hv => ?_, ?_⟩
      · unfold qNum at hv
        rw [if_neg (fun x => by omega)] at hv
        cases hv
      · simp only [Option.bind_some]
        rw [M_in_ok]
        have : ¬ (nI lo ≤ -nI 1 ∧ -nI 1 ≤ (9 : Int32)) := fun x => by
          have := iLeN (a := lo) (b := 1) (by omega) (by decide)
          rw [this] at x
          exact x.1
        rw [decide_eq_false this]
        rfl
  · right
    rw [if_pos k]
    refine ⟨fun v hv => ?_, ?_⟩
    · unfold qNum at hv
      rw [if_neg (fun x => k x.1)] at hv
      cases hv
    · simp only [Option.bind_some]
      rw [M_in_ok]
      have : ¬ (nI lo ≤ -nI 1 ∧ -nI 1 ≤ (9 : Int32)) := fun x => by
        have := iLeN (a := lo) (b := 1) (by omega) (by decide)
        rw [this] at x
        exact x.1
      rw [decide_eq_false this]
      rfl
