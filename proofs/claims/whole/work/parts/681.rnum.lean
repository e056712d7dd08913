/-! the reference: numbers of ranges -/
theorem M_number_ok {R : RS} {tp : Nat → Nat} {n i : Nat} {st sp : Bool} (h : rEnv R tp n st sp) (hc : rPc R tp n i) : match qInt tp n i with
    | .inl p => ∃ R', M_number R = some (0, R') ∧ R'.1 0 45 = nI p ∧ p < 1000 ∧ Rp wFl R R'
    | .inr (j, a) => ∃ R', M_number R = some (a, R') ∧ Rp wRd R R' ∧ rPc R' tp n j ∧ rEnv R' tp n st sp := by
  have hk := h.k hc.1
  have hn := h.1
  have e45 : (if ¬ nI (rk (pK tp n i)) = 45 then some (0 : Int32) else some 1) = some (nI (if pK tp n i = 45 then 1 else 0)) := by
    rw [show (45 : Int32) = nI 45 from rfl]
    simp only [rk_c hk (c := 45) (by decide)]
    by_cases c : pK tp n i = 45
    · rw [if_neg (fun z => z c), if_pos c]; rfl
    · rw [if_pos c, if_neg c]; rfl
  obtain ⟨m0, f0, g0, c0, h0⟩ : ∃ m, (if nI (if pK tp n i = 45 then 1 else 0) = 0 then some R else (M_read R).bind fun v5 => some v5) = some m ∧ Rp wRd R m ∧ rPc m tp n (if pK tp n i = 45 then pE tp n i else i) ∧ rEnv m tp n st sp := by
    by_cases c : pK tp n i = 45
    · simp only [c, if_true]
      rw [if_neg (by decide)]
      obtain ⟨m, q1, q2, q3, q4⟩ := rdv h hc
      rw [q1]
      exact ⟨m, rfl, q2, q3, q4⟩
    · simp only [c, if_false]
      rw [if_pos (by decide)]
      exact ⟨R, rfl, Rp.rf, hc, h⟩
  have hk0 := h0.k c0.1
  have hf := M_fails_ok h0
  obtain ⟨R1, e1, g1, c1, h1⟩ := rdv h0 c0
  have hb := pE_b (tp := tp) c0.1
  unfold M_number qInt
  rw [hc.2.1, e45]
  simp only [Option.bind_some]
  rw [f0]
  simp only [Option.bind_some]
  rw [c0.2.1, c0.2.2.2.1]
  generalize hj : (if pK tp n i = 45 then pE tp n i else i) = j at *
  have e9 : (if ¬ nI (rk (pK tp n j)) = 1 then some false else if 9 < nI (if pK tp n j = 256 then pE tp n j - pS tp n j else 0) then some false else some true) = some (decide (pK tp n j = 256 ∧ pE tp n j - pS tp n j ≤ 9)) := by
    rw [show (1 : Int32) = nI 1 from rfl, show (9 : Int32) = nI 9 from rfl]
    simp only [rk_1 hk0]
    by_cases c : pK tp n j = 256
    · rw [if_neg (fun z => z c), if_pos c]
      have : (nI 9 < nI (pE tp n j - pS tp n j)) = (9 < pE tp n j - pS tp n j) := iLt (by omega) (by omega)
      simp only [this]
      by_cases c2 : 9 < pE tp n j - pS tp n j
      · rw [if_pos c2, decide_eq_false (fun z => by omega)]
      · rw [if_neg c2, decide_eq_true ⟨c, by omega⟩]
    · rw [if_pos c, decide_eq_false (fun z => c z.1)]
  rw [e9]
  simp only [Option.bind_some]
  have hlp : ∃ b : Int32 × Bool, lp (fun q : Int32 × Bool × Int32 => M_number_l51 m0 (nI (if pK tp n i = 45 then 1 else 0)) q.1 q.2.1 q.2.2) (0, decide (pK tp n j = 256 ∧ pE tp n j - pS tp n j ≤ 9), 0) = some b ∧ b.2 = (qNum tp n 9 j).isSome ∧ ∀ v, qNum tp n 9 j = some v → b.1 = nI v := by
    by_cases c : pK tp n j = 256 ∧ pE tp n j - pS tp n j ≤ 9
    · rw [decide_eq_true c]
      obtain ⟨k, cl⟩ := c
      obtain ⟨w1, w2, w3, -⟩ := pW_w h.tp hn c0.1 k
      have hsz : m0.1 0 42 = nI (pE tp n j - pS tp n j) := by rw [c0.2.2.2.1, if_pos k]
      have hq : qNum tp n 9 j = if ∀ i, i < pE tp n j - pS tp n j → 48 ≤ tp (pS tp n j + i) ∧ tp (pS tp n j + i) ≤ 57 then some (nV tp (pS tp n j) (pE tp n j - pS tp n j)) else none := by
        unfold qNum
        by_cases z : ∀ i, i < pE tp n j - pS tp n j → 48 ≤ tp (pS tp n j + i) ∧ tp (pS tp n j + i) ≤ 57
        · rw [if_pos ⟨k, cl, z⟩, if_pos z]
        · rw [if_neg (fun y => z y.2.2), if_neg z]
      rw [hq]
      generalize hs : pS tp n j = s at *
      generalize hlen : pE tp n j - s = len at *
      have := lp_for (f := fun q : Int32 × Bool × Int32 => M_number_l51 m0 (nI (if pK tp n i = 45 then 1 else 0)) q.1 q.2.1 q.2.2) (fun (k : Nat) (x : Int32 × Bool) => (x.1, x.2, nI k)) len (fun k x => (x = (nI (nV tp s k), true) ∧ ∀ i, i < k → 48 ≤ tp (s + i) ∧ tp (s + i) ≤ 57) ∨ (x.2 = false ∧ ¬ ∀ i, i < len → 48 ≤ tp (s + i) ∧ tp (s + i) ≤ 57)) (fun b => (b = (nI (nV tp s len), true) ∧ ∀ i, i < len → 48 ≤ tp (s + i) ∧ tp (s + i) ≤ 57) ∨ (b.2 = false ∧ ¬ ∀ i, i < len → 48 ≤ tp (s + i) ∧ tp (s + i) ≤ 57)) (fun k x hk2 hI => ?_) (fun x hI => ?_) len 0 (0, true) (by omega) (.inl ⟨rfl, fun i hi => absurd hi (Nat.not_lt_zero _)⟩)
      · obtain ⟨b, q1, q2⟩ := this
        refine ⟨b, q1, ?_⟩
        rcases q2 with ⟨rfl, q3⟩ | ⟨q2, q3⟩
        · rw [if_pos q3]
          exact ⟨rfl, fun v hv => by cases hv; rfl⟩
        · rw [if_neg q3]
          exact ⟨q2, fun v hv => by cases hv⟩
      · rcases hI with ⟨rfl, hI⟩ | ⟨hx, hI⟩
        · left
          obtain ⟨u1, u2⟩ := h0.2.1 (s + k) (by omega)
          have hv := nV_lt k hI
          have hp : (10 : Nat) ^ k ≤ 10 ^ 8 := Nat.pow_le_pow_right (by decide) (by omega)
          have hst : M_number_l51 m0 (nI (if pK tp n i = 45 then 1 else 0)) (nI (nV tp s k)) true (nI k) = some (.inl (nI 10 * nI (nV tp s k) + nI (tp (s + k)) - nI 48, decide (48 ≤ tp (s + k) ∧ tp (s + k) ≤ 57), nI (k + 1))) := by
            unfold M_number_l51
            rw [hsz]
            simp (disch := omega) only [iLe]
            rw [if_neg (by omega), if_pos trivial, c0.2.2.1, hs, nI_add, rdI_ok (by omega) (by omega), u2]
            simp only [Option.bind_some]
            rw [M_in_ok]
            simp only [Option.bind_some]
            rw [show (48 : Int32) = nI 48 from rfl, show (57 : Int32) = nI 57 from rfl, show (1 : Int32) = nI 1 from rfl, nI_add]
            simp (disch := omega) only [iLe]
            rfl
          refine ⟨(nI 10 * nI (nV tp s k) + nI (tp (s + k)) - nI 48, decide (48 ≤ tp (s + k) ∧ tp (s + k) ≤ 57)), hst, ?_⟩
          by_cases z : 48 ≤ tp (s + k) ∧ tp (s + k) ≤ 57
          · left
            refine ⟨?_, fun i hi => ?_⟩
            · rw [decide_eq_true z, nI_mul, nI_add, iSub (by omega)]
              show (nI (10 * nV tp s k + tp (s + k) - 48), true) = (nI (nV tp s k * 10 + (tp (s + k) - 48)), true)
              rw [show 10 * nV tp s k + tp (s + k) - 48 = nV tp s k * 10 + (tp (s + k) - 48) by omega]
            · by_cases y : i = k
              · rw [y]; exact z
              · exact hI i (by omega)
          · right
            exact ⟨decide_eq_false z, fun y => z (y k hk2)⟩
        · right
          refine ⟨x, ?_, .inr ⟨hx, hI⟩⟩
          show M_number_l51 m0 (nI (if pK tp n i = 45 then 1 else 0)) x.1 x.2 (nI k) = _
          unfold M_number_l51
          rw [hsz]
          simp (disch := omega) only [iLe]
          rw [if_neg (by omega), if_neg (by rw [hx]; decide)]
      · refine ⟨x, ?_, hI⟩
        show M_number_l51 m0 (nI (if pK tp n i = 45 then 1 else 0)) x.1 x.2 (nI len) = _
        unfold M_number_l51
        rw [hsz]
        simp (disch := omega) only [iLe]
        rw [if_pos (Nat.le_refl _)]
    · rw [decide_eq_false c]
      have hq : qNum tp n 9 j = none := by
        unfold qNum
        rw [if_neg (fun z => c ⟨z.1, z.2.1⟩)]
      rw [hq]
      refine ⟨(0, false), lp_out ?_, rfl, fun v hv => by cases hv⟩
      show M_number_l51 m0 (nI (if pK tp n i = 45 then 1 else 0)) 0 false 0 = _
      unfold M_number_l51
      split
      · rfl
      · rfl
  obtain ⟨b, q1, q2, q3⟩ := hlp
  rw [q1]
  simp only [Option.bind_some]
  rw [q2, e1, hf]
  cases hq : qNum tp n 9 j with
  | none =>
    refine ⟨_, rfl, ?_, ?_, (g0.mono wRd_wFl).tr rp_fl (fun _ _ _ z => z)⟩
    · rw [fl45]; exact c0.2.2.1
    · have := pS_b (tp := tp) c0.1
      omega
  | some v =>
    have hb1 := q3 v hq
    refine ⟨R1, ?_, g0.tr g1 (fun _ _ _ z => z), c1, h1⟩
    rw [hb1]
    by_cases c : pK tp n i = 45
    · simp only [c, if_true, Option.isSome_some, Option.bind_some]
      rw [if_neg (by decide), Int32.zero_sub]
    · simp only [c, if_false, Option.isSome_some, if_true, Option.bind_some]
      rw [if_pos (by decide)]
