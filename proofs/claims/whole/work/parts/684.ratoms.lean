/-! the reference's parser: fields, phrases, any atom -/
theorem isNm_5 {tp : Nat → Nat} {a b c0 c1 c2 c3 c4 : Nat} : isNm tp a b [c0, c1, c2, c3, c4] = decide (b - a = 5 ∧ tp a = c0 ∧ tp (a + 1) = c1 ∧ tp (a + 2) = c2 ∧ tp (a + 3) = c3 ∧ tp (a + 4) = c4) := by
  unfold isNm
  rw [decide_eq_decide]
  constructor
  · rintro ⟨x, y⟩
    exact ⟨x, y 0 (show 0 < 5 by decide), y 1 (show 1 < 5 by decide), y 2 (show 2 < 5 by decide), y 3 (show 3 < 5 by decide), y 4 (show 4 < 5 by decide)⟩
  · rintro ⟨x, y0, y1, y2, y3, y4⟩
    refine ⟨x, fun k hk => ?_⟩
    have hk : k < 5 := hk
    have : k = 0 ∨ k = 1 ∨ k = 2 ∨ k = 3 ∨ k = 4 := by omega
    rcases this with rfl | rfl | rfl | rfl | rfl
    · exact y0
    · exact y1
    · exact y2
    · exact y3
    · exact y4
theorem isNm_4 {tp : Nat → Nat} {a b c0 c1 c2 c3 : Nat} : isNm tp a b [c0, c1, c2, c3] = decide (b - a = 4 ∧ tp a = c0 ∧ tp (a + 1) = c1 ∧ tp (a + 2) = c2 ∧ tp (a + 3) = c3) := by
  unfold isNm
  rw [decide_eq_decide]
  constructor
  · rintro ⟨x, y⟩
    exact ⟨x, y 0 (show 0 < 4 by decide), y 1 (show 1 < 4 by decide), y 2 (show 2 < 4 by decide), y 3 (show 3 < 4 by decide)⟩
  · rintro ⟨x, y0, y1, y2, y3⟩
    refine ⟨x, fun k hk => ?_⟩
    have hk : k < 4 := hk
    have : k = 0 ∨ k = 1 ∨ k = 2 ∨ k = 3 := by omega
    rcases this with rfl | rfl | rfl | rfl
    · exact y0
    · exact y1
    · exact y2
    · exact y3
theorem rCh {R : RS} {tp : Nat → Nat} {p c : Nat} {K : Option Int32} (h : rBy R tp) (hp : p < 600) (hc : c < 256) : ((rdI R 1 600 (nI p)).bind fun v => if ¬ v = nI c then some (0 : Int32) else K) = if tp p = c then K else some 0 := by
  obtain ⟨u1, u2⟩ := h p hp
  rw [rdI_ok hp (by omega), u2]
  simp only [Option.bind_some]
  have e2 : (nI (tp p) = nI c) = (tp p = c) := iEq (by omega) (by omega)
  simp only [e2]
  by_cases z : tp p = c
  · rw [if_neg (fun y => y z), if_pos z]
  · rw [if_pos z, if_neg z]
theorem M_isField_ok {R : RS} {tp : Nat → Nat} {n i : Nat} {st sp : Bool} (h : rEnv R tp n st sp) (hc : rPc R tp n i) : M_isField R = some (qFld tp n i).isSome := by
  have hk := h.k hc.1
  have hn := h.1
  have hb := pE_b (tp := tp) hc.1
  have hS := pS_b (tp := tp) hc.1
  obtain ⟨hi, d0, d1, d2, d3⟩ := hc
  have hlp : lp (fun q : Int32 => M_isField_l191 R q) (nI (pE tp n i)) = some (nI (pS tp n (pE tp n i))) := by
    refine lp_run (p := fun j => decide (tp j = 32)) (n - pE tp n i) (pE tp n i) (fun j h1 h2 h3 => ?_) ?_
    · obtain ⟨u1, u2⟩ := h.2.1 j (by omega)
      have h3 : tp j = 32 := of_decide_eq_true h3
      unfold M_isField_l191
      rw [h.2.2.2.2.1]
      simp (disch := omega) only [iLe]
      rw [if_neg (by omega), rdI_ok (by omega) (by omega), u2, h3]
      rw [show (1 : Int32) = nI 1 from rfl, nI_add]
      rfl
    · show M_isField_l191 R (nI (pS tp n (pE tp n i))) = some (.inr (nI (pS tp n (pE tp n i))))
      have hr := pS_b (tp := tp) hb.2
      unfold M_isField_l191
      rw [h.2.2.2.2.1]
      simp (disch := omega) only [iLe]
      by_cases c : n ≤ pS tp n (pE tp n i)
      · rw [if_pos c]
      · rw [if_neg c]
        obtain ⟨u1, u2⟩ := h.2.1 (pS tp n (pE tp n i)) (by omega)
        have c2 := run_out (fun j => decide (tp j = 32)) (n - pE tp n i) (pE tp n i) (by unfold pS at c; omega)
        rw [decide_eq_false_iff_not] at c2
        have c2 : ¬ tp (pS tp n (pE tp n i)) = 32 := c2
        rw [rdI_ok (by omega) (by omega), u2]
        simp only [Option.bind_some]
        rw [if_pos]
        rw [show (32 : Int32) = nI 32 from rfl, iEq (by omega) (by omega)]
        exact c2
  unfold M_isField
  rw [d0, d1, d2, d3, hlp, h.2.2.2.2.1]
  rw [show (116 : Int32) = nI 116 from rfl, show (105 : Int32) = nI 105 from rfl, show (108 : Int32) = nI 108 from rfl, show (101 : Int32) = nI 101 from rfl, show (98 : Int32) = nI 98 from rfl, show (111 : Int32) = nI 111 from rfl, show (100 : Int32) = nI 100 from rfl, show (121 : Int32) = nI 121 from rfl, show (58 : Int32) = nI 58 from rfl]
  rw [show (1 : Int32) = nI 1 from rfl, show (2 : Int32) = nI 2 from rfl, show (3 : Int32) = nI 3 from rfl, show (4 : Int32) = nI 4 from rfl, show (5 : Int32) = nI 5 from rfl]
  simp only [nI_add, rk_1 hk]
  by_cases k : pK tp n i = 256
  · obtain ⟨w1, w2, w3, -⟩ := pW_w h.tp hn hi k
    simp only [if_pos k]
    have e5 : (nI (pE tp n i - pS tp n i) = nI 5) = (pE tp n i - pS tp n i = 5) := iEq (by omega) (by omega)
    have e4 : (nI (pE tp n i - pS tp n i) = nI 4) = (pE tp n i - pS tp n i = 4) := iEq (by omega) (by omega)
    simp only [e5, e4]
    have q5 : (if ¬ pE tp n i - pS tp n i = 5 then some (0 : Int32) else (rdI R 1 600 (nI (pS tp n i))).bind fun v3 => if ¬ v3 = nI 116 then some 0 else (rdI R 1 600 (nI (pS tp n i + 1))).bind fun v5 => if ¬ v5 = nI 105 then some 0 else (rdI R 1 600 (nI (pS tp n i + 2))).bind fun v7 => if ¬ v7 = nI 116 then some 0 else (rdI R 1 600 (nI (pS tp n i + 3))).bind fun v9 => if ¬ v9 = nI 108 then some 0 else (rdI R 1 600 (nI (pS tp n i + 4))).bind fun v11 => if ¬ v11 = nI 101 then some 0 else some (nI 1)) = some (nI (if isNm tp (pS tp n i) (pE tp n i) [116, 105, 116, 108, 101] = true then 1 else 0)) := by
      rw [isNm_5]
      by_cases c : pE tp n i - pS tp n i = 5
      · rw [if_neg (fun z => z c), rCh h.2.1 (by omega) (by decide), rCh h.2.1 (by omega) (by decide), rCh h.2.1 (by omega) (by decide), rCh h.2.1 (by omega) (by decide), rCh h.2.1 (by omega) (by decide)]
        by_cases c0 : tp (pS tp n i) = 116
        · rw [if_pos c0]
          by_cases c1 : tp (pS tp n i + 1) = 105
          · rw [if_pos c1]
            by_cases c2 : tp (pS tp n i + 2) = 116
            · rw [if_pos c2]
              by_cases c3 : tp (pS tp n i + 3) = 108
              · rw [if_pos c3]
                by_cases c4 : tp (pS tp n i + 4) = 101
                · rw [if_pos c4, if_pos (decide_eq_true ⟨c, c0, c1, c2, c3, c4⟩)]
                · rw [if_neg c4, if_neg (fun z => c4 (of_decide_eq_true z).2.2.2.2.2)]
                  rfl
              · rw [if_neg c3, if_neg (fun z => c3 (of_decide_eq_true z).2.2.2.2.1)]
                rfl
            · rw [if_neg c2, if_neg (fun z => c2 (of_decide_eq_true z).2.2.2.1)]
              rfl
          · rw [if_neg c1, if_neg (fun z => c1 (of_decide_eq_true z).2.2.1)]
            rfl
        · rw [if_neg c0, if_neg (fun z => c0 (of_decide_eq_true z).2.1)]
          rfl
      · rw [if_pos c, if_neg (fun z => c (of_decide_eq_true z).1)]
        rfl
    have q4 : (if ¬ pE tp n i - pS tp n i = 4 then some (0 : Int32) else (rdI R 1 600 (nI (pS tp n i))).bind fun v3 => if ¬ v3 = nI 98 then some 0 else (rdI R 1 600 (nI (pS tp n i + 1))).bind fun v5 => if ¬ v5 = nI 111 then some 0 else (rdI R 1 600 (nI (pS tp n i + 2))).bind fun v7 => if ¬ v7 = nI 100 then some 0 else (rdI R 1 600 (nI (pS tp n i + 3))).bind fun v9 => if ¬ v9 = nI 121 then some 0 else some (nI 1)) = some (nI (if isNm tp (pS tp n i) (pE tp n i) [98, 111, 100, 121] = true then 1 else 0)) := by
      rw [isNm_4]
      by_cases c : pE tp n i - pS tp n i = 4
      · rw [if_neg (fun z => z c), rCh h.2.1 (by omega) (by decide), rCh h.2.1 (by omega) (by decide), rCh h.2.1 (by omega) (by decide), rCh h.2.1 (by omega) (by decide)]
        by_cases c0 : tp (pS tp n i) = 98
        · rw [if_pos c0]
          by_cases c1 : tp (pS tp n i + 1) = 111
          · rw [if_pos c1]
            by_cases c2 : tp (pS tp n i + 2) = 100
            · rw [if_pos c2]
              by_cases c3 : tp (pS tp n i + 3) = 121
              · rw [if_pos c3, if_pos (decide_eq_true ⟨c, c0, c1, c2, c3⟩)]
              · rw [if_neg c3, if_neg (fun z => c3 (of_decide_eq_true z).2.2.2.2)]
                rfl
            · rw [if_neg c2, if_neg (fun z => c2 (of_decide_eq_true z).2.2.2.1)]
              rfl
          · rw [if_neg c1, if_neg (fun z => c1 (of_decide_eq_true z).2.2.1)]
            rfl
        · rw [if_neg c0, if_neg (fun z => c0 (of_decide_eq_true z).2.1)]
          rfl
      · rw [if_pos c, if_neg (fun z => c (of_decide_eq_true z).1)]
        rfl
    rw [q5]
    simp only [Option.bind_some]
    rw [q4]
    simp only [Option.bind_some]
    rw [if_neg (fun z => z k)]
    simp only [b01]
    unfold qFld
    have hr := pS_b (tp := tp) hb.2
    have hlast : (if nI n ≤ nI (pS tp n (pE tp n i)) then some false else (rdI R 1 600 (nI (pS tp n (pE tp n i)))).bind fun v33 => if ¬ v33 = nI 58 then some false else some true) = some (decide (pK tp n (pE tp n i) = 58)) := by
      simp only [pK_c (show 58 < 256 by decide) (show isL 58 = false by decide)]
      have e : (nI n ≤ nI (pS tp n (pE tp n i))) = (n ≤ pS tp n (pE tp n i)) := iLe (by omega) (by omega)
      simp only [e]
      by_cases c : n ≤ pS tp n (pE tp n i)
      · rw [if_pos c, decide_eq_false (fun z => by omega)]
      · rw [if_neg c]
        obtain ⟨u1, u2⟩ := h.2.1 (pS tp n (pE tp n i)) (by omega)
        rw [rdI_ok (by omega) (by omega), u2]
        simp only [Option.bind_some]
        have e2 : (nI (tp (pS tp n (pE tp n i))) = nI 58) = (tp (pS tp n (pE tp n i)) = 58) := iEq (by omega) (by omega)
        simp only [e2]
        by_cases z : tp (pS tp n (pE tp n i)) = 58
        · rw [if_neg (fun y => y z), decide_eq_true ⟨by omega, z⟩]
        · rw [if_pos z, decide_eq_false (fun y => z y.2)]
    rw [hlast]
    cases isNm tp (pS tp n i) (pE tp n i) [116, 105, 116, 108, 101]
    · cases isNm tp (pS tp n i) (pE tp n i) [98, 111, 100, 121]
      · show some false = _
        split <;> rfl
      · show some (decide (pK tp n (pE tp n i) = 58)) = _
        by_cases z : pK tp n (pE tp n i) = 58
        · rw [decide_eq_true z, if_pos z]; rfl
        · rw [decide_eq_false z, if_neg z]; rfl
    · show some (decide (pK tp n (pE tp n i) = 58)) = _
      by_cases z : pK tp n (pE tp n i) = 58
      · rw [decide_eq_true z, if_pos z]; rfl
      · rw [decide_eq_false z, if_neg z]; rfl
  · simp only [if_neg k]
    have hle := pE_le1 hi k
    rw [if_pos (show ¬ nI 0 = nI 5 by decide), if_pos (show ¬ nI 0 = nI 4 by decide)]
    show (if ¬ pK tp n i = 256 then some false else _) = _
    rw [if_pos k]
    unfold qFld
    rw [isNm_5, isNm_4, if_neg (show ¬ decide (pE tp n i - pS tp n i = 5 ∧ _) = true from fun z => by have := (of_decide_eq_true z).1; omega), if_neg (show ¬ decide (pE tp n i - pS tp n i = 4 ∧ _) = true from fun z => by have := (of_decide_eq_true z).1; omega)]
    split <;> rfl
