/-! the reference's parser: operations, words, numbers, fields -/
def qoA (O : List OpT) (k : Nat) : OpT := O.getD k (0, 0, 0, 0)
def qwA (W : List (List Nat × Nat)) (k : Nat) : List Nat × Nat := W.getD k ([], 0)
def rO (R : RS) (O : List OpT) : Prop := R.1 0 50 = nI O.length ∧ ∀ k, k < O.length → R.1 29 k = nI (qoA O k).1 ∧ R.1 30 k = (qoA O k).2.1 ∧ R.1 31 k = (qoA O k).2.2.1 ∧ R.1 32 k = (qoA O k).2.2.2
def rW (R : RS) (W : List (List Nat × Nat)) : Prop := R.1 0 51 = nI W.length ∧ ∀ k, k < W.length → (qwA W k).1.length ≤ 12 ∧ R.1 33 k = nI (qwA W k).1.length ∧ R.1 35 k = nI (qwA W k).2 ∧ ∀ i, i < (qwA W k).1.length → R.1 34 (12 * k + i) = nI ((qwA W k).1.getD i 0)
def wEm (N : Nat) : Nat → Nat → Nat → Prop := fun t c j => t = 0 ∧ ((c = 0 ∧ j = 50) ∨ (29 ≤ c ∧ c ≤ 32 ∧ j = N))
def wWd (N : Nat) : Nat → Nat → Nat → Prop := fun t c j => t = 0 ∧ ((c = 0 ∧ (j = 38 ∨ j = 51)) ∨ c = 27 ∨ ((c = 33 ∨ c = 35) ∧ j = N) ∨ (c = 34 ∧ 12 * N ≤ j))
theorem rO.rp {R R' : RS} {O : List OpT} {W : Nat → Nat → Nat → Prop} (h : rO R O) (hk : Rp W R R') (h1 : ¬ W 0 0 50) (h2 : ∀ c j, 29 ≤ c → c ≤ 32 → ¬ W 0 c j) : rO R' O := by
  refine ⟨by rw [hk.I (by decide) h1]; exact h.1, fun k hk' => ?_⟩
  rw [hk.I (by decide) (h2 _ _ (by decide) (by decide)), hk.I (by decide) (h2 _ _ (by decide) (by decide)), hk.I (by decide) (h2 _ _ (by decide) (by decide)), hk.I (by decide) (h2 _ _ (by decide) (by decide))]
  exact h.2 k hk'
theorem rW.rp {R R' : RS} {Ws : List (List Nat × Nat)} {W : Nat → Nat → Nat → Prop} (h : rW R Ws) (hk : Rp W R R') (h1 : ¬ W 0 0 51) (h2 : ∀ c j, 33 ≤ c → c ≤ 35 → ¬ W 0 c j) : rW R' Ws := by
  refine ⟨by rw [hk.I (by decide) h1]; exact h.1, fun k hk' => ?_⟩
  obtain ⟨a, b, c, d⟩ := h.2 k hk'
  refine ⟨a, ?_, ?_, fun i hi => ?_⟩
  · rw [hk.I (by decide) (h2 _ _ (by decide) (by decide))]; exact b
  · rw [hk.I (by decide) (h2 _ _ (by decide) (by decide))]; exact c
  · rw [hk.I (by decide) (h2 _ _ (by decide) (by decide))]; exact d i hi
theorem M_emit_ok {R : RS} {O : List OpT} (h : rO R O) (hl : O.length < 400) (a : Nat) (b c d : Int32) : ∃ R', M_emit R (nI a) b c d = some R' ∧ Rp (wEm O.length) R R' ∧ rO R' (O ++ [(a, b, c, d)]) := by
  obtain ⟨h1, h2⟩ := h
  unfold M_emit
  simp (disch := first | assumption | omega) only [h1, wrI_ok, Option.bind_some, pI, pL, pB, up2_s, up2_ne]
  have g : Rp (wEm O.length) R (up2 (up2 (up2 (up2 (up2 R.1 29 O.length (nI a)) 30 O.length b) 31 O.length c) 32 O.length d) 0 50 (nI O.length + 1), R.2) := by
    refine Rp.tr (W' := wEm O.length) (R' := (up2 (up2 (up2 (up2 R.1 29 O.length (nI a)) 30 O.length b) 31 O.length c) 32 O.length d, R.2)) ?_ (Rp.wI (by unfold wEm; omega)) (fun _ _ _ z => z)
    refine Rp.tr (W' := wEm O.length) (R' := (up2 (up2 (up2 R.1 29 O.length (nI a)) 30 O.length b) 31 O.length c, R.2)) ?_ (Rp.wI (by unfold wEm; omega)) (fun _ _ _ z => z)
    refine Rp.tr (W' := wEm O.length) (R' := (up2 (up2 R.1 29 O.length (nI a)) 30 O.length b, R.2)) ?_ (Rp.wI (by unfold wEm; omega)) (fun _ _ _ z => z)
    exact Rp.tr (W' := wEm O.length) (R' := (up2 R.1 29 O.length (nI a), R.2)) (Rp.wI (by unfold wEm; omega)) (Rp.wI (by unfold wEm; omega)) (fun _ _ _ z => z)
  refine ⟨_, rfl, g, ?_, fun k hk => ?_⟩
  · simp only [up2_s]
    rw [show (1 : Int32) = nI 1 from rfl, nI_add, List.length_append]
    rfl
  · rw [List.length_append] at hk
    have hk : k < O.length + 1 := hk
    unfold qoA
    rw [getD_app]
    by_cases z : k < O.length
    · rw [if_pos z]
      have := h2 k z
      unfold qoA at this
      simp (disch := omega) only [pI, pL, pB, up2_s, up2_ne]
      exact this
    · rw [if_neg z, if_pos (by omega), show k = O.length by omega]
      simp (disch := omega) only [pI, pL, pB, up2_s, up2_ne]
      refine ⟨?_, ?_, ?_, ?_⟩ <;> trivial
/-- the words' store: a term is put behind -/
theorem M_word_tail {R R1 : RS} {Ws : List (List Nat × Nat)} {t : List Nat} {m : Nat} {W : Nat → Nat → Nat → Prop} (h : rW R Ws) (hl : Ws.length < 400) (ht : t.length ≤ 12) (hk : Rp wTm R R1) (hT : rTm R1 t) : ∃ R', ((wrI R1 33 400 (R1.1 0 51) (R1.1 0 38)).bind fun R5 => (wrI R5 35 400 (R5.1 0 51) (nI m)).bind fun R6 => (lp (fun q : Int32 × RS => M_word_l56 q.2 q.1) ((0), R6)).bind fun z11 => (some (pI z11 51 ((z11.1 0 51) + (1)))).bind fun R12 => some R12) = some R' ∧ Rp (wWd Ws.length) R R' ∧ rW R' (Ws ++ [(t, m)]) := by
  have h := h.rp hk (by unfold wTm; omega) (fun c j z1 z2 z => by unfold wTm at z; omega)
  have hkW : Rp (wWd Ws.length) R R1 := hk.mono (fun t c j z => by unfold wTm at z; unfold wWd; omega)
  obtain ⟨h1, h2⟩ := h
  obtain ⟨t1, t2⟩ := hT
  simp (disch := first | assumption | omega) only [h1, t1, wrI_ok, Option.bind_some, pI, pL, pB, up2_s, up2_ne]
  have g6 : Rp (wWd Ws.length) R1 (up2 (up2 R1.1 33 Ws.length (nI t.length)) 35 Ws.length (nI m), R1.2) := Rp.tr (W' := wWd Ws.length) (R' := (up2 R1.1 33 Ws.length (nI t.length), R1.2)) (Rp.wI (by unfold wWd; omega)) (Rp.wI (by unfold wWd; omega)) (fun _ _ _ z => z)
  obtain ⟨Z, e1, z1, z2, z3, z4, z5, z6⟩ : ∃ Z, lp (fun q : Int32 × RS => M_word_l56 q.2 q.1) ((fun j (Q : RS) => (nI j, Q)) 0 (up2 (up2 R1.1 33 Ws.length (nI t.length)) 35 Ws.length (nI m), R1.2)) = some Z ∧ (Rp (wWd Ws.length) R1 Z ∧ rTm Z t ∧ Z.1 0 51 = nI Ws.length ∧ Z.1 33 Ws.length = nI t.length ∧ Z.1 35 Ws.length = nI m ∧ ∀ j, j < t.length → Z.1 34 (12 * Ws.length + j) = nI (t.getD j 0)) := by
    refine lp_for (fun j (Q : RS) => (nI j, Q)) t.length (fun i Z => Rp (wWd Ws.length) R1 Z ∧ rTm Z t ∧ Z.1 0 51 = nI Ws.length ∧ Z.1 33 Ws.length = nI t.length ∧ Z.1 35 Ws.length = nI m ∧ ∀ j, j < i → Z.1 34 (12 * Ws.length + j) = nI (t.getD j 0)) _ (fun i Q hi hI => ?_) (fun Q hI => ?_) t.length 0 _ (by omega) ?_
    · left
      obtain ⟨q1, ⟨q2, q2'⟩, q3, q4, q5, q6⟩ := hI
      unfold M_word_l56
      rw [q2]
      simp (disch := omega) only [iLe]
      rw [if_neg (by omega), rdI_ok (by omega) (by omega), q2' i hi]
      simp only [Option.bind_some]
      rw [q3, show (12 : Int32) = nI 12 from rfl, nI_mul, nI_add, wrI_ok (by omega) (by omega), show (1 : Int32) = nI 1 from rfl, nI_add]
      refine ⟨_, rfl, q1.tr (Rp.wI (W := wWd Ws.length) (by unfold wWd; omega)) (fun _ _ _ z => z), ⟨?_, fun j hj => ?_⟩, ?_, ?_, ?_, fun j hj => ?_⟩
      · simp (disch := omega) only [pI, pL, pB, up2_s, up2_ne]; exact q2
      · simp (disch := omega) only [pI, pL, pB, up2_s, up2_ne]; exact q2' j hj
      · simp (disch := omega) only [pI, pL, pB, up2_s, up2_ne]; exact q3
      · simp (disch := omega) only [pI, pL, pB, up2_s, up2_ne]; exact q4
      · simp (disch := omega) only [pI, pL, pB, up2_s, up2_ne]; exact q5
      · by_cases c : j = i
        · subst c; simp only [pI, pL, pB, up2_s, up2_ne]
        · simp (disch := omega) only [pI, pL, pB, up2_s, up2_ne]; exact q6 j (by omega)
    · refine ⟨Q, ?_, hI⟩
      unfold M_word_l56
      rw [hI.2.1.1]
      simp (disch := omega) only [iLe]
      rw [if_pos (Nat.le_refl _)]
    · refine ⟨g6, ⟨?_, fun j hj => ?_⟩, ?_, ?_, ?_, fun j hj => absurd hj (Nat.not_lt_zero _)⟩
      · simp (disch := omega) only [pI, pL, pB, up2_s, up2_ne]; exact t1
      · simp (disch := omega) only [pI, pL, pB, up2_s, up2_ne]; exact t2 j hj
      · simp (disch := omega) only [pI, pL, pB, up2_s, up2_ne]; exact h1
      · simp (disch := omega) only [pI, pL, pB, up2_s, up2_ne]
      · simp (disch := omega) only [pI, pL, pB, up2_s, up2_ne]
  have e1 : lp (fun q : Int32 × RS => M_word_l56 q.2 q.1) ((0), (up2 (up2 R1.1 33 Ws.length (nI t.length)) 35 Ws.length (nI m), R1.2)) = some Z := e1
  rw [e1]
  simp only [Option.bind_some]
  refine ⟨_, rfl, (hkW.tr z1 (fun _ _ _ z => z)).tr (Rp.pI (W := wWd Ws.length) (by unfold wWd; omega)) (fun _ _ _ z => z), ?_, fun k hk' => ?_⟩
  · rw [z3]
    simp only [pI, pL, pB, up2_s, up2_ne]
    rw [show (1 : Int32) = nI 1 from rfl, nI_add, List.length_append]
    rfl
  · rw [List.length_append] at hk'
    have hk' : k < Ws.length + 1 := hk'
    unfold qwA
    rw [getD_app]
    by_cases z : k < Ws.length
    · rw [if_pos z]
      obtain ⟨a1, a2, a3, a4⟩ := h2 k z
      unfold qwA at a1 a2 a3 a4
      refine ⟨a1, ?_, ?_, fun i hi => ?_⟩
      · simp (disch := omega) only [pI, pL, pB, up2_s, up2_ne]
        rw [z1.I (by decide) (by unfold wWd; omega)]
        exact a2
      · simp (disch := omega) only [pI, pL, pB, up2_s, up2_ne]
        rw [z1.I (by decide) (by unfold wWd; omega)]
        exact a3
      · simp (disch := omega) only [pI, pL, pB, up2_s, up2_ne]
        rw [z1.I (by decide) (by unfold wWd; omega)]
        exact a4 i hi
    · rw [if_neg z, if_pos (by omega), show k = Ws.length by omega]
      refine ⟨ht, ?_, ?_, fun i hi => ?_⟩
      · simp (disch := omega) only [pI, pL, pB, up2_s, up2_ne]
        exact z4
      · simp (disch := omega) only [pI, pL, pB, up2_s, up2_ne]
        exact z5
      · simp (disch := omega) only [pI, pL, pB, up2_s, up2_ne]
        exact z6 i hi
theorem wWd_env {N : Nat} : ∀ t c j, wWd N t c j → ¬ (t = 0 ∧ c = 1) ∧ ¬ (t = 0 ∧ c = 0 ∧ (j = 44 ∨ j = 45)) ∧ ¬ (t = 3 ∧ c = 0) := fun t c j z => by unfold wWd at z; omega
theorem wEm_env {N : Nat} : ∀ t c j, wEm N t c j → ¬ (t = 0 ∧ c = 1) ∧ ¬ (t = 0 ∧ c = 0 ∧ (j = 44 ∨ j = 45)) ∧ ¬ (t = 3 ∧ c = 0) := fun t c j z => by unfold wEm at z; omega
theorem M_word_ok {R : RS} {tp : Nat → Nat} {n i m : Nat} {st sp starts : Bool} {Ws : List (List Nat × Nat)} (h : rEnv R tp n st sp) (hc : rPc R tp n i) (hk : pK tp n i = 256) (hW : rW R Ws) (hl : Ws.length < 400) : ∃ R', M_word R (nI m) starts = some R' ∧ Rp (wWd Ws.length) R R' ∧ rW R' (Ws ++ [((if starts = true then small tp (pS tp n i) (pE tp n i - pS tp n i) else mkT st sp tp (pS tp n i) (pE tp n i - pS tp n i)), m)]) ∧ rEnv R' tp n st sp ∧ rPc R' tp n i := by
  obtain ⟨w1, w2, w3, -⟩ := pW_w h.tp h.1 hc.1 hk
  have hn := h.1
  obtain ⟨hi, c0, c1, c2, c3⟩ := hc
  rw [if_pos hk] at c2
  have hterm := mkT_term (st := st) (sp := sp) w1
  have hsm := small_term w1
  unfold M_word
  rw [c1, c2]
  obtain ⟨R1, e1, k1, t1, l1⟩ : ∃ R1, (if starts = true then (M_small R (nI (pS tp n i)) (nI (pE tp n i - pS tp n i))).bind fun v3 => some v3 else (M_makeTerm R (nI (pS tp n i)) (nI (pE tp n i - pS tp n i))).bind fun v4 => some v4) = some R1 ∧ Rp wTm R R1 ∧ rTm R1 (if starts = true then small tp (pS tp n i) (pE tp n i - pS tp n i) else mkT st sp tp (pS tp n i) (pE tp n i - pS tp n i)) ∧ (if starts = true then small tp (pS tp n i) (pE tp n i - pS tp n i) else mkT st sp tp (pS tp n i) (pE tp n i - pS tp n i)).length ≤ 12 := by
    cases starts with
    | true =>
      obtain ⟨R1, e1, k1, t1⟩ := M_small_ok h.2.1 (p := pS tp n i) (k := pE tp n i - pS tp n i) (by omega)
      rw [if_pos rfl, if_pos rfl, e1]
      exact ⟨R1, rfl, k1, t1, hsm.1⟩
    | false =>
      obtain ⟨R1, e1, k1, t1⟩ := M_makeTerm_ok h.2.1 h.2.2.1 h.2.2.2.1 (p := pS tp n i) (k := pE tp n i - pS tp n i) (by omega) w1
      rw [if_neg (by decide), if_neg (by decide), e1]
      exact ⟨R1, rfl, k1, t1, hterm.1⟩
  rw [e1]
  simp only [Option.bind_some]
  obtain ⟨R', e2, k2, w2⟩ := M_word_tail (m := m) (W := wTm) hW hl l1 k1 t1
  refine ⟨R', e2, k2, w2, h.rp k2 wWd_env, ?_⟩
  exact rPc.rp ⟨hi, c0, c1, by rw [if_pos hk]; exact c2, c3⟩ k2 (fun j z1 z2 z => by unfold wWd at z; omega)
