/-! THE REFERENCE'S PARSER: pieces -/
def rk (k : Nat) : Nat := if k = 257 then 0 else if k = 256 then 1 else if k = 40 ∨ k = 41 ∨ k = 124 ∨ k = 45 ∨ k = 42 ∨ k = 34 ∨ k = 58 ∨ k = 126 ∨ k = 94 ∨ k = 91 ∨ k = 93 then k else 2
def rPc (R : RS) (tp : Nat → Nat) (n i : Nat) : Prop := i ≤ n ∧ R.1 0 40 = nI (rk (pK tp n i)) ∧ R.1 0 41 = nI (pS tp n i) ∧ R.1 0 42 = nI (if pK tp n i = 256 then pE tp n i - pS tp n i else 0) ∧ R.1 0 43 = nI (pE tp n i)
def rEnv (R : RS) (tp : Nat → Nat) (n : Nat) (st sp : Bool) : Prop := n ≤ 600 ∧ rBy R tp ∧ R.2.2 0 0 = st ∧ R.2.2 0 1 = sp ∧ R.1 0 44 = nI n ∧ R.1 0 45 = -1
def wRd : Nat → Nat → Nat → Prop := fun t c j => t = 0 ∧ c = 0 ∧ 40 ≤ j ∧ j ≤ 43
theorem rk_lt {k : Nat} (hk : k < 258) : rk k < 258 := by
  unfold rk
  split
  · omega
  · split
    · omega
    · split <;> omega
theorem rk_c {k c : Nat} (hk : k < 258) (hc : c = 40 ∨ c = 41 ∨ c = 124 ∨ c = 45 ∨ c = 42 ∨ c = 34 ∨ c = 58 ∨ c = 126 ∨ c = 94 ∨ c = 91 ∨ c = 93) : (nI (rk k) = nI c) = (k = c) := by
  have h1 := rk_lt hk
  rw [iEq (by omega) (by omega)]
  refine propext ⟨fun z => ?_, fun z => ?_⟩
  · unfold rk at z
    split at z
    · omega
    · split at z
      · omega
      · split at z
        · exact z
        · omega
  · subst z
    unfold rk
    rw [if_neg (by omega), if_neg (by omega), if_pos hc]
theorem rk_1 {k : Nat} (hk : k < 258) : (nI (rk k) = nI 1) = (k = 256) := by
  have h1 := rk_lt hk
  rw [iEq (by omega) (by omega)]
  refine propext ⟨fun z => ?_, fun z => ?_⟩
  · unfold rk at z
    split at z
    · omega
    · split at z
      · assumption
      · split at z <;> omega
  · subst z
    rfl
theorem rk_0 {k : Nat} (hk : k < 258) : (nI (rk k) = nI 0) = (k = 257) := by
  have h1 := rk_lt hk
  rw [iEq (by omega) (by omega)]
  refine propext ⟨fun z => ?_, fun z => ?_⟩
  · unfold rk at z
    split at z
    · assumption
    · split at z
      · omega
      · split at z <;> omega
  · subst z
    rfl
theorem rEnv.rp {R R' : RS} {tp : Nat → Nat} {n : Nat} {st sp : Bool} {W : Nat → Nat → Nat → Prop} (h : rEnv R tp n st sp) (hk : Rp W R R') (hw : ∀ t c j, W t c j → ¬ (t = 0 ∧ c = 1) ∧ ¬ (t = 0 ∧ c = 0 ∧ (j = 44 ∨ j = 45)) ∧ ¬ (t = 3 ∧ c = 0)) : rEnv R' tp n st sp := by
  obtain ⟨a, b, c, d, f, g⟩ := h
  refine ⟨a, b.rp hk (fun k z => (hw _ _ _ z).1 ⟨rfl, rfl⟩), ?_, ?_, ?_, ?_⟩
  · rw [hk.B (by decide) (fun z => (hw _ _ _ z).2.2 ⟨rfl, rfl⟩)]; exact c
  · rw [hk.B (by decide) (fun z => (hw _ _ _ z).2.2 ⟨rfl, rfl⟩)]; exact d
  · rw [hk.I (by decide) (fun z => (hw _ _ _ z).2.1 ⟨rfl, rfl, .inl rfl⟩)]; exact f
  · rw [hk.I (by decide) (fun z => (hw _ _ _ z).2.1 ⟨rfl, rfl, .inr rfl⟩)]; exact g
theorem rPc.rp {R R' : RS} {tp : Nat → Nat} {n i : Nat} {W : Nat → Nat → Nat → Prop} (h : rPc R tp n i) (hk : Rp W R R') (hw : ∀ j, 40 ≤ j → j ≤ 43 → ¬ W 0 0 j) : rPc R' tp n i :=
  ⟨h.1, by rw [hk.I (by decide) (hw _ (by decide) (by decide))]; exact h.2.1, by rw [hk.I (by decide) (hw _ (by decide) (by decide))]; exact h.2.2.1, by rw [hk.I (by decide) (hw _ (by decide) (by decide))]; exact h.2.2.2.1, by rw [hk.I (by decide) (hw _ (by decide) (by decide))]; exact h.2.2.2.2⟩
theorem wRd_env : ∀ t c j, wRd t c j → ¬ (t = 0 ∧ c = 1) ∧ ¬ (t = 0 ∧ c = 0 ∧ (j = 44 ∨ j = 45)) ∧ ¬ (t = 3 ∧ c = 0) := fun t c j z => by unfold wRd at z; omega
theorem rk_all : ∀ b, b < 256 → (Option.bind (if nI b = 40 then some 1 else if nI b = 41 then some 1 else if nI b = 124 then some 1 else if nI b = 45 then some 1 else if nI b = 42 then some 1 else if nI b = 34 then some 1 else if nI b = 58 then some 1 else if nI b = 126 then some 1 else if nI b = 94 then some 1 else if nI b = 91 then some 1 else if ¬ nI b = 93 then some (0 : Int32) else some 1) fun q24 => if q24 = 0 then some (2 : Int32) else some (nI b)) = some (nI (rk b)) := by decide +kernel
theorem M_read_ok {R : RS} {tp : Nat → Nat} {n i : Nat} {st sp : Bool} (h : rEnv R tp n st sp) (hi : i ≤ n) (h3 : R.1 0 43 = nI i) : ∃ R', M_read R = some R' ∧ Rp wRd R R' ∧ rPc R' tp n i := by
  have hS := pS_b (tp := tp) hi
  have hn := h.1
  have hy := h.2.1
  obtain ⟨Z, e1, g1, z3⟩ : ∃ Z, lp (fun q => M_read_l0 q) R = some Z ∧ (Rp wRd R Z ∧ Z.1 0 43 = nI (pS tp n i)) := by
    refine lp_for (fun _ (Q : RS) => Q) (pS tp n i - i) (fun j Q => Rp wRd R Q ∧ Q.1 0 43 = nI (i + j)) _ (fun j Q hj hI => ?_) (fun Q hI => ?_) (pS tp n i - i) 0 R (by omega) ⟨Rp.rf, h3⟩
    · left
      obtain ⟨q1, q2⟩ := hI
      have hE := h.rp q1 wRd_env
      obtain ⟨u1, u2⟩ := hE.2.1 (i + j) (by omega)
      have c := run_in (fun j => decide (tp j = 32)) (n - i) i (i + j) (by omega) (by unfold pS at hj; omega)
      rw [decide_eq_true_eq] at c
      unfold M_read_l0
      rw [hE.2.2.2.2.1, q2]
      simp (disch := omega) only [iLe]
      rw [if_neg (by omega), rdI_ok (by omega) (by omega), u2]
      simp only [Option.bind_some]
      rw [if_neg (by rw [show (32 : Int32) = nI 32 from rfl, c]; simp)]
      refine ⟨_, rfl, q1.tr (Rp.pI (W := wRd) ⟨rfl, rfl, by decide, by decide⟩) (fun _ _ _ z => z), ?_⟩
      rw [show (1 : Int32) = nI 1 from rfl, nI_add]
      simp only [pI, up2_s]
      rw [Nat.add_assoc]
    · obtain ⟨q1, q2⟩ := hI
      rw [Nat.add_sub_cancel' hS.1] at q2
      have hE := h.rp q1 wRd_env
      refine ⟨Q, ?_, q1, q2⟩
      unfold M_read_l0
      rw [hE.2.2.2.2.1, q2]
      simp (disch := omega) only [iLe]
      by_cases c : n ≤ pS tp n i
      · rw [if_pos c]
      · rw [if_neg c]
        obtain ⟨u1, u2⟩ := hE.2.1 (pS tp n i) (by omega)
        have c2 := run_out (fun j => decide (tp j = 32)) (n - i) i (by unfold pS at c; omega)
        rw [decide_eq_false_iff_not] at c2
        have c2 : ¬ tp (pS tp n i) = 32 := c2
        rw [rdI_ok (by omega) (by omega), u2]
        simp only [Option.bind_some]
        rw [if_pos]
        rw [show (32 : Int32) = nI 32 from rfl, iEq (by omega) (by omega)]
        exact c2
  have hZ := h.rp g1 wRd_env
  unfold M_read
  rw [e1]
  simp only [Option.bind_some]
  rw [z3]
  have g2 : Rp wRd R (pI (pI Z 41 (nI (pS tp n i))) 42 0) := (g1.tr (Rp.pI (W := wRd) ⟨rfl, rfl, by decide, by decide⟩) (fun _ _ _ z => z)).tr (Rp.pI (W := wRd) ⟨rfl, rfl, by decide, by decide⟩) (fun _ _ _ z => z)
  have h2 := h.rp g2 wRd_env
  have y3 : (pI (pI Z 41 (nI (pS tp n i))) 42 0).1 0 43 = nI (pS tp n i) := by simp (disch := omega) only [pI, pL, pB, up2_s, up2_ne]; exact z3
  have y1 : (pI (pI Z 41 (nI (pS tp n i))) 42 0).1 0 41 = nI (pS tp n i) := by simp (disch := omega) only [pI, pL, pB, up2_s, up2_ne]
  have y2 : (pI (pI Z 41 (nI (pS tp n i))) 42 0).1 0 42 = 0 := by simp only [pI, pL, pB, up2_s, up2_ne]
  generalize pI (pI Z 41 (nI (pS tp n i))) 42 0 = Y at *
  rw [y3, h2.2.2.2.2.1]
  have hcn : (nI (pS tp n i) = nI n) = (pS tp n i = n) := iEq (by omega) (by omega)
  simp only [hcn]
  by_cases c : pS tp n i < n
  · rw [if_pos (by omega)]
    obtain ⟨u1, u2⟩ := h2.2.1 (pS tp n i) (by omega)
    rw [rdI_ok (by omega) (by omega), u2]
    simp only [Option.bind_some]
    rw [M_isLetter_ok _ u1]
    simp only [Option.bind_some]
    by_cases c2 : isL (tp (pS tp n i)) = true
    · rw [if_pos c2]
      have hw := wE_b (tp := tp) (p := pS tp n i) (b := n) hS.2
      have hg := wE_gt (b := n) c c2
      obtain ⟨V, e5, g5, v3, v1⟩ : ∃ V, lp (fun q => M_read_l83 q) Y = some V ∧ (Rp wRd R V ∧ V.1 0 43 = nI (wE tp (pS tp n i) n) ∧ V.1 0 41 = nI (pS tp n i)) := by
        refine lp_for (fun _ (Q : RS) => Q) (wE tp (pS tp n i) n - pS tp n i) (fun j Q => Rp wRd R Q ∧ Q.1 0 43 = nI (pS tp n i + j) ∧ Q.1 0 41 = nI (pS tp n i)) _ (fun j Q hj hI => ?_) (fun Q hI => ?_) (wE tp (pS tp n i) n - pS tp n i) 0 Y (by omega) ⟨g2, y3, y1⟩
        · left
          obtain ⟨q1, q2, q3⟩ := hI
          have hE := h.rp q1 wRd_env
          obtain ⟨u1, u2⟩ := hE.2.1 (pS tp n i + j) (by omega)
          have c := wE_in (tp := tp) (p := pS tp n i) (b := n) (i := pS tp n i + j) (by omega) (by omega)
          unfold M_read_l83
          rw [hE.2.2.2.2.1, q2]
          simp (disch := omega) only [iLe]
          rw [if_neg (by omega), rdI_ok (by omega) (by omega), u2]
          simp only [Option.bind_some]
          rw [M_isLetter_ok _ u1]
          simp only [Option.bind_some]
          rw [if_pos c]
          refine ⟨_, rfl, q1.tr (Rp.pI (W := wRd) ⟨rfl, rfl, by decide, by decide⟩) (fun _ _ _ z => z), ?_, ?_⟩
          · rw [show (1 : Int32) = nI 1 from rfl, nI_add]
            simp only [pI, up2_s]
            rw [Nat.add_assoc]
          · simp (disch := omega) only [pI, pL, pB, up2_s, up2_ne]
            exact q3
        · obtain ⟨q1, q2, q3⟩ := hI
          rw [Nat.add_sub_cancel' hw.1] at q2
          have hE := h.rp q1 wRd_env
          refine ⟨Q, ?_, q1, q2, q3⟩
          unfold M_read_l83
          rw [hE.2.2.2.2.1, q2]
          simp (disch := omega) only [iLe]
          by_cases c : n ≤ wE tp (pS tp n i) n
          · rw [if_pos c]
          · rw [if_neg c]
            obtain ⟨u1, u2⟩ := hE.2.1 (wE tp (pS tp n i) n) (by omega)
            rw [rdI_ok (by omega) (by omega), u2]
            simp only [Option.bind_some]
            rw [M_isLetter_ok _ u1]
            simp only [Option.bind_some]
            rw [if_neg (by rw [wE_l hS.2 (by omega)]; decide)]
      rw [e5]
      simp only [Option.bind_some]
      refine ⟨_, rfl, (g5.tr (Rp.pI (W := wRd) ⟨rfl, rfl, by decide, by decide⟩) (fun _ _ _ z => z)).tr (Rp.pI (W := wRd) ⟨rfl, rfl, by decide, by decide⟩) (fun _ _ _ z => z), ?_⟩
      have ek : pK tp n i = 256 := by unfold pK; rw [if_pos c, if_pos c2]
      have ee : pE tp n i = wE tp (pS tp n i) n := by unfold pE; rw [if_pos c, if_pos c2]
      unfold rPc
      rw [ek, ee, if_pos rfl]
      refine ⟨hi, ?_, ?_, ?_, ?_⟩
      · simp (disch := omega) only [pI, pL, pB, up2_s, up2_ne]; rfl
      · simp (disch := omega) only [pI, pL, pB, up2_s, up2_ne]; exact v1
      · simp (disch := omega) only [pI, pL, pB, up2_s, up2_ne]
        rw [v3, v1, iSub (by omega)]
      · simp (disch := omega) only [pI, pL, pB, up2_s, up2_ne]; exact v3
    · rw [if_neg c2]
      have hk2 : tp (pS tp n i) ≠ 256 := by omega
      have ek : pK tp n i = tp (pS tp n i) := by unfold pK; rw [if_pos c, if_neg c2]
      have ee : pE tp n i = pS tp n i + 1 := by unfold pE; rw [if_pos c, if_neg c2]
      have hq := rk_all _ u1
      rw [← Option.bind_assoc, hq]
      simp only [Option.bind_some]
      refine ⟨_, rfl, (g2.tr (Rp.pI (W := wRd) ⟨rfl, rfl, by decide, by decide⟩) (fun _ _ _ z => z)).tr (Rp.pI (W := wRd) ⟨rfl, rfl, by decide, by decide⟩) (fun _ _ _ z => z), ?_⟩
      unfold rPc
      rw [ek, ee, if_neg hk2]
      refine ⟨hi, ?_, ?_, ?_, ?_⟩
      · simp (disch := omega) only [pI, pL, pB, up2_s, up2_ne]
      · simp (disch := omega) only [pI, pL, pB, up2_s, up2_ne]; exact y1
      · simp (disch := omega) only [pI, pL, pB, up2_s, up2_ne]; exact y2
      · simp (disch := omega) only [pI, pL, pB, up2_s, up2_ne]
        rw [show (1 : Int32) = nI 1 from rfl, nI_add]
  · rw [if_neg (by omega)]
    refine ⟨_, rfl, g2.tr (Rp.pI (W := wRd) ⟨rfl, rfl, by decide, by decide⟩) (fun _ _ _ z => z), ?_⟩
    have ek : pK tp n i = 257 := by unfold pK; rw [if_neg c]
    have ee : pE tp n i = pS tp n i := by unfold pE; rw [if_neg c]
    unfold rPc
    rw [ek, ee, if_neg (by decide)]
    refine ⟨hi, ?_, ?_, ?_, ?_⟩
    · simp (disch := omega) only [pI, pL, pB, up2_s, up2_ne]; rfl
    · simp (disch := omega) only [pI, pL, pB, up2_s, up2_ne]; exact y1
    · simp (disch := omega) only [pI, pL, pB, up2_s, up2_ne]; exact y2
    · simp (disch := omega) only [pI, pL, pB, up2_s, up2_ne]; exact y3
theorem rdv {R : RS} {tp : Nat → Nat} {n i : Nat} {st sp : Bool} (h : rEnv R tp n st sp) (hc : rPc R tp n i) : ∃ R', M_read R = some R' ∧ Rp wRd R R' ∧ rPc R' tp n (pE tp n i) ∧ rEnv R' tp n st sp := by
  obtain ⟨R', e1, g1, c1⟩ := M_read_ok h (pE_b hc.1).2 hc.2.2.2.2
  exact ⟨R', e1, g1, c1, h.rp g1 wRd_env⟩
theorem rEnv.tp {R : RS} {tp : Nat → Nat} {n : Nat} {st sp : Bool} (h : rEnv R tp n st sp) : ∀ j, j < 600 → tp j < 256 := fun j hj => (h.2.1 j hj).1
theorem rEnv.k {R : RS} {tp : Nat → Nat} {n i : Nat} {st sp : Bool} (h : rEnv R tp n st sp) (hi : i ≤ n) : pK tp n i < 258 := pK_lt h.tp h.1 hi
theorem M_fails_ok {R : RS} {tp : Nat → Nat} {n : Nat} {st sp : Bool} (h : rEnv R tp n st sp) : M_fails R = some (false, pI R 45 (R.1 0 41)) := by
  unfold M_fails
  rw [h.2.2.2.2.2]
  rw [if_neg (fun z => z rfl)]
  rfl
theorem M_beginsPart_ok {R : RS} {tp : Nat → Nat} {n i : Nat} {st sp : Bool} (h : rEnv R tp n st sp) (hc : rPc R tp n i) : M_beginsPart R = some (qBeg (pK tp n i)) := by
  have hk := h.k hc.1
  unfold M_beginsPart qBeg
  rw [hc.2.1, show (1 : Int32) = nI 1 from rfl, show (40 : Int32) = nI 40 from rfl, show (45 : Int32) = nI 45 from rfl, show (34 : Int32) = nI 34 from rfl, show (91 : Int32) = nI 91 from rfl]
  simp only [rk_1 hk, rk_c hk (show 40 = 40 ∨ _ by decide), rk_c hk (c := 45) (by decide), rk_c hk (c := 34) (by decide), rk_c hk (c := 91) (by decide)]
  generalize pK tp n i = k at *
  by_cases k1 : k = 256
  · rw [if_pos k1, decide_eq_true (by omega)]
  rw [if_neg k1]
  by_cases k3 : k = 40
  · rw [if_pos k3, decide_eq_true (by omega)]
  rw [if_neg k3]
  by_cases k5 : k = 45
  · rw [if_pos k5, decide_eq_true (by omega)]
  rw [if_neg k5]
  by_cases k2 : k = 34
  · rw [if_pos k2, decide_eq_true (by omega)]
  rw [if_neg k2]
  by_cases k4 : k = 91
  · rw [if_neg (fun z => z k4), decide_eq_true (by omega)]
  rw [if_pos k4, decide_eq_false (by omega)]
