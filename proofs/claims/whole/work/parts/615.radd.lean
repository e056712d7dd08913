/-! THE REFERENCE'S CALLS: add, the whole -/
theorem dlS_new {D : List DocT} {dl : Nat → Bool} {key : Int64} (h : ∀ i, D.length ≤ i → dl i = false) : ∀ i, D.length ≤ i → dlS D dl key i = false := fun i hi => by
  unfold dlS
  rw [if_neg (by omega)]
  exact h i hi
theorem M_add_ok {R : RS} {tp : Nat → Nat} {n : Nat} {D : List DocT} {dl : Nat → Bool} {bs : Nat} {G : List SegT} {V : Nat → VwT} {A : AnT} {nr : Option (List Nat)} {mg : Nat} {st sp : Bool} (h : rH R tp n D dl bs G V A nr mg st sp) (ok : okG D bs G mg) (hD : D.length < 64) (hu : uqK D dl) (hterm : ∀ i f, i < D.length → f < 2 → ∀ t, t ∈ dTok (dA D i) f → okTok t) (hdl : ∀ i, D.length ≤ i → dl i = false) (hb16 : bufS D dl bs < 16) (key : Int64) (x y : Int32) :
    (addBad tp n → ∃ R', M_add R key x y = some (-2, R') ∧ rH R' tp 0 D dl bs G V A nr mg st sp) ∧
    (¬ addBad tp n → ∃ R', M_add R key x y = some (nI (D.length + 1), R') ∧ rH R' tp 0 (addS st sp tp n D dl bs G mg key x y).1 (addS st sp tp n D dl bs G mg key x y).2.1 (addS st sp tp n D dl bs G mg key x y).2.2.1 (addS st sp tp n D dl bs G mg key x y).2.2.2.1 V A nr (addS st sp tp n D dl bs G mg key x y).2.2.2.2 st sp) := by
  have hn := h.1.1
  have hle := fz_le tp n
  obtain ⟨e1, H1⟩ := rH_tape h
  have hby : rBy (pI R 3 0) tp := H1.1.by
  have e2 := M_find0_ok hby hn key x y
  obtain ⟨o1, o2, o3, o4, o5, o6, o7, o8⟩ := ok
  have hq7 : (if nI n ≤ nI (fz tp n) then some (nI n) else some (nI (fz tp n) + 1)) = some (nI (min (fz tp n + 1) n)) := by
    simp only [iLe (show n < 2147483648 by omega) (show fz tp n < 2147483648 by omega), nl, nI_add]
    by_cases c : n ≤ fz tp n
    · rw [if_pos c, Nat.min_eq_right (by omega)]
    · rw [if_neg c, Nat.min_eq_left (by omega)]
  have c1 : (100 < nI (fz tp n)) = (100 < fz tp n) := iLt (a := 100) (by omega) (by omega)
  have c2 : (nI n - nI (min (fz tp n + 1) n) ≤ 400) = (n - min (fz tp n + 1) n ≤ 400) := by
    rw [iSub (by omega)]
    exact iLe (b := 400) (by omega) (by omega)
  constructor
  · intro hbad
    unfold addBad at hbad
    refine ⟨pI R 3 0, ?_, H1⟩
    unfold M_add
    rw [e1]
    simp only [Option.bind_some]
    rw [show (0 : Int32) = nI 0 from rfl] at e2 hby H1 ⊢
    rw [e2]
    simp only [Option.bind_some]
    rw [hq7]
    simp only [Option.bind_some, c1, c2]
    by_cases q : 100 < fz tp n
    · rw [if_pos q]
    · rw [if_neg q, if_neg (by omega)]
  · intro hbad
    have hbad' := hbad
    unfold addBad at hbad
    -- the old one goes
    obtain ⟨R2, e3, H2⟩ : ∃ R2, (M_find (pI R 3 0) key).bind (fun v12 => (if v12 = -1 then some (pI R 3 0) else (wrB (pI R 3 0) 5 400 v12 true).bind fun R15 => some R15)) = some R2 ∧ rH R2 tp 0 D (dlS D dl key) bs G V A nr mg st sp := by
      rw [M_find_ok H1.2.1 (by omega) hu key]
      by_cases c : fdS D dl key < D.length
      · have n1 : ¬ nI (fdS D dl key) = -1 := by
          have := iEqN (a := fdS D dl key) (b := 1) (by omega) (by omega)
          intro q
          exact absurd q (by rw [show (-1 : Int32) = -nI 1 from rfl, this]; exact not_false)
        rw [if_pos c]
        simp only [Option.bind_some]
        rw [if_neg n1, wrB_ok (by omega) (by omega)]
        exact ⟨_, rfl, rH_del H1 c⟩
      · rw [if_neg c, dlS_no c]
        simp only [Option.bind_some, if_true]
        exact ⟨_, rfl, H1⟩
    have hdl2 := dlS_new (key := key) hdl
    obtain ⟨R3, e4, H3⟩ := rH_add H2 hn (by omega) o1 hbad' o7 hterm (hdl2 _ (Nat.le_refl _)) key x y
    have hlen1 : (D ++ [addD st sp tp n key x y]).length = D.length + 1 := by rw [List.length_append]; rfl
    have e5 := M_inBuffer_ok H3.2.1 H3.2.2.1 (by omega) (by omega)
    have hbl : bufS (D ++ [addD st sp tp n key x y]) (dlS D dl key) bs ≤ 16 := by
      unfold bufS
      rw [hlen1, show D.length + 1 - bs = (D.length - bs) + 1 by omega, cN_s]
      have h1 : cN (fun k => !dlS D dl key (bs + k)) (D.length - bs) ≤ cN (fun k => !dl (bs + k)) (D.length - bs) := sN_mono _ (fun i hi => by
        by_cases q : bs + i = fdS D dl key ∧ bs + i < D.length
        · have : dlS D dl key (bs + i) = true := by unfold dlS; rw [if_pos q]
          simp only [this, Bool.not_true, Bool.false_eq_true, if_false]
          exact Nat.zero_le _
        · have : dlS D dl key (bs + i) = dl (bs + i) := by unfold dlS; rw [if_neg q]
          simp only [this]
          exact Nat.le_refl _)
      unfold bufS at hb16
      have : (if (!dlS D dl key (bs + (D.length - bs))) = true then 1 else 0) ≤ 1 := by split <;> omega
      omega
    have hpre : M_add R key x y = (M_inBuffer R3).bind fun v24 => Option.bind (if ¬ v24 = 16 then some R3 else (M_refresh R3).bind fun v27 => some v27.2) fun q25 => some ((q25.1 0 4), q25) := by
      unfold M_add
      rw [e1]
      simp only [Option.bind_some]
      rw [show (0 : Int32) = nI 0 from rfl] at e2 e3 e4 H1 ⊢
      rw [e2]
      simp only [Option.bind_some]
      rw [hq7]
      have c3 : ¬ (pI R 3 (nI 0)).1 0 4 = 400 := by
        rw [H1.2.1.1]
        have := iEq (a := D.length) (b := 400) (by omega) (by omega)
        intro q
        rw [show (400 : Int32) = nI 400 from rfl, this] at q
        omega
      simp only [Option.bind_some, c1, c2]
      rw [if_neg (by omega), if_pos (by omega), if_pos c3]
      rw [← Option.bind_assoc, e3]
      simp only [Option.bind_some] at e4 ⊢
      have e4' := congrArg (fun o => Option.bind o (fun R23 => (M_inBuffer R23).bind fun v24 => Option.bind (if ¬ v24 = 16 then some R23 else (M_refresh R23).bind fun v27 => some v27.2) fun q25 => some ((q25.1 0 4), q25))) e4
      simp only [Option.bind_assoc, Option.bind_some] at e4' ⊢
      exact e4'
    rw [hpre, e5]
    have c4 : (nI (bufS (D ++ [addD st sp tp n key x y]) (dlS D dl key) bs) = 16) = (bufS (D ++ [addD st sp tp n key x y]) (dlS D dl key) bs = 16) := iEq (b := 16) (by omega) (by omega)
    simp only [Option.bind_some, c4]
    unfold addS
    by_cases cf : 16 ≤ bufS (D ++ [addD st sp tp n key x y]) (dlS D dl key) bs
    · rw [if_neg (by omega), if_pos cf]
      have ok3 : okG (D ++ [addD st sp tp n key x y]) bs G mg := ⟨by omega, by omega, o3, o4, fun s hs d hd => by have := o5 s hs d hd; omega, o6, fun i f hi hf => by
        by_cases q : i = D.length
        · subst q; rw [dA_new]; exact addD_len hbad' f hf
        · rw [dA_app (by omega)]; exact o7 i f (by omega) hf, o8⟩
      obtain ⟨R4, e6, H4⟩ := M_refresh_ok H3 ok3
      rw [e6]
      simp only [Option.bind_some, H4.2.1.1, hlen1] at H4 ⊢
      exact ⟨R4, rfl, H4⟩
    · rw [if_pos (by omega), if_neg cf]
      simp only [Option.bind_some, H3.2.1.1, hlen1]
      exact ⟨R3, rfl, H3⟩
