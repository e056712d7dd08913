/-! THE REFERENCE'S CALLS: frequency; what is scratch -/
def wScr : Nat → Nat → Nat → Prop := fun _ c k => 27 ≤ c ∨ (c = 0 ∧ 38 ≤ k)
theorem rH.scr {R R' : RS} {tp : Nat → Nat} {n : Nat} {D : List DocT} {dl : Nat → Bool} {bs : Nat} {G : List SegT} {V : Nat → VwT} {A : AnT} {nr : Option (List Nat)} {mg : Nat} {st sp : Bool} (h : rH R tp n D dl bs G V A nr mg st sp) (k : Rp wScr R R') : rH R' tp n D dl bs G V A nr mg st sp := by
  obtain ⟨h1, h2, h3, h4, h5, h6, h7, h8, h9, h10⟩ := h
  refine ⟨h1.rp k (by unfold wScr; omega) (fun _ => by unfold wScr; omega), h2.rp k (by unfold wScr; omega) (fun _ _ _ _ _ => by unfold wScr; omega), h3.rp k (by unfold wScr; omega) (fun _ => by unfold wScr; omega), h4.rp k (by unfold wScr; omega) (fun _ _ _ _ => by unfold wScr; omega), fun i hi => (h5 i hi).rp k (fun _ _ _ _ _ => by unfold wScr; omega), h6.rp k ⟨by unfold wScr; omega, by unfold wScr; omega, by unfold wScr; omega⟩ (fun _ _ _ _ => by unfold wScr; omega), h7.rp k (by unfold wScr; omega) (fun _ => by unfold wScr; omega), ?_, ?_, ?_⟩
  · rw [k.I (by decide) (by unfold wScr; omega)]; exact h8
  · rw [k.B (by decide) (by unfold wScr; omega)]; exact h9
  · rw [k.B (by decide) (by unfold wScr; omega)]; exact h10
theorem wTm_s : ∀ t c k, wTm t c k → wScr t c k := fun t c k q => by
  unfold wTm at q
  unfold wScr
  obtain ⟨rfl, ⟨rfl, rfl⟩ | rfl⟩ := q <;> omega
theorem enc_0 {t : List Nat} (h : isTerm t) : enc t = 0 ↔ t = [] := by
  constructor
  · intro q
    apply Classical.byContradiction
    intro z
    have := enc_pos h z
    omega
  · rintro rfl
    rfl
theorem w01 (w : Int32) : (decide (0 ≤ w ∧ w ≤ 1)) = decide (w = 0 ∨ w = 1) := by
  rcases i32_cases w with z | ⟨i, hi, rfl⟩
  · have h0 : ¬ w = 0 := neg_ne z (b := 0) (by omega)
    have h1 : ¬ w = 1 := neg_ne z (b := 1) (by omega)
    have h3 : ¬ (0 ≤ w) := Int32.not_le.mpr z
    simp only [h0, h1, h3, if_true, if_false, not_true_eq_false, not_false_eq_true, true_and, and_true, false_and, and_false, true_or, or_true, false_or, or_false, decide_true, decide_false, Bool.false_eq_true, reduceCtorEq, Option.bind_some, Option.map_some, Option.map_none, Option.bind_none, jn_l, jn_r, jn_n, se_l, se_r]
  · simp (disch := omega) only [nl, nI_add, nI_mul, iSub, iEq, iLe, iLt, iEqN, iNEq, iNN, iLtN, iNLt, iLeN, iNLe, iAddN, iNAdd, iMin, iMax, iDiv, iRem]
    rw [decide_eq_decide]
    omega
/-- views in a hold -/
def okVl (V : Nat → VwT) : Prop := ∀ i, i < 4 → (V i).1 = true → (vDocs (V i)).length ≤ 400
theorem M_frequency_ok {R : RS} {tp : Nat → Nat} {n : Nat} {D : List DocT} {dl : Nat → Bool} {bs : Nat} {G : List SegT} {V : Nat → VwT} {A : AnT} {nr : Option (List Nat)} {mg : Nat} {st sp : Bool} (h : rH R tp n D dl bs G V A nr mg st sp) (hDL : D.length ≤ 400) (hT : okTx D) (hVd : okV D V) (hVl : okVl V) (x w : Int32) : ∃ R', M_frequency R x w = some (freqS D V st sp tp n x w, R') ∧ rH R' tp 0 D dl bs G V A nr mg st sp := by
  have hn := h.1.1
  obtain ⟨e1, H1⟩ := rH_tape h
  have hby : rBy (pI R 3 0) tp := H1.1.by
  unfold M_frequency freqS
  simp only [Option.bind_some]
  generalize pI R 3 0 = R1 at *
  rw [M_in_ok, w01, e1]
  simp only [Option.bind_some]
  by_cases hw : w = 0 ∨ w = 1
  · rw [decide_eq_true hw]
    simp only [if_true]
    rw [M_isView_ok H1.2.2.2.2.1]
    cases hx : vAt V x with
    | none => exact ⟨R1, rfl, H1⟩
    | some i =>
      obtain ⟨hi, rfl, ho⟩ := vAt_ok hx
      simp only [Option.isSome_some, Option.bind_some, if_true]
      rw [M_isWord_ok hby hn]
      cases hW : isW tp n with
      | false =>
        simp only [Option.bind_some, Bool.false_eq_true, if_false, and_false]
        exact ⟨R1, rfl, H1⟩
      | true =>
        obtain ⟨hn0, hwd⟩ := isW_wd hW hn (fun i hi => (hby i hi).1)
        have hterm := mkT_term (st := st) (sp := sp) hwd
        have ht12 := hterm.1
        simp only [Option.bind_some, if_true, hw, and_self]
        obtain ⟨R2, e2, k2, t2⟩ := M_makeTerm_ok hby H1.2.2.2.2.2.2.2.2.1 H1.2.2.2.2.2.2.2.2.2 (p := 0) (k := n) (by omega) hwd
        rw [show (0 : Int32) = nI 0 from rfl, e2]
        simp only [Option.bind_some, t2.1]
        generalize mkT st sp tp 0 n = t at *
        simp only [iEq (show t.length < 2147483648 by omega) (show 0 < 2147483648 by omega)]
        have H2 := H1.scr (k2.mono wTm_s)
        by_cases c : t = []
        · subst c
          simp only [List.length_nil, not_true_eq_false, if_false, enc_nil, if_true]
          exact ⟨R2, rfl, H2⟩
        · have hl : 0 < t.length := List.length_pos_iff.mpr c
          rw [if_pos (by omega)]
          have he : ¬ enc t = 0 := fun q => c ((enc_0 hterm).mp q)
          rw [if_neg he, wrI_ok (by omega) (by omega)]
          simp only [Option.bind_some]
          have kw : Rp (fun t c k => t = 0 ∧ c = 33) R2 (up2 R2.1 33 0 (nI t.length), R2.2) := Rp.wI ⟨rfl, rfl⟩
          have a33 : (up2 R2.1 33 0 (nI t.length), R2.2).1 33 0 = nI t.length := by simp only [pI, pL, pB, up2_s, up2_ne]
          have tw := t2.rp kw (by omega) (fun _ => by omega)
          generalize ((up2 R2.1 33 0 (nI t.length), R2.2) : RS) = R3 at *
          obtain ⟨z, hz, z1, z2⟩ : ∃ z, lp (fun q : Int32 × RS => M_frequency_l66 q.2 (nI i) w q.1) (nI 0, R3) = some z ∧ (Rp wScr R2 z ∧ rWd z 0 t) := by
            refine lp_for (fun k (Y : RS) => (nI k, Y)) t.length (fun k Y => Rp wScr R2 Y ∧ rTm Y t ∧ Y.1 33 0 = nI t.length ∧ ∀ j, j < k → Y.1 34 j = nI (t.getD j 0)) _ (fun k Y hk hI => ?_) (fun Y hI => ?_) t.length 0 _ (by omega) ⟨kw.mono (fun t c k q => by unfold wScr; omega), tw, a33, fun j hj => absurd hj (by omega)⟩
            · left
              obtain ⟨y1, y2, y3, y4⟩ := hI
              unfold M_frequency_l66
              rw [y2.1]
              simp (disch := first | assumption | omega | (simp only [gT_sI, gT_sL, gT_sR, gT_sB]; first | assumption | omega)) only [Option.bind_some, ldI_ok, ldL_ok, ldR_ok, ldB_ok, stI_ok, stL_ok, stR_ok, stB_ok, chk_ok, raI_k, raL_k, raR_k, raB_k, waI_k, waL_k, waB_k, waR_k, alen_k, gT_sI, gT_sL, gT_sR, gT_sB, gN_sI, gN_sL, gN_sR, gN_sB, gI_sL, gI_sR, gI_sB, gL_sI, gL_sR, gL_sB, gR_sI, gR_sL, gR_sB, gB_sI, gB_sL, gB_sR, gI_sIs, gL_sLs, gR_sRs, gB_sBs, gI_sIn, gL_sLn, gR_sRn, gB_sBn, rdI_ok, rdL_ok, rdB_ok, wrI_ok, wrL_ok, wrB_ok, nl, nI_add, nI_mul, iSub, iEq, iLe, iLt, iEqN, iNEq, iNN, iLtN, iNLt, iLeN, iNLe, iAddN, iNAdd, iMin, iMax, iDiv, iRem, y2.2 k hk]
              rw [if_neg (by omega)]
              have kk : Rp (fun t c j => t = 0 ∧ c = 34 ∧ j = k) Y (up2 Y.1 34 k (nI (t.getD k 0)), Y.2) := Rp.wI ⟨rfl, rfl, rfl⟩
              refine ⟨_, rfl, Rp.tr y1 kk (fun t c k q => by unfold wScr; omega), y2.rp kk (by omega) (fun _ => by omega), ?_, fun j hj => ?_⟩
              · rw [kk.I (by decide) (by omega)]; exact y3
              · by_cases q : j = k
                · subst q; simp only [pI, pL, pB, up2_s, up2_ne]
                · rw [kk.I (by decide) (by omega)]; exact y4 j (by omega)
            · obtain ⟨y1, y2, y3, y4⟩ := hI
              refine ⟨Y, ?_, y1, y3, fun k hk => by rw [Nat.mul_zero, Nat.zero_add]; exact y4 k hk⟩
              unfold M_frequency_l66
              rw [y2.1]
              simp (disch := omega) only [nl, nI_add, nI_mul, iSub, iEq, iLe, iLt, iEqN, iNEq, iNN, iLtN, iNLt, iLeN, iNLe, iAddN, iNAdd, iMin, iMax, iDiv, iRem]
              rw [if_pos (by omega)]
          rw [hz]
          simp only [Option.bind_some]
          have Hz := H2.scr z1
          have ew : w = nI (if w = 0 then 0 else 1) := by
            rcases hw with q | q
            · rw [q]; rfl
            · rw [q]; rfl
          have ef : (if w = 0 then 0 else 1) < 2 := by split <;> omega
          have := M_df_ok Hz.2.1 hDL hT hi (Hz.2.2.2.2.1 i hi) ho (hVd i hi ho) (hVl i hi ho) (f := if w = 0 then 0 else 1) ef z2 (by omega) hterm c
          rw [← ew] at this
          rw [this]
          exact ⟨z, rfl, Hz⟩
  · have hd : decide (w = 0 ∨ w = 1) = false := decide_eq_false hw
    rw [hd]
    simp only [Bool.false_eq_true, if_false, hw, false_and]
    cases vAt V x <;> exact ⟨R1, rfl, H1⟩
