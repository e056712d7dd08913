/-! SEGMENT: how many different terms; of both -/
/-- the term of token j of document d's field f -/
def tmA (D : List DocT) (f d j : Nat) : List Nat := (tA (dTok (dA D d) f) j).2.2
def tkN (D : List DocT) (f d : Nat) : Nat := (dTok (dA D d) f).length
/-- does a document have a term's bytes in a field -/
def hasB (D : List DocT) (f d : Nat) (t : List Nat) : Prop := ∃ j, j < tkN D f d ∧ tmA D f d j = t
def fstT (D : List DocT) (ds : List Nat) (f k j : Nat) : Prop := tmA D f (ds.getD k 0) j ≠ [] ∧ (∀ i, i < k → ¬ hasB D f (ds.getD i 0) (tmA D f (ds.getD k 0) j)) ∧ ∀ i, i < j → tmA D f (ds.getD k 0) i ≠ tmA D f (ds.getD k 0) j
noncomputable def bP (P : Prop) : Bool := @decide P (Classical.propDecidable P)
theorem bP_t {P : Prop} : bP P = true ↔ P := by
  unfold bP
  exact @decide_eq_true_iff P (Classical.propDecidable P)
theorem bP_of {P : Prop} [h : Decidable P] : bP P = decide P := by
  by_cases q : P
  · rw [bP_t.mpr q, decide_eq_true q]
  · rw [decide_eq_false q]
    exact Bool.eq_false_iff.mpr (fun z => q (bP_t.mp z))
noncomputable def nDf (D : List DocT) (ds : List Nat) (f : Nat) : Nat := sN (fun k => cN (fun j => bP (fstT D ds f k j)) (tkN D f (ds.getD k 0))) ds.length
theorem cN_ex1 {p : Nat → Bool} {n i : Nat} (hi : i < n) (h1 : p i = true) (h2 : ∀ k, k < n → p k = true → k = i) : cN p n = 1 := by
  have a := cN_one (p := p) n (fun i k hi hk e1 e2 => by rw [h2 i hi e1, h2 k hk e2])
  have b : 0 < cN p n := cN_pos.mpr ⟨i, hi, h1⟩
  omega
theorem cN_no {p : Nat → Bool} {n : Nat} (h : ∀ k, k < n → p k = false) : cN p n = 0 := by
  apply Nat.eq_zero_of_not_pos
  intro q
  obtain ⟨k, h1, h2⟩ := cN_pos.mp q
  rw [h k h1] at h2
  cases h2
theorem least_ex {P : Nat → Prop} (n : Nat) (h : P n) : ∃ k, k ≤ n ∧ P k ∧ ∀ i, i < k → ¬ P i := by
  induction n using Nat.strongRecOn with
  | _ n ih =>
    by_cases c : ∃ i, i < n ∧ P i
    · obtain ⟨i, hi, hp⟩ := c
      obtain ⟨k, h1, h2, h3⟩ := ih i hi hp
      exact ⟨k, by omega, h2, h3⟩
    · exact ⟨n, Nat.le_refl _, h, fun i hi q => c ⟨i, hi, q⟩⟩
theorem tcn_has {D : List DocT} {f d : Nat} {t : List Nat} (hT : okTx D) (hd : d < D.length) (hf : f < 2) (ht : isTerm t) : 0 < tcn (dTok (dA D d) f) (enc t) ↔ hasB D f d t := by
  unfold tcn
  rw [cN_pos]
  unfold hasB tkN tmA
  constructor
  · rintro ⟨k, h1, h2⟩
    have h2 := of_decide_eq_true h2
    exact ⟨k, h1, enc_inj ((hT d f hd hf).2 _ (getD_mem h1)).2.2 ht h2⟩
  · rintro ⟨k, h1, h2⟩
    exact ⟨k, h1, by rw [decide_eq_true_eq, h2]⟩
theorem nDf_E {D : List DocT} {ds : List Nat} {f : Nat} {E : List Nat} (hT : okTx D) (hd : ∀ d, d ∈ ds → d < D.length) (hf : f < 2) (h : vocE E (sgc D ds f)) : E.length = nDf D ds f := by
  obtain ⟨-, hs, hm, -, -⟩ := h
  have hdk : ∀ k, k < ds.length → ds.getD k 0 < D.length := fun k hk => hd _ (getD_mem hk)
  have htm : ∀ k, k < ds.length → ∀ j, j < tkN D f (ds.getD k 0) → isTerm (tmA D f (ds.getD k 0) j) := fun k hk j hj => ((hT _ f (hdk k hk) hf).2 _ (getD_mem hj)).2.2
  have hmem : ∀ t, isTerm t → t ≠ [] → (enc t ∈ E ↔ ∃ k, k < ds.length ∧ hasB D f (ds.getD k 0) t) := fun t ht hn => by
    rw [hm]
    unfold sgc
    rw [cN_pos]
    constructor
    · rintro ⟨-, k, h1, h2⟩
      exact ⟨k, h1, (tcn_has hT (hdk k h1) hf ht).mp (of_decide_eq_true h2)⟩
    · rintro ⟨k, h1, h2⟩
      exact ⟨fun q => hn ((enc_0 ht).mp q), k, h1, by rw [decide_eq_true_eq]; exact (tcn_has hT (hdk k h1) hf ht).mpr h2⟩
  -- each first one counts for one term of E
  have h1 : nDf D ds f = sN (fun k => sN (fun j => sN (fun i => if bP (fstT D ds f k j ∧ enc (tmA D f (ds.getD k 0) j) = E.getD i 0) = true then 1 else 0) E.length) (tkN D f (ds.getD k 0))) ds.length := by
    unfold nDf cN
    refine sN_congr _ (fun k hk => sN_congr _ (fun j hj => ?_))
    by_cases c : fstT D ds f k j
    · rw [if_pos (bP_t.mpr c)]
      have ht := htm k hk j hj
      have hin : enc (tmA D f (ds.getD k 0) j) ∈ E := (hmem _ ht c.1).mpr ⟨k, hk, j, hj, rfl⟩
      obtain ⟨i, hi, e⟩ := List.getElem_of_mem hin
      have e : E.getD i 0 = enc (tmA D f (ds.getD k 0) j) := by
        rw [List.getD_eq_getElem?_getD, List.getElem?_eq_getElem hi]
        exact e
      exact (cN_ex1 (p := fun i => bP (fstT D ds f k j ∧ enc (tmA D f (ds.getD k 0) j) = E.getD i 0)) hi (bP_t.mpr ⟨c, e.symm⟩) (fun i' hi' q => by
        have q := (bP_t.mp q).2
        rcases Nat.lt_trichotomy i' i with z | z | z
        · have := hs i' i z hi; omega
        · exact z
        · have := hs i i' z hi'; omega)).symm
    · rw [if_neg (fun q => c (bP_t.mp q))]
      exact (sN_zero.mpr (fun i _ => if_neg (fun q => c (bP_t.mp q).1))).symm
  have h2 : nDf D ds f = sN (fun i => sN (fun k => sN (fun j => if bP (fstT D ds f k j ∧ enc (tmA D f (ds.getD k 0) j) = E.getD i 0) = true then 1 else 0) (tkN D f (ds.getD k 0))) ds.length) E.length := by
    rw [h1, sN_comm (fun i k => sN (fun j => if bP (fstT D ds f k j ∧ enc (tmA D f (ds.getD k 0) j) = E.getD i 0) = true then 1 else 0) (tkN D f (ds.getD k 0)))]
    refine sN_congr _ (fun k _ => ?_)
    exact (sN_comm (fun i j => if bP (fstT D ds f k j ∧ enc (tmA D f (ds.getD k 0) j) = E.getD i 0) = true then 1 else 0) (tkN D f (ds.getD k 0)) E.length).symm
  rw [h2, sN_congr (d := fun _ => 1) E.length (fun i hi => ?_), sN_const, Nat.mul_one]
  -- just one place is the first of a term
  obtain ⟨z0, zp⟩ := (hm _).mp (getD_mem (d := 0) hi)
  unfold sgc at zp
  obtain ⟨k1, hk1, q1⟩ := cN_pos.mp zp
  have q1 := of_decide_eq_true q1
  unfold tcn at q1
  obtain ⟨j1, hj1, q2⟩ := cN_pos.mp q1
  have q2 : enc (tmA D f (ds.getD k1 0) j1) = E.getD i 0 := of_decide_eq_true q2
  have ht1 := htm k1 hk1 j1 hj1
  generalize hτ : tmA D f (ds.getD k1 0) j1 = τ at *
  have hτn : τ ≠ [] := fun q => z0 (by rw [← q2, q]; rfl)
  obtain ⟨k0, a1, a2, a3⟩ := least_ex (P := fun k => k < ds.length ∧ hasB D f (ds.getD k 0) τ) k1 ⟨hk1, j1, hj1, hτ⟩
  obtain ⟨j2, b1, b2⟩ := a2.2
  obtain ⟨j0, c1, c2, c3⟩ := least_ex (P := fun j => tmA D f (ds.getD k0 0) j = τ) j2 b2
  have hfst : fstT D ds f k0 j0 := ⟨by rw [c2]; exact hτn, fun i' hi' q => by
    rw [c2] at q
    exact a3 i' hi' ⟨by omega, q⟩, fun i' hi' => by
    rw [c2]
    exact c3 i' hi'⟩
  have huniq : ∀ k, k < ds.length → ∀ j, j < tkN D f (ds.getD k 0) → fstT D ds f k j → enc (tmA D f (ds.getD k 0) j) = E.getD i 0 → k = k0 ∧ j = j0 := fun k hk j hj hF he => by
    have hte : tmA D f (ds.getD k 0) j = τ := enc_inj (htm k hk j hj) ht1 (by rw [he, q2])
    have hk0 : k = k0 := by
      rcases Nat.lt_trichotomy k k0 with z | z | z
      · exact absurd ⟨hk, j, hj, hte⟩ (a3 k z)
      · exact z
      · exact absurd (by rw [hte]; exact a2.2) (hF.2.1 k0 z)
    subst hk0
    refine ⟨rfl, ?_⟩
    rcases Nat.lt_trichotomy j j0 with z | z | z
    · exact absurd hte (c3 j z)
    · exact z
    · exact absurd (by rw [c2, hte]) (hF.2.2 j0 z)
  have hg : ∀ k, k < ds.length → sN (fun j => if bP (fstT D ds f k j ∧ enc (tmA D f (ds.getD k 0) j) = E.getD i 0) = true then 1 else 0) (tkN D f (ds.getD k 0)) = if decide (k = k0) = true then 1 else 0 := fun k hk => by
    by_cases c : k = k0
    · subst c
      rw [if_pos (decide_eq_true rfl)]
      exact cN_ex1 (p := fun j => bP (fstT D ds f k j ∧ enc (tmA D f (ds.getD k 0) j) = E.getD i 0)) (show j0 < tkN D f (ds.getD k 0) by omega) (bP_t.mpr ⟨hfst, by rw [c2]; exact q2⟩) (fun j hj q => (huniq k hk j hj (bP_t.mp q).1 (bP_t.mp q).2).2)
    · rw [if_neg (by simpa using c)]
      exact cN_no (p := fun j => bP (fstT D ds f k j ∧ enc (tmA D f (ds.getD k 0) j) = E.getD i 0)) (fun j hj => Bool.eq_false_iff.mpr (fun q => c (huniq k hk j hj (bP_t.mp q).1 (bP_t.mp q).2).1))
  rw [sN_congr _ hg]
  exact cN_ex1 (p := fun k => decide (k = k0)) a2.1 (decide_eq_true rfl) (fun k _ q => of_decide_eq_true q)
/-! the calls -/
noncomputable def segS (D : List DocT) (dl : Nat → Bool) (G : List SegT) (s w : Int32) : Int32 := if w < 0 then -2 else if w ≤ 4 then (if 0 ≤ s ∧ s < nI G.length then (if w = 0 then nI (gA G s.toNatClampNeg).1 else if w = 1 then nI (gA G s.toNatClampNeg).2.length else if w = 2 then nI (cN (fun k => dl ((gA G s.toNatClampNeg).2.getD k 0)) (gA G s.toNatClampNeg).2.length) else if w = 3 then nI (nDf D (gA G s.toNatClampNeg).2 0) else nI (nDf D (gA G s.toNatClampNeg).2 1)) else -1) else -2
theorem E_segment_ok {e : Nat} {da : Nat → Nat} {σ : Mem} {tp : Nat → Nat} {n : Nat} {D : List DocT} {dl : Nat → Bool} {bs : Nat} {G : List SegT} {V : Nat → VwT} {A : AnT} {nr : Option (List Nat)} {mg : Nat} {st sp : Bool} (h : cH e da σ tp n D dl bs G V A nr mg st sp) (hT : okTx D) (hds : ∀ s, s ∈ G → ∀ d, d ∈ s.2 → d < D.length) (htl : tot G ≤ 400) (x w : Int32) : E_segment σ e x w = some (segS D dl G x w) := by
  obtain ⟨hF, -, hD, -, hG, -⟩ := h
  have t0 := iFix0 hF
  have h16 := hG.2.1
  unfold E_segment segS
  by_cases w0 : w < 0
  · rw [if_pos w0, if_pos w0]
  rw [if_neg w0, if_neg w0]
  by_cases w4 : w ≤ 4
  · rw [if_pos w4, if_pos w4, chk_ok t0]
    simp only [Option.bind_some]
    rcases i32_cases x with z | ⟨j, hj, rfl⟩
    · have : ¬ 0 ≤ x := Int32.not_le.mpr z
      unfold E_segmentAt
      rw [if_pos z, if_neg (fun q => this q.1)]
      rfl
    · have c0 : (0 ≤ nI j ∧ nI j < nI G.length) = (j < G.length) := by
        have e1 : (0 ≤ nI j) = True := eq_true (nI_pos' (by omega))
        rw [e1, iLt hj (by omega), true_and]
      simp only [c0]
      rw [nI_clamp (by omega)]
      by_cases c : j < G.length
      · obtain ⟨s, c1, q, v, u, s1, s2, s3, s4, s5, s6, s7, s8, s9⟩ := hG.2.2 j c
        rw [if_pos c, E_segmentAt_ok hF hG.1 h16 c c1]
        have ts := s1.t
        have tq := s6.t
        have hd := hds _ (gA_mem c)
        have hl : (gA G j).2.length ≤ 400 := by
          have := sm_mem (fun s => s.2.length) G _ (gA_mem c)
          unfold tot at htl
          have this : (gA G j).2.length ≤ sm (fun s => s.2.length) G := this
          omega
        obtain ⟨E0, ve0, vs0, -⟩ := s8.E
        obtain ⟨E1, ve1, vs1, -⟩ := s9.E
        have n0 := nDf_E hT hd (by omega) ve0
        have n1 := nDf_E hT hd (by omega) ve1
        have tv := s8.t
        have tu := s9.t
        simp only [Option.bind_some, reduceCtorEq, if_false]
        by_cases w1 : w = 0
        · rw [if_pos w1, if_pos w1]
          simp (disch := first | assumption | omega | (simp only [gT_sI, gT_sL, gT_sR, gT_sB]; first | assumption | omega)) only [Option.bind_some, ldI_ok, ldL_ok, ldR_ok, ldB_ok, stI_ok, stL_ok, stR_ok, stB_ok, chk_ok, raI_k, raL_k, raR_k, raB_k, waI_k, waL_k, waB_k, waR_k, alen_k, gT_sI, gT_sL, gT_sR, gT_sB, gN_sI, gN_sL, gN_sR, gN_sB, gI_sL, gI_sR, gI_sB, gL_sI, gL_sR, gL_sB, gR_sI, gR_sL, gR_sB, gB_sI, gB_sL, gB_sR, gI_sIs, gL_sLs, gR_sRs, gB_sBs, gI_sIn, gL_sLn, gR_sRn, gB_sBn, rdI_ok, rdL_ok, rdB_ok, wrI_ok, wrL_ok, wrB_ok, s2]
        rw [if_neg w1, if_neg w1]
        by_cases w1 : w = 1
        · rw [if_pos w1, if_pos w1]
          simp (disch := first | assumption | omega | (simp only [gT_sI, gT_sL, gT_sR, gT_sB]; first | assumption | omega)) only [Option.bind_some, ldI_ok, ldL_ok, ldR_ok, ldB_ok, stI_ok, stL_ok, stR_ok, stB_ok, chk_ok, raI_k, raL_k, raR_k, raB_k, waI_k, waL_k, waB_k, waR_k, alen_k, gT_sI, gT_sL, gT_sR, gT_sB, gN_sI, gN_sL, gN_sR, gN_sB, gI_sL, gI_sR, gI_sB, gL_sI, gL_sR, gL_sB, gR_sI, gR_sL, gR_sB, gB_sI, gB_sL, gB_sR, gI_sIs, gL_sLs, gR_sRs, gB_sBs, gI_sIn, gL_sLn, gR_sRn, gB_sBn, rdI_ok, rdL_ok, rdB_ok, wrI_ok, wrL_ok, wrB_ok, s3, s6.m]
        rw [if_neg w1, if_neg w1]
        by_cases w1 : w = 2
        · rw [if_pos w1, if_pos w1]
          have hlp : lp (fun q : Int32 × Int32 => Se_deletedDocuments_l4 σ s q.1 q.2) (nI 0, nI 0) = some (nI (cN (fun k => dl ((gA G j).2.getD k 0)) (gA G j).2.length)) := by
            refine lp_sum (c := fun k => if dl ((gA G j).2.getD k 0) = true then 1 else 0) (gA G j).2.length 0 (fun k hk => ?_) ?_
            · rw [Nat.zero_add]
              have dd := hD.2.2 _ (hd _ (getD_mem (d := 0) hk))
              have td := dd.2.1.1.t
              have hmm := s6.m
              unfold Se_deletedDocuments_l4
              simp (disch := first | assumption | omega | (simp only [gT_sI, gT_sL, gT_sR, gT_sB]; first | assumption | omega)) only [Option.bind_some, ldI_ok, ldL_ok, ldR_ok, ldB_ok, stI_ok, stL_ok, stR_ok, stB_ok, chk_ok, raI_k, raL_k, raR_k, raB_k, waI_k, waL_k, waB_k, waR_k, alen_k, gT_sI, gT_sL, gT_sR, gT_sB, gN_sI, gN_sL, gN_sR, gN_sB, gI_sL, gI_sR, gI_sB, gL_sI, gL_sR, gL_sB, gR_sI, gR_sL, gR_sB, gB_sI, gB_sL, gB_sR, gI_sIs, gL_sLs, gR_sRs, gB_sBs, gI_sIn, gL_sLn, gR_sRn, gB_sBn, rdI_ok, rdL_ok, rdB_ok, wrI_ok, wrL_ok, wrB_ok, s3, hmm, s7 k hk]
              simp only [iLe (show (gA G j).2.length < 2147483648 by omega) (show k < 2147483648 by omega)]
              rw [if_neg (by omega), if_neg (by simp)]
              simp (disch := first | assumption | omega | (simp only [gT_sI, gT_sL, gT_sR, gT_sB]; first | assumption | omega)) only [Option.bind_some, ldI_ok, ldL_ok, ldR_ok, ldB_ok, stI_ok, stL_ok, stR_ok, stB_ok, chk_ok, raI_k, raL_k, raR_k, raB_k, waI_k, waL_k, waB_k, waR_k, alen_k, gT_sI, gT_sL, gT_sR, gT_sB, gN_sI, gN_sL, gN_sR, gN_sB, gI_sL, gI_sR, gI_sB, gL_sI, gL_sR, gL_sB, gR_sI, gR_sL, gR_sB, gB_sI, gB_sL, gB_sR, gI_sIs, gL_sLs, gR_sRs, gB_sBs, gI_sIn, gL_sLn, gR_sRn, gB_sBn, rdI_ok, rdL_ok, rdB_ok, wrI_ok, wrL_ok, wrB_ok, dd.2.2]
              cases dl ((gA G j).2.getD k 0) <;> simp only [if_true, if_false, not_true_eq_false, not_false_eq_true, true_and, and_true, false_and, and_false, true_or, or_true, false_or, or_false, decide_true, decide_false, Bool.false_eq_true, reduceCtorEq, Option.bind_some, Option.map_some, Option.map_none, Option.bind_none, jn_l, jn_r, jn_n, se_l, se_r, nl, nI_add, Nat.add_zero]
            · rw [Nat.zero_add]
              have hmm := s6.m
              unfold Se_deletedDocuments_l4
              simp (disch := first | assumption | omega | (simp only [gT_sI, gT_sL, gT_sR, gT_sB]; first | assumption | omega)) only [Option.bind_some, ldI_ok, ldL_ok, ldR_ok, ldB_ok, stI_ok, stL_ok, stR_ok, stB_ok, chk_ok, raI_k, raL_k, raR_k, raB_k, waI_k, waL_k, waB_k, waR_k, alen_k, gT_sI, gT_sL, gT_sR, gT_sB, gN_sI, gN_sL, gN_sR, gN_sB, gI_sL, gI_sR, gI_sB, gL_sI, gL_sR, gL_sB, gR_sI, gR_sL, gR_sB, gB_sI, gB_sL, gB_sR, gI_sIs, gL_sLs, gR_sRs, gB_sBs, gI_sIn, gL_sLn, gR_sRn, gB_sBn, rdI_ok, rdL_ok, rdB_ok, wrI_ok, wrL_ok, wrB_ok, s3, hmm]
              simp only [iLe (show (gA G j).2.length < 2147483648 by omega) (show (gA G j).2.length < 2147483648 by omega)]
              rw [if_pos (Nat.le_refl _)]
              rfl
          rw [chk_ok ts]
          simp only [Option.bind_some]
          unfold Se_deletedDocuments
          rw [show (0 : Int32) = nI 0 from rfl, hlp]
          rfl
        rw [if_neg w1, if_neg w1]
        by_cases w1 : w = 3
        · rw [if_pos w1, if_pos w1]
          simp (disch := first | assumption | omega | (simp only [gT_sI, gT_sL, gT_sR, gT_sB]; first | assumption | omega)) only [Option.bind_some, ldI_ok, ldL_ok, ldR_ok, ldB_ok, stI_ok, stL_ok, stR_ok, stB_ok, chk_ok, raI_k, raL_k, raR_k, raB_k, waI_k, waL_k, waB_k, waR_k, alen_k, gT_sI, gT_sL, gT_sR, gT_sB, gN_sI, gN_sL, gN_sR, gN_sB, gI_sL, gI_sR, gI_sB, gL_sI, gL_sR, gL_sB, gR_sI, gR_sL, gR_sB, gB_sI, gB_sL, gB_sR, gI_sIs, gL_sLs, gR_sRs, gB_sBs, gI_sIn, gL_sLn, gR_sRn, gB_sBn, rdI_ok, rdL_ok, rdB_ok, wrI_ok, wrL_ok, wrB_ok, s4, vs0, n0]
        rw [if_neg w1, if_neg w1]
        simp (disch := first | assumption | omega | (simp only [gT_sI, gT_sL, gT_sR, gT_sB]; first | assumption | omega)) only [Option.bind_some, ldI_ok, ldL_ok, ldR_ok, ldB_ok, stI_ok, stL_ok, stR_ok, stB_ok, chk_ok, raI_k, raL_k, raR_k, raB_k, waI_k, waL_k, waB_k, waR_k, alen_k, gT_sI, gT_sL, gT_sR, gT_sB, gN_sI, gN_sL, gN_sR, gN_sB, gI_sL, gI_sR, gI_sB, gL_sI, gL_sR, gL_sB, gR_sI, gR_sL, gR_sB, gB_sI, gB_sL, gB_sR, gI_sIs, gL_sLs, gR_sRs, gB_sBs, gI_sIn, gL_sLn, gR_sRn, gB_sBn, rdI_ok, rdL_ok, rdB_ok, wrI_ok, wrL_ok, wrB_ok, s5, vs1, n1]
      · rw [if_neg c]
        unfold E_segmentAt
        simp (disch := first | assumption | omega | (simp only [gT_sI, gT_sL, gT_sR, gT_sB]; first | assumption | omega)) only [Option.bind_some, ldI_ok, ldL_ok, ldR_ok, ldB_ok, stI_ok, stL_ok, stR_ok, stB_ok, chk_ok, raI_k, raL_k, raR_k, raB_k, waI_k, waL_k, waB_k, waR_k, alen_k, gT_sI, gT_sL, gT_sR, gT_sB, gN_sI, gN_sL, gN_sR, gN_sB, gI_sL, gI_sR, gI_sB, gL_sI, gL_sR, gL_sB, gR_sI, gR_sL, gR_sB, gB_sI, gB_sL, gB_sR, gI_sIs, gL_sLs, gR_sRs, gB_sBs, gI_sIn, gL_sLn, gR_sRn, gB_sBn, rdI_ok, rdL_ok, rdB_ok, wrI_ok, wrL_ok, wrB_ok, nl, nI_add, nI_mul, iSub, iEq, iLe, iLt, iEqN, iNEq, iNN, iLtN, iNLt, iLeN, iNLe, iAddN, iNAdd, iMin, iMax, iDiv, iRem, hG.1]
        rw [if_neg (by omega), if_pos (by omega)]
        rfl
  · rw [if_neg w4, if_neg w4]
/-! the reference compares tokens -/
theorem M_areAlike_ok {R : RS} {D : List DocT} {dl : Nat → Bool} (hD : rDocs R D dl) (hDL : D.length ≤ 400) (hT : okTx D) {d f k d' k' : Nat} (hd : d < D.length) (hf : f < 2) (hk : k < tkN D f d) (hd' : d' < D.length) (hk' : k' < tkN D f d') : M_areAlike R (nI (250 * d + 50 * f + k)) (nI (250 * d' + 50 * f + k')) = some (decide (tmA D f d k = tmA D f d' k')) := by
  unfold tkN at hk hk'
  unfold tmA
  obtain ⟨hl, hok⟩ := hT d f hd hf
  obtain ⟨hl', hok'⟩ := hT d' f hd' hf
  have htm : isTerm (tA (dTok (dA D d) f) k).2.2 := (hok _ (getD_mem hk)).2.2
  have htm' : isTerm (tA (dTok (dA D d') f) k').2.2 := (hok' _ (getD_mem hk')).2.2
  obtain ⟨u1, u2, u3, u4⟩ := (hD.2.2.2 d f hd hf).2 k hk
  obtain ⟨u1', u2', u3', u4'⟩ := (hD.2.2.2 d' f hd' hf).2 k' hk'
  have l1 := htm.1
  have l2 := htm'.1
  generalize (tA (dTok (dA D d) f) k).2.2 = a at *
  generalize (tA (dTok (dA D d') f) k').2.2 = b at *
  unfold M_areAlike
  simp (disch := first | assumption | omega | (simp only [gT_sI, gT_sL, gT_sR, gT_sB]; first | assumption | omega)) only [Option.bind_some, ldI_ok, ldL_ok, ldR_ok, ldB_ok, stI_ok, stL_ok, stR_ok, stB_ok, chk_ok, raI_k, raL_k, raR_k, raB_k, waI_k, waL_k, waB_k, waR_k, alen_k, gT_sI, gT_sL, gT_sR, gT_sB, gN_sI, gN_sL, gN_sR, gN_sB, gI_sL, gI_sR, gI_sB, gL_sI, gL_sR, gL_sB, gR_sI, gR_sL, gR_sB, gB_sI, gB_sL, gB_sR, gI_sIs, gL_sLs, gR_sRs, gB_sBs, gI_sIn, gL_sLn, gR_sRn, gB_sBn, rdI_ok, rdL_ok, rdB_ok, wrI_ok, wrL_ok, wrB_ok, u3, u3']
  simp only [iEq (show a.length < 2147483648 by omega) (show b.length < 2147483648 by omega)]
  have e1 : (if ¬ a.length = b.length then some false else some true) = some (decide (a.length = b.length)) := by
    by_cases c : a.length = b.length
    · simp [c]
    · simp [c]
  rw [e1]
  simp only [Option.bind_some]
  have hlp := cmp_lp (f := fun q : Bool × Int32 => M_areAlike_l24 R (nI (250 * d + 50 * f + k)) (nI (250 * d' + 50 * f + k')) q.1 q.2) (a := a) (b := b) (b0 := decide (a.length = b.length)) (n := a.length) (fun hb j hj => ?_) (fun j hj => ?_) (fun x => ?_)
  · rw [show (0 : Int32) = nI 0 from rfl, hlp]
    simp only [Option.bind_some]
    congr 1
    rw [← Bool.decide_and, decide_eq_decide, ← term_eq]
    constructor
    · rintro ⟨q1, q2⟩
      exact ⟨q1, fun k hk => q2 k (by omega)⟩
    · rintro ⟨q1, q2⟩
      exact ⟨q1, fun k hk => q2 k (by omega)⟩
  · have hb := of_decide_eq_true hb
    have v1 := u4 j hj
    have v2 := u4' j (by omega)
    have b1 := isTerm_at htm (k := j) hj
    have b2 := isTerm_at htm' (k := j) (by omega)
    unfold isTb at b1 b2
    unfold M_areAlike_l24
    simp (disch := first | assumption | omega | (simp only [gT_sI, gT_sL, gT_sR, gT_sB]; first | assumption | omega)) only [Option.bind_some, ldI_ok, ldL_ok, ldR_ok, ldB_ok, stI_ok, stL_ok, stR_ok, stB_ok, chk_ok, raI_k, raL_k, raR_k, raB_k, waI_k, waL_k, waB_k, waR_k, alen_k, gT_sI, gT_sL, gT_sR, gT_sB, gN_sI, gN_sL, gN_sR, gN_sB, gI_sL, gI_sR, gI_sB, gL_sI, gL_sR, gL_sB, gR_sI, gR_sL, gR_sB, gB_sI, gB_sL, gB_sR, gI_sIs, gL_sLs, gR_sRs, gB_sBs, gI_sIn, gL_sLn, gR_sRn, gB_sBn, rdI_ok, rdL_ok, rdB_ok, wrI_ok, wrL_ok, wrB_ok, u3]
    simp (disch := omega) only [nl, nI_add, nI_mul, iSub, iEq, iLe, iLt, iEqN, iNEq, iNN, iLtN, iNLt, iLeN, iNLe, iAddN, iNAdd, iMin, iMax, iDiv, iRem]
    rw [if_neg (by omega)]
    simp only [if_true]
    simp (disch := first | assumption | omega | (simp only [gT_sI, gT_sL, gT_sR, gT_sB]; first | assumption | omega)) only [Option.bind_some, ldI_ok, ldL_ok, ldR_ok, ldB_ok, stI_ok, stL_ok, stR_ok, stB_ok, chk_ok, raI_k, raL_k, raR_k, raB_k, waI_k, waL_k, waB_k, waR_k, alen_k, gT_sI, gT_sL, gT_sR, gT_sB, gN_sI, gN_sL, gN_sR, gN_sB, gI_sL, gI_sR, gI_sB, gL_sI, gL_sR, gL_sB, gR_sI, gR_sL, gR_sB, gB_sI, gB_sL, gB_sR, gI_sIs, gL_sLs, gR_sRs, gB_sBs, gI_sIn, gL_sLn, gR_sRn, gB_sBn, rdI_ok, rdL_ok, rdB_ok, wrI_ok, wrL_ok, wrB_ok, v1, v2]
    simp only [iEq (show a.getD j 0 < 2147483648 by omega) (show b.getD j 0 < 2147483648 by omega)]
    by_cases c : a.getD j 0 = b.getD j 0
    · simp only [c, if_true, if_false, not_true_eq_false, not_false_eq_true, true_and, and_true, false_and, and_false, true_or, or_true, false_or, or_false, decide_true, decide_false, Bool.false_eq_true, reduceCtorEq, Option.bind_some, Option.map_some, Option.map_none, Option.bind_none, jn_l, jn_r, jn_n, se_l, se_r, nl, nI_add]
    · simp only [c, if_true, if_false, not_true_eq_false, not_false_eq_true, true_and, and_true, false_and, and_false, true_or, or_true, false_or, or_false, decide_true, decide_false, Bool.false_eq_true, reduceCtorEq, Option.bind_some, Option.map_some, Option.map_none, Option.bind_none, jn_l, jn_r, jn_n, se_l, se_r, nl, nI_add]
  · unfold M_areAlike_l24
    simp (disch := first | assumption | omega | (simp only [gT_sI, gT_sL, gT_sR, gT_sB]; first | assumption | omega)) only [Option.bind_some, ldI_ok, ldL_ok, ldR_ok, ldB_ok, stI_ok, stL_ok, stR_ok, stB_ok, chk_ok, raI_k, raL_k, raR_k, raB_k, waI_k, waL_k, waB_k, waR_k, alen_k, gT_sI, gT_sL, gT_sR, gT_sB, gN_sI, gN_sL, gN_sR, gN_sB, gI_sL, gI_sR, gI_sB, gL_sI, gL_sR, gL_sB, gR_sI, gR_sL, gR_sB, gB_sI, gB_sL, gB_sR, gI_sIs, gL_sLs, gR_sRs, gB_sBs, gI_sIn, gL_sLn, gR_sRn, gB_sBn, rdI_ok, rdL_ok, rdB_ok, wrI_ok, wrL_ok, wrB_ok, u3]
    simp (disch := omega) only [nl, nI_add, nI_mul, iSub, iEq, iLe, iLt, iEqN, iNEq, iNN, iLtN, iNLt, iLeN, iNLe, iAddN, iNAdd, iMin, iMax, iDiv, iRem]
    rw [if_neg (by omega)]
    simp
  · unfold M_areAlike_l24
    simp (disch := first | assumption | omega | (simp only [gT_sI, gT_sL, gT_sR, gT_sB]; first | assumption | omega)) only [Option.bind_some, ldI_ok, ldL_ok, ldR_ok, ldB_ok, stI_ok, stL_ok, stR_ok, stB_ok, chk_ok, raI_k, raL_k, raR_k, raB_k, waI_k, waL_k, waB_k, waR_k, alen_k, gT_sI, gT_sL, gT_sR, gT_sB, gN_sI, gN_sL, gN_sR, gN_sB, gI_sL, gI_sR, gI_sB, gL_sI, gL_sR, gL_sB, gR_sI, gR_sL, gR_sB, gB_sI, gB_sL, gB_sR, gI_sIs, gL_sLs, gR_sRs, gB_sBs, gI_sIn, gL_sLn, gR_sRn, gB_sBn, rdI_ok, rdL_ok, rdB_ok, wrI_ok, wrL_ok, wrB_ok, u3]
    simp (disch := omega) only [nl, nI_add, nI_mul, iSub, iEq, iLe, iLt, iEqN, iNEq, iNN, iLtN, iNLt, iLeN, iNLe, iAddN, iNAdd, iMin, iMax, iDiv, iRem]
    rw [if_pos (by omega)]
theorem M_hasTerm_ok {R : RS} {D : List DocT} {dl : Nat → Bool} (hD : rDocs R D dl) (hDL : D.length ≤ 400) (hT : okTx D) {d f d' k' : Nat} (hd : d < D.length) (hf : f < 2) (hd' : d' < D.length) (hk' : k' < tkN D f d') : M_hasTerm R (nI d) (nI f) (nI (250 * d' + 50 * f + k')) = some (bP (hasB D f d (tmA D f d' k'))) := by
  obtain ⟨hl, -⟩ := hT d f hd hf
  have u0 : R.1 6 (2 * d + f) = nI (tkN D f d) := (hD.2.2.2 d f hd hf).1
  have hl : tkN D f d ≤ 50 + 150 * f := hl
  have hlp : lp (fun q : Int32 => M_hasTerm_l3 R (nI d) (nI f) (nI (250 * d' + 50 * f + k')) q) (nI 0) = some (if run (fun j => decide (tmA D f d j ≠ tmA D f d' k')) (tkN D f d) 0 < tkN D f d then .inl () else .inr ()) := by
    refine lp_run (p := fun j => decide (tmA D f d j ≠ tmA D f d' k')) (tkN D f d) 0 (fun j h1 h2 h3 => ?_) ?_
    · have h3 := of_decide_eq_true h3
      have hal := M_areAlike_ok hD hDL hT hd hf (show j < tkN D f d by omega) hd' hk'
      unfold M_hasTerm_l3 M_base
      simp (disch := first | assumption | omega | (simp only [gT_sI, gT_sL, gT_sR, gT_sB]; first | assumption | omega)) only [Option.bind_some, ldI_ok, ldL_ok, ldR_ok, ldB_ok, stI_ok, stL_ok, stR_ok, stB_ok, chk_ok, raI_k, raL_k, raR_k, raB_k, waI_k, waL_k, waB_k, waR_k, alen_k, gT_sI, gT_sL, gT_sR, gT_sB, gN_sI, gN_sL, gN_sR, gN_sB, gI_sL, gI_sR, gI_sB, gL_sI, gL_sR, gL_sB, gR_sI, gR_sL, gR_sB, gB_sI, gB_sL, gB_sR, gI_sIs, gL_sLs, gR_sRs, gB_sBs, gI_sIn, gL_sLn, gR_sRn, gB_sBn, rdI_ok, rdL_ok, rdB_ok, wrI_ok, wrL_ok, wrB_ok, nl, nI_add, nI_mul, iSub, iEq, iLe, iLt, iEqN, iNEq, iNN, iLtN, iNLt, iLeN, iNLe, iAddN, iNAdd, iMin, iMax, iDiv, iRem, u0]
      rw [if_neg (by omega), hal]
      simp [h3, nl, nI_add]
    · have hr := run_ge (fun j => decide (tmA D f d j ≠ tmA D f d' k')) (tkN D f d) 0
      have ho := run_out (fun j => decide (tmA D f d j ≠ tmA D f d' k')) (tkN D f d) 0
      generalize run (fun j => decide (tmA D f d j ≠ tmA D f d' k')) (tkN D f d) 0 = r at *
      unfold M_hasTerm_l3 M_base
      by_cases c : r < tkN D f d
      · have ho := of_decide_eq_false (ho (by omega))
        have ho : tmA D f d r = tmA D f d' k' := Decidable.not_not.mp ho
        have hal := M_areAlike_ok hD hDL hT hd hf c hd' hk'
        rw [if_pos c]
        simp (disch := first | assumption | omega | (simp only [gT_sI, gT_sL, gT_sR, gT_sB]; first | assumption | omega)) only [Option.bind_some, ldI_ok, ldL_ok, ldR_ok, ldB_ok, stI_ok, stL_ok, stR_ok, stB_ok, chk_ok, raI_k, raL_k, raR_k, raB_k, waI_k, waL_k, waB_k, waR_k, alen_k, gT_sI, gT_sL, gT_sR, gT_sB, gN_sI, gN_sL, gN_sR, gN_sB, gI_sL, gI_sR, gI_sB, gL_sI, gL_sR, gL_sB, gR_sI, gR_sL, gR_sB, gB_sI, gB_sL, gB_sR, gI_sIs, gL_sLs, gR_sRs, gB_sBs, gI_sIn, gL_sLn, gR_sRn, gB_sBn, rdI_ok, rdL_ok, rdB_ok, wrI_ok, wrL_ok, wrB_ok, nl, nI_add, nI_mul, iSub, iEq, iLe, iLt, iEqN, iNEq, iNN, iLtN, iNLt, iLeN, iNLe, iAddN, iNAdd, iMin, iMax, iDiv, iRem, u0]
        rw [if_neg (by omega), hal]
        simp [ho]
      · rw [if_neg c]
        simp (disch := first | assumption | omega | (simp only [gT_sI, gT_sL, gT_sR, gT_sB]; first | assumption | omega)) only [Option.bind_some, ldI_ok, ldL_ok, ldR_ok, ldB_ok, stI_ok, stL_ok, stR_ok, stB_ok, chk_ok, raI_k, raL_k, raR_k, raB_k, waI_k, waL_k, waB_k, waR_k, alen_k, gT_sI, gT_sL, gT_sR, gT_sB, gN_sI, gN_sL, gN_sR, gN_sB, gI_sL, gI_sR, gI_sB, gL_sI, gL_sR, gL_sB, gR_sI, gR_sL, gR_sB, gB_sI, gB_sL, gB_sR, gI_sIs, gL_sLs, gR_sRs, gB_sBs, gI_sIn, gL_sLn, gR_sRn, gB_sBn, rdI_ok, rdL_ok, rdB_ok, wrI_ok, wrL_ok, wrB_ok, nl, nI_add, nI_mul, iSub, iEq, iLe, iLt, iEqN, iNEq, iNN, iLtN, iNLt, iLeN, iNLe, iAddN, iNAdd, iMin, iMax, iDiv, iRem, u0]
        rw [if_pos (by omega)]
  unfold M_hasTerm
  rw [show (0 : Int32) = nI 0 from rfl, hlp]
  have hr := run_ge (fun j => decide (tmA D f d j ≠ tmA D f d' k')) (tkN D f d) 0
  by_cases c : run (fun j => decide (tmA D f d j ≠ tmA D f d' k')) (tkN D f d) 0 < tkN D f d
  · rw [if_pos c]
    have ho := of_decide_eq_false (run_out (fun j => decide (tmA D f d j ≠ tmA D f d' k')) (tkN D f d) 0 (by omega))
    have : bP (hasB D f d (tmA D f d' k')) = true := bP_t.mpr ⟨_, c, Decidable.not_not.mp ho⟩
    rw [this]
    rfl
  · rw [if_neg c]
    have : bP (hasB D f d (tmA D f d' k')) = false := Bool.eq_false_iff.mpr (fun q => by
      obtain ⟨j, h1, h2⟩ := bP_t.mp q
      have := of_decide_eq_true (run_in (fun j => decide (tmA D f d j ≠ tmA D f d' k')) (tkN D f d) 0 j (by omega) (by omega))
      exact this h2)
    rw [this]
    rfl
