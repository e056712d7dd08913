/-! the reference: sums, RARE, scores; words and beginnings -/
theorem M_least_ok {a : Nat} (h : a < 9223372036854775808) : M_least (lN a) = some (nI (min a qCap)) := by
  unfold M_least
  rw [show (1000000000 : Int64) = lN qCap from rfl, show (1000000000 : Int32) = nI qCap from rfl]
  have e : (lN a ≤ lN qCap) = (a ≤ qCap) := lLe h (by decide)
  simp only [e]
  by_cases c : a ≤ qCap
  · rw [if_pos c, lN_toI, Nat.min_eq_left c]
  · rw [if_neg c, Nat.min_eq_right (by omega)]
def rAc (R : RS) (o : Option Nat) : Prop := R.2.2 0 64 = o.isSome ∧ R.2.1 0 65 = lN (o.getD 0)
def wAc : Nat → Nat → Nat → Prop := fun t c j => c = 0 ∧ ((t = 3 ∧ j = 64) ∨ (t = 1 ∧ j = 65))
theorem rAc.rp {R R' : RS} {o : Option Nat} {W : Nat → Nat → Nat → Prop} (h : rAc R o) (hk : Rp W R R') (h1 : ¬ W 3 0 64) (h2 : ¬ W 1 0 65) : rAc R' o := ⟨by rw [hk.B (by decide) h1]; exact h.1, by rw [hk.L (by decide) h2]; exact h.2⟩
theorem M_come_ok {R : RS} {o : Option Nat} {v : Nat} (h : rAc R o) (ho : ∀ w, o = some w → w ≤ qCap) (hv : v ≤ qCap) : ∃ R', M_come R (nI v) = some R' ∧ Rp wAc R R' ∧ rAc R' (eitS o (some v)) := by
  obtain ⟨h1, h2⟩ := h
  unfold M_come
  simp only [Option.bind_some]
  have e0 : (pB R 64 true).2.1 0 65 = lN (o.getD 0) := by simp only [pI, pL, pB, up2_s, up2_ne]; exact h2
  have hg : o.getD 0 ≤ qCap := by
    cases o with
    | none => exact Nat.zero_le _
    | some w => exact ho w rfl
  rw [qC] at hv hg
  rw [e0, nI_l (by omega), lN_add, M_least_ok (by omega)]
  simp only [Option.bind_some]
  have hm : min (o.getD 0 + v) qCap ≤ qCap := Nat.min_le_right _ _
  rw [qC] at hm
  rw [qC, nI_l (by omega)]
  refine ⟨_, rfl, Rp.tr (R' := pB R 64 true) (Rp.pB ⟨rfl, .inl ⟨rfl, rfl⟩⟩) (Rp.pL ⟨rfl, .inr ⟨rfl, rfl⟩⟩) (fun _ _ _ z => z), ?_, ?_⟩
  · have : (eitS o (some v)).isSome = true := by cases o <;> rfl
    rw [this]
    simp only [pI, pL, pB, up2_s, up2_ne]
  · have : (eitS o (some v)).getD 0 = min (o.getD 0 + v) 1000000000 := by
      cases o with
      | none =>
        show v = min (0 + v) 1000000000
        rw [Nat.zero_add, Nat.min_eq_left hv]
      | some w => rfl
    rw [this]
    simp only [pI, pL, pB, up2_s, up2_ne]
theorem M_rare_ok {R : RS} {D : List DocT} {dl : Nat → Bool} (hD : rDocs R D dl) (hDL : D.length ≤ 400) (hT : okTx D) {i f w : Nat} {v : VwT} (hi : i < 4) (hV : rView R i v) (ho : v.1 = true) (hVd : ∀ d, d ∈ vDocs v → d < D.length) (hVl : (vDocs v).length ≤ 400) (h63 : R.1 0 63 = nI i) (hf : f < 2) {t : List Nat} (hw : rWd R w t) (hw4 : w < 400) (ht : isTerm t) (hn : t ≠ []) (hdf : 1 ≤ dfS D v f (enc t)) : M_rare R (nI f) (nI w) = some (nI (rrS (vDocs v).length (dfS D v f (enc t)))) := by
  have hdl : dfS D v f (enc t) ≤ 400 := Nat.le_trans (cN_le _ _) hVl
  have v2 := (hV.2 ho).2.1
  unfold M_rare
  rw [h63, M_df_ok hD hDL hT hi hV ho hVd hVl hf hw hw4 ht hn]
  simp only [Option.bind_some]
  unfold rrS
  rw [if_neg (by omega)]
  generalize dfS D v f (enc t) = h at *
  have hr := run_ge (fun k => decide (h ≤ (vDocs v).length / 2 ^ (k + 1))) 30 0
  have hrd : rdI R 17 4 (R.1 0 63) = some (nI (vDocs v).length) := by
    rw [h63, rdI_ok hi (by omega), v2]
  have hlp : lp (fun q : Int32 => M_rare_l14 R (nI h) q) (nI 0) = some (nI (run (fun k => decide (h ≤ (vDocs v).length / 2 ^ (k + 1))) 30 0)) := by
    refine lp_run (p := fun k => decide (h ≤ (vDocs v).length / 2 ^ (k + 1))) 30 0 (fun j h1 h2 h3 => ?_) ?_
    · have h3 := of_decide_eq_true h3
      unfold M_rare_l14
      rw [hrd]
      simp only [Option.bind_some]
      have hdiv : (vDocs v).length / 2 ^ (j + 1) ≤ (vDocs v).length := Nat.div_le_self _ _
      rw [show (1 : Int32) = nI 1 from rfl, nI_add, shr_ok _ (by omega) _ (by omega)]
      have e2 : (nI ((vDocs v).length / 2 ^ (j + 1)) < nI h) = ((vDocs v).length / 2 ^ (j + 1) < h) := iLt (by omega) (by omega)
      rw [if_neg (by rw [e2]; omega)]
    · have hro : run (fun k => decide (h ≤ (vDocs v).length / 2 ^ (k + 1))) 30 0 < 30 := by
        apply Nat.lt_of_not_le
        intro q
        have := of_decide_eq_true (run_in (fun k => decide (h ≤ (vDocs v).length / 2 ^ (k + 1))) 30 0 29 (by omega) (by omega))
        have h0 : (vDocs v).length / 2 ^ (29 + 1) = 0 := Nat.div_eq_of_lt (by omega)
        omega
      have hout := of_decide_eq_false (run_out (fun k => decide (h ≤ (vDocs v).length / 2 ^ (k + 1))) 30 0 (by omega))
      generalize run (fun k => decide (h ≤ (vDocs v).length / 2 ^ (k + 1))) 30 0 = r at *
      unfold M_rare_l14
      rw [hrd]
      simp only [Option.bind_some]
      have hdiv : (vDocs v).length / 2 ^ (r + 1) ≤ (vDocs v).length := Nat.div_le_self _ _
      rw [show (1 : Int32) = nI 1 from rfl, nI_add, shr_ok _ (by omega) _ (by omega)]
      have e2 : (nI ((vDocs v).length / 2 ^ (r + 1)) < nI h) = ((vDocs v).length / 2 ^ (r + 1) < h) := iLt (by omega) (by omega)
      rw [if_pos (by rw [e2]; omega)]
  rw [show (0 : Int32) = nI 0 from rfl, hlp]
  simp only [Option.bind_some]
  rw [show (1 : Int32) = nI 1 from rfl, nI_add]
theorem M_score_ok {R : RS} {D : List DocT} {dl : Nat → Bool} (hD : rDocs R D dl) (hDL : D.length ≤ 400) (hT : okTx D) {d f tf rare : Nat} (hd : d < D.length) (hf : f < 2) (htf : tf ≤ 200) (hr : rare ≤ 248) : M_score R (nI d) (nI f) (nI tf) (nI rare) = some (nI (64 * tf * rare * wtS f / (8 + tkN D f d))) := by
  obtain ⟨u0, -⟩ := hD.2.2.2 d f hd hf
  have u0 : R.1 6 (2 * d + f) = nI (tkN D f d) := u0
  have hlen := tkN_le hT hd hf
  have hw := wtS_le f
  have h1 : 64 * tf ≤ 12800 := by omega
  have h2 : 64 * tf * rare ≤ 12800 * 248 := Nat.mul_le_mul h1 hr
  have h3 := top_le htf hr hw
  unfold M_score
  rw [show (64 : Int64) = lN 64 from rfl, nI_l (by omega), lN_mul, M_least_ok (by omega)]
  simp only [Option.bind_some]
  rw [Nat.min_eq_left (by rw [qC]; omega), nI_l (by omega), nI_l (by omega), lN_mul, M_least_ok (by omega)]
  simp only [Option.bind_some]
  rw [Nat.min_eq_left (by rw [qC]; omega)]
  have ew : (if ¬ nI f = 0 then some (1 : Int64) else some 3) = some (lN (wtS f)) := by
    have : (nI f = 0) = (f = 0) := iEq (b := 0) (by omega) (by omega)
    simp only [this]
    unfold wtS
    by_cases c0 : f = 0
    · rw [if_neg (fun z => z c0), if_pos c0]; rfl
    · rw [if_pos c0, if_neg c0]; rfl
  rw [ew]
  simp only [Option.bind_some]
  rw [nI_l (by omega), lN_mul, M_least_ok (by omega)]
  simp only [Option.bind_some]
  rw [Nat.min_eq_left (by rw [qC]; omega), show (2 : Int32) = nI 2 from rfl, nI_mul, nI_add, rdI_ok (by omega) (by omega), u0]
  simp only [Option.bind_some]
  rw [show (8 : Int32) = nI 8 from rfl, nI_add, nI_l (by omega), nI_l (by omega)]
  unfold divL
  rw [if_neg (fun z => by have := (lEq (b := 0) (a := 8 + tkN D f d) (by omega) (by omega)).mp z; omega), lDiv (by omega) (by omega)]
  simp only [Option.bind_some]
  rw [lN_toI]
/-- what scoring of one document rests on -/
def rSc (R : RS) (D : List DocT) (dl : Nat → Bool) (i : Nat) (v : VwT) : Prop := rDocs R D dl ∧ D.length ≤ 400 ∧ okTx D ∧ i < 4 ∧ rView R i v ∧ v.1 = true ∧ (∀ d, d ∈ vDocs v → d < D.length) ∧ (vDocs v).length ≤ 400 ∧ R.1 0 63 = nI i
theorem rSc.rp {R R' : RS} {D : List DocT} {dl : Nat → Bool} {i : Nat} {v : VwT} {W : Nat → Nat → Nat → Prop} (h : rSc R D dl i v) (hk : Rp W R R') (hw : ∀ t c j, W t c j → ¬ (2 ≤ c ∧ c ≤ 10) ∧ ¬ (15 ≤ c ∧ c ≤ 19) ∧ ¬ (t = 0 ∧ c = 0 ∧ (j = 4 ∨ j = 63))) : rSc R' D dl i v := by
  obtain ⟨a, b, c, d, e, f, g, h1, h2⟩ := h
  exact ⟨a.rp hk (fun z => (hw _ _ _ z).2.2 ⟨rfl, rfl, .inl rfl⟩) (fun t c j z1 z2 z => (hw _ _ _ z).1 ⟨z1, z2⟩), b, c, d, e.rp hk (fun t c j z1 z2 z => (hw _ _ _ z).2.1 ⟨z1, z2⟩), f, g, h1, by rw [hk.I (by decide) (fun z => (hw _ _ _ z).2.2 ⟨rfl, rfl, .inr rfl⟩)]; exact h2⟩
theorem wAc_sc : ∀ t c j, wAc t c j → ¬ (2 ≤ c ∧ c ≤ 10) ∧ ¬ (15 ≤ c ∧ c ≤ 19) ∧ ¬ (t = 0 ∧ c = 0 ∧ (j = 4 ∨ j = 63)) := fun t c j z => by unfold wAc at z; omega
theorem dfS_pos {D : List DocT} {v : VwT} {f d t : Nat} (hm : d ∈ vDocs v) (h : 0 < tcn (dTok (dA D d) f) t) : 1 ≤ dfS D v f t := by
  obtain ⟨k, hk, e⟩ := List.getElem_of_mem hm
  refine cN_pos.mpr ⟨k, hk, ?_⟩
  have : (vDocs v).getD k 0 = d := by
    rw [List.getD_eq_getElem?_getD, List.getElem?_eq_getElem hk, e]
    rfl
  rw [this]
  exact decide_eq_true h
theorem fF_if {α : Type} {g : Option Nat} {f : Nat} {Z : α} (hg : ∀ x, g = some x → x < 2) (hf : f < 2) : (if fI g = -1 then some (Sum.inr () : α ⊕ Unit) else if fI g = nI f then some (Sum.inr ()) else some (Sum.inl Z)) = some (if fFor g f = true then Sum.inr () else Sum.inl Z) := by
  cases g with
  | none => rfl
  | some x =>
    have hx := hg x rfl
    rw [fI_s]
    unfold fFor
    have e1 : (nI x = -1) = False := by
      rw [show (-1 : Int32) = -nI 1 from rfl]
      exact iEqN (by omega) (by omega)
    have e2 : (nI x = nI f) = (x = f) := iEq (by omega) (by omega)
    simp only [e1, e2, if_false]
    by_cases c : x = f
    · rw [if_pos c, if_pos (decide_eq_true c)]
    · rw [if_neg c, if_neg (fun z => c (of_decide_eq_true z))]
theorem evF_step {o : Option Nat} {b : Bool} {x : Option Nat} : eitS o (if b = true then x else none) = if b = true then eitS o x else o := by
  cases b with
  | true => rfl
  | false =>
    cases o <;> rfl
theorem M_matchWord_ok {R : RS} {D : List DocT} {dl : Nat → Bool} {i o w d sl : Nat} {v : VwT} {g : Option Nat} {t : List Nat} (h : rSc R D dl i v) (hd : d < D.length) (hm : d ∈ vDocs v) (ho : o < 400) (h30 : R.1 30 o = fI g) (hg : ∀ x, g = some x → x < 2) (h31 : R.1 31 o = nI w) (hw4 : w < 400) (hw : rWd R w t) (ht : isTerm t) (ha : rAc R none) : ∃ R', M_matchWord R (nI d) (nI o) = some R' ∧ Rp wAc R R' ∧ rAc R' (evP D v (mkPT 1 g false false false 1 0 ([(t, 0)].filter (fun z => !z.1.isEmpty)) sl 0 0 0 []) d) := by
  have ht12 := ht.1
  unfold M_matchWord
  rw [rdI_ok ho (by omega), h31]
  simp only [Option.bind_some]
  rw [rdI_ok hw4 (by omega), hw.1]
  simp only [Option.bind_some]
  have e0 : (nI t.length = 0) = (t = []) := by
    have : (nI t.length = 0) = (t.length = 0) := iEq (b := 0) (by omega) (by omega)
    rw [this]
    exact propext List.length_eq_zero_iff
  simp only [e0]
  by_cases c : t = []
  · rw [if_neg (fun z => z c), c]
    refine ⟨_, rfl, Rp.pB ⟨rfl, .inl ⟨rfl, rfl⟩⟩, ?_, ?_⟩
    · simp only [pI, pL, pB, up2_s, up2_ne]
      rfl
    · simp only [pI, pL, pB, up2_s, up2_ne]
      exact ha.2
  · have hfl : [(t, 0)].filter (fun z => !z.1.isEmpty) = [(t, 0)] := by
      cases t with
      | nil => exact absurd rfl c
      | cons a l => rfl
    rw [if_pos c, hfl]
    have hx : ∀ f, inF D v (mkPT 1 g false false false 1 0 [(t, 0)] sl 0 0 0 []) f d = if phS D f d [(t, 0)] sl = 0 then none else some (64 * phS D f d [(t, 0)] sl * rarS D v f [(t, 0)] * wtS f / (8 + tkN D f d)) := fun f => rfl
    have hev : evP D v (mkPT 1 g false false false 1 0 [(t, 0)] sl 0 0 0 []) d = eitS (if fFor g 0 = true then inF D v (mkPT 1 g false false false 1 0 [(t, 0)] sl 0 0 0 []) 0 d else none) (if fFor g 1 = true then inF D v (mkPT 1 g false false false 1 0 [(t, 0)] sl 0 0 0 []) 1 d else none) := by
      have hk : pKind (mkPT 1 g false false false 1 0 [(t, 0)] sl 0 0 0 []) = 1 := rfl
      have ht : pTms (mkPT 1 g false false false 1 0 [(t, 0)] sl 0 0 0 []) = [(t, 0)] := rfl
      unfold evP
      rw [hk, ht, if_neg (by decide), if_neg (fun z => by cases z.2)]
      rfl
    have hle : ∀ f, f < 2 → ∀ z, inF D v (mkPT 1 g false false false 1 0 [(t, 0)] sl 0 0 0 []) f d = some z → z ≤ qCap := fun f hf z hz => by
      have := inF_le h.2.2.1 hd hf (by show 1 ≤ 8; decide) z hz
      rw [qC]
      omega
    have hstep : ∀ (f : Nat) (m : RS) (acc : Option Nat), f < 2 → Rp wAc R m → rAc m acc → (∀ z, acc = some z → z ≤ qCap) → ∃ m', M_matchWord_l25 m (nI d) (nI o) (nI w) (nI f) = some (.inl (nI (f + 1), m')) ∧ Rp wAc R m' ∧ rAc m' (eitS acc (if fFor g f = true then inF D v (mkPT 1 g false false false 1 0 [(t, 0)] sl 0 0 0 []) f d else none)) := fun f m acc hf gm ham hacc => by
      have hS := h.rp gm wAc_sc
      obtain ⟨s1, s2, s3, s4, s5, s6, s7, s8, s9⟩ := hS
      have m30 : m.1 30 o = fI g := by rw [gm.I (by decide) (by unfold wAc; omega)]; exact h30
      have mw : rWd m w t := ⟨by rw [gm.I (by decide) (by unfold wAc; omega)]; exact hw.1, fun k hk => by rw [gm.I (by decide) (by unfold wAc; omega)]; exact hw.2 k hk⟩
      have htf := M_tf_ok s1 s2 s3 hd hf mw hw4 ht c
      rw [evF_step]
      unfold M_matchWord_l25
      rw [if_neg (fun z => by have := (iLe (a := 2) (b := f) (by omega) (by omega)).mp z; omega), rdI_ok ho (by omega), m30]
      simp only [Option.bind_some]
      rw [fF_if hg hf, htf, show (1 : Int32) = nI 1 from rfl, nI_add]
      by_cases cf : fFor g f = true
      · rw [if_pos cf, if_pos cf]
        simp only [jn_r, Option.bind_some]
        rw [hx f, phS_one (z := (t, 0)) s3 hd hf ht]
        have htl : tcn (dTok (dA D d) f) (enc t) ≤ 200 := Nat.le_trans (cN_le _ _) (tkN_le s3 hd hf)
        have e1 : (nI (tcn (dTok (dA D d) f) (enc t)) ≤ 0) = (tcn (dTok (dA D d) f) (enc t) ≤ 0) := iLe (b := 0) (by omega) (by omega)
        simp only [e1]
        by_cases c0 : tcn (dTok (dA D d) f) (enc t) = 0
        · rw [if_pos (by omega), if_pos c0]
          refine ⟨m, rfl, gm, ?_⟩
          have : eitS acc none = acc := by cases acc <;> rfl
          rw [this]
          exact ham
        · rw [if_neg (by omega), if_neg c0]
          have hdf := dfS_pos (D := D) (v := v) (f := f) hm (show 0 < tcn (dTok (dA D d) f) (enc t) by omega)
          have hrr := rrS_le (vDocs v).length (dfS D v f (enc t))
          rw [M_rare_ok s1 s2 s3 s4 s5 s6 s7 s8 s9 hf mw hw4 ht c hdf]
          simp only [Option.bind_some]
          rw [M_score_ok s1 s2 s3 hd hf htl (by omega)]
          simp only [Option.bind_some]
          have hra : rarS D v f [(t, 0)] = rrS (vDocs v).length (dfS D v f (enc t)) := by
            unfold rarS
            rw [List.map_cons, List.map_nil, List.sum_cons, List.sum_nil, Nat.add_zero]
          rw [hra]
          have htop := top_le htl (show rrS (vDocs v).length (dfS D v f (enc t)) ≤ 248 by omega) (wtS_le f)
          obtain ⟨m', e2, g2, a2⟩ := M_come_ok (v := 64 * tcn (dTok (dA D d) f) (enc t) * rrS (vDocs v).length (dfS D v f (enc t)) * wtS f / (8 + tkN D f d)) ham hacc (by have := Nat.div_le_self (64 * tcn (dTok (dA D d) f) (enc t) * rrS (vDocs v).length (dfS D v f (enc t)) * wtS f) (8 + tkN D f d); rw [qC]; omega)
          rw [e2]
          exact ⟨m', rfl, gm.tr g2 (fun _ _ _ z => z), a2⟩
      · rw [if_neg cf, if_neg cf]
        exact ⟨m, rfl, gm, ham⟩
    obtain ⟨m1, e1, g1, a1⟩ := hstep 0 R none (by decide) Rp.rf ha (fun z y => by cases y)
    rw [eitS_n] at a1
    obtain ⟨m2, e2, g2, a2⟩ := hstep 1 m1 _ (by decide) g1 a1 (fun z y => by
      split at y
      · exact hle 0 (by decide) z y
      · cases y)
    have e3 : M_matchWord_l25 m2 (nI d) (nI o) (nI w) (nI 2) = some (.inr m2) := by
      unfold M_matchWord_l25
      rw [if_pos (show (2 : Int32) ≤ nI 2 by decide)]
    rw [lp_on (f := fun q : Int32 × RS => M_matchWord_l25 q.2 (nI d) (nI o) (nI w) q.1) (a := (0, R)) e1, lp_on (f := fun q : Int32 × RS => M_matchWord_l25 q.2 (nI d) (nI o) (nI w) q.1) (a := (nI (0 + 1), m1)) e2, lp_out (f := fun q : Int32 × RS => M_matchWord_l25 q.2 (nI d) (nI o) (nI w) q.1) (a := (nI (1 + 1), m2)) e3]
    refine ⟨m2, rfl, g2, ?_⟩
    rw [hev]
    exact a2
