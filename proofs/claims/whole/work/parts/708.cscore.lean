/-! the class: the score of a part that is no group -/
theorem phS_one {D : List DocT} {f d sl : Nat} {z : List Nat × Nat} (hT : okTx D) (hd : d < D.length) (hf : f < 2) (hz : isTerm z.1) : phS D f d [z] sl = tcn (dTok (dA D d) f) (enc z.1) := by
  obtain ⟨hlen', hok⟩ := hT d f hd hf
  unfold phS tcn
  refine cN_congr _ (fun j hj => ?_)
  have htm := (hok _ (getD_mem (d := (0, 0, [])) hj)).2.2
  show (decide (tmA D f d j = z.1) && decide (j ≤ j + (z.2 - z.2) + sl)) = decide (enc (tA (dTok (dA D d) f) j).2.2 = enc z.1)
  rw [decide_eq_true (show j ≤ j + (z.2 - z.2) + sl by omega), Bool.and_true, decide_eq_decide]
  exact ⟨fun q => by unfold tmA at q; rw [q], fun q => enc_inj htm hz q⟩
theorem preS_iff {D : List DocT} {f d : Nat} {w : List Nat} (hT : okTx D) (hd : d < D.length) (hf : f < 2) (hw : isTerm w) : preS D f d w = true ↔ ∃ t, t ≠ 0 ∧ 0 < tcn (dTok (dA D d) f) t ∧ enc w ≤ t ∧ t ≤ (sg w + 1) * 37 ^ (12 - w.length) - 1 := by
  obtain ⟨hlen', hok⟩ := hT d f hd hf
  unfold preS
  rw [List.any_eq_true]
  constructor
  · rintro ⟨z, z1, z2⟩
    rw [Bool.and_eq_true] at z2
    have hz := (hok z z1).2.2
    have hne : z.2.2 ≠ [] := fun q => by
      rw [q] at z2
      exact absurd z2.1 (by decide)
    have hpre := (pre_iff hw hz).mpr z2.2
    refine ⟨enc z.2.2, fun q => hne ((enc_0 hz).mp q), ?_, hpre.1, hpre.2⟩
    obtain ⟨k, hk, e⟩ := List.getElem_of_mem z1
    have e : tA (dTok (dA D d) f) k = z := by
      unfold tA
      rw [List.getD_eq_getElem?_getD, List.getElem?_eq_getElem hk, e]
      rfl
    exact cN_pos.mpr ⟨k, hk, by rw [e]; exact decide_eq_true rfl⟩
  · rintro ⟨t, t1, t2, t3, t4⟩
    obtain ⟨k, hk, e⟩ := cN_pos.mp t2
    have e := of_decide_eq_true e
    have hm := getD_mem (d := (0, 0, [])) hk
    have hz := (hok _ hm).2.2
    refine ⟨_, hm, ?_⟩
    have e : enc ((dTok (dA D d) f).getD k (0, 0, [])).2.2 = t := e
    rw [Bool.and_eq_true]
    constructor
    · cases hh : ((dTok (dA D d) f).getD k (0, 0, [])).2.2 with
      | nil =>
        rw [hh] at e
        exact absurd (by rw [← e]; rfl) t1
      | cons a l => rfl
    · exact (pre_iff hw hz).mp (by rw [e]; exact ⟨t3, t4⟩)
theorem Pa_scoreIn_ok {lo : Nat} {σ : Mem} {p tx f d : Nat} {x : PT} {D : List DocT} {v : VwT} (h : isText lo σ tx (dTok (dA D d) f)) (hT : okTx D) (hd : d < D.length) (hf : f < 2) (hp : isP σ p) (hx : cPart σ p x) (ok : okPt x) (hinc : incT (pTms x)) (hr : cRar σ p D v x) (hk : pKind x = 2 ∨ (pKind x = 1 ∧ pTms x ≠ [])) (hff : fFor (pField x) f = true) : Pa_scoreIn σ p (some tx) (nI f) = some (enO (inF D v x f d)) := by
  obtain ⟨c, vv, t8, r2, r3, tc, tc2, vals, hvoc⟩ := txt h
  have hxl : (pTms x).length ≤ 8 := hx.2.2.2.2.2.2.2.2.1
  have hlen : tkN D f d ≤ 200 := tkN_le hT hd hf
  have tkl := Te_tokens_ok h
  have htkl : (dTok (dA D d) f).length = tkN D f d := rfl
  rw [htkl] at tkl
  have tp := hp.1
  have x1 := hx.1
  have x9 := hx.2.2.2.2.2.2.2.1
  have ew : (if ¬ nI f = 0 then some (1 : Int32) else some 3) = some (nI (wtS f)) := by
    have : (nI f = 0) = (f = 0) := iEq (b := 0) (by omega) (by omega)
    simp only [this]
    unfold wtS
    by_cases c0 : f = 0
    · rw [if_neg (fun z => z c0), if_pos c0]; rfl
    · rw [if_pos c0, if_neg c0]; rfl
  have hw := wtS_le f
  have tv : (gT σ vv).1 = 10 := by
    obtain ⟨q, r, E, v0, -⟩ := hvoc
    exact v0.t
  unfold Pa_scoreIn inF
  rw [ew]
  simp only [Option.bind_some, ldI_ok tp, x1]
  have e2 : (nI (pKind x) = 2) = (pKind x = 2) := iEq (b := 2) (by have := ok.1; omega) (by omega)
  simp only [e2]
  by_cases k2 : pKind x = 2
  · obtain ⟨w1, w2, w3⟩ := ok.2.2.2.2.2.1 k2
    obtain ⟨l1, l2⟩ := hx.2.2.2.2.2.2.2.2.2.2.2.1 (by omega)
    have hw1 := enc_lt w1.1
    have hhi := hi_lt w1
    rw [if_neg (fun z => z k2), if_pos k2]
    simp only [ldR_ok t8, r3, ldL_ok tp, l1, l2, Option.bind_some, chk_ok tv]
    rw [w2, w3]
    obtain ⟨r, e1, e3⟩ := Vo_hasBetween_ok hvoc (a := enc (pW x)) (b := (sg (pW x) + 1) * 37 ^ (12 - (pW x).length) - 1) (by omega) (by omega)
    rw [e1]
    simp only [Option.bind_some]
    have hrp : r = preS D f d (pW x) := by
      rw [Bool.eq_iff_iff, e3, preS_iff hT hd hf w1]
    rw [hrp]
    by_cases cp : preS D f d (pW x) = true
    · rw [if_pos cp, if_pos cp, enO_s, show (16 : Int32) = nI 16 from rfl, nI_mul]
    · rw [if_neg cp, if_neg cp]
      rfl
  · obtain ⟨k1, hne⟩ := hk.resolve_left k2
    rw [if_pos k2, if_neg k2]
    simp only [x9]
    have e1 : (nI (pTms x).length = 1) = ((pTms x).length = 1) := iEq (b := 1) (by omega) (by omega)
    simp only [e1]
    obtain ⟨ta, tb⟩ : (gT σ (p + 1)).1 = 101 ∧ (gT σ (p + 1)).2 = 8 := by rw [hp.2.1]; exact ⟨rfl, rfl⟩
    have hq6 : (if ¬ (pTms x).length = 1 then (chk σ 4 (some p)).bind fun a8 => (Pa_occurrences σ a8 (some tx)).bind fun v9 => some v9 else (ldR σ 8 3 (some tx)).bind fun v10 => (ldR σ 4 7 (some p)).bind fun v11 => (raL σ 1 v11 0).bind fun v12 => (chk σ 10 v10).bind fun a13 => (Vo_countOf σ a13 v12).bind fun v14 => some v14) = some (nI (phS D f d (pTms x) (pSlack x))) := by
      by_cases c1 : (pTms x).length = 1
      · obtain ⟨z, hz⟩ : ∃ z, pTms x = [z] := List.length_eq_one_iff.mp c1
        have hzt := ok.2.2.2.2.2.2 z (by rw [hz]; exact List.mem_cons_self)
        have hte := enc_lt hzt.1.1
        have hep := enc_pos hzt.1 hzt.2.1
        obtain ⟨n0, -⟩ := hx.2.2.2.2.2.2.2.2.2.1 0 (by omega)
        rw [hz] at n0
        have n0 : gL σ (p + 1) 0 = lN (enc z.1) := n0
        have e0 : raL σ 1 (some (p + 1)) 0 = some (lN (enc z.1)) := by
          have := raL_k (σ := σ) (t := 1) (a := p + 1) (i := 0) ta (by rw [tb]; omega) (by omega)
          rw [show (0 : Int32) = nI 0 from rfl, this, n0]
        rw [if_neg (fun q => q c1)]
        simp only [ldR_ok t8, ldR_ok tp, r3, hp.2.2.2.2.1, Option.bind_some, e0, chk_ok tv]
        rw [Vo_countOf_ok hvoc (by omega), if_neg (by omega), hz, phS_one hT hd hf hzt.1]
        rfl
      · rw [if_pos c1, chk_ok tp]
        simp only [Option.bind_some]
        rw [Pa_occurrences_ok h hT hd hf hp hx ok hinc hne]
        rfl
    rw [hq6]
    simp only [Option.bind_some]
    have hph := phS_le (D := D) (f := f) (d := d) (T := pTms x) (sl := pSlack x)
    have hrl := rarS_le (D := D) (v := v) (f := f) (pTms x)
    have htop := top_le (a := phS D f d (pTms x) (pSlack x)) (b := rarS D v f (pTms x)) (c := wtS f) (by omega) (by omega) hw
    have hrow := hr k1 f hf hff
    generalize phS D f d (pTms x) (pSlack x) = s at *
    have e0 : (nI s = 0) = (s = 0) := iEq (b := 0) (by omega) (by omega)
    simp only [e0]
    by_cases c0 : s = 0
    · rw [if_neg (fun z => z c0), if_pos c0]
      rfl
    · rw [if_pos c0, if_neg c0]
      obtain ⟨tq, tr⟩ : (gT σ (p + 3)).1 = 100 ∧ (gT σ (p + 3)).2 = 2 := by rw [hp.2.2.2.1]; exact ⟨rfl, rfl⟩
      simp only [ldR_ok tp, hp.2.2.2.2.2.2, Option.bind_some]
      rw [raI_k (t := 0) tq (by rw [tr]; exact hf) (by omega), hrow]
      simp only [Option.bind_some]
      rw [nI_l (by omega), nI_l (by omega), nI_l (by omega), show (64 : Int64) = lN 64 from rfl, lN_mul, lN_mul, lN_mul, E_capped_ok (by omega)]
      simp only [Option.bind_some, chk_ok t8]
      rw [tkl]
      simp only [Option.bind_some]
      rw [Nat.min_eq_left (by rw [qC]; omega), show (8 : Int32) = nI 8 from rfl, nI_add]
      unfold divI
      rw [if_neg (fun z => by have := (iEq (b := 0) (a := 8 + tkN D f d) (by omega) (by omega)).mp z; omega), iDiv (by omega) (by omega)]
      simp only [Option.bind_some]
      rw [enO_s]
theorem i64le (a b : Int64) : (b < a) = ¬ (a ≤ b) := by
  rw [eq_iff_iff, Int64.lt_iff_toInt_lt, Int64.le_iff_toInt_le]
  omega
theorem Pa_scoreOf_ok {lo : Nat} {σ : Mem} {p a d : Nat} {x : PT} {D : List DocT} {v : VwT} (h : isDoc lo σ a d (dA D d)) (hT : okTx D) (hd : d < D.length) (hp : isP σ p) (hx : cPart σ p x) (ok : okPt x) (hinc : incT (pTms x)) (hr : cRar σ p D v x) (hk : pKind x ≠ 0) : Pa_scoreOf σ p (some a) = some (enO (evP D v x d)) := by
  have tp := hp.1
  have x1 := hx.1
  have x9 := hx.2.2.2.2.2.2.2.1
  have hxl : (pTms x).length ≤ 8 := hx.2.2.2.2.2.2.2.2.1
  have ta := h.1.t
  have hk4 := ok.1
  unfold Pa_scoreOf evP
  simp only [ldI_ok tp, x1, x9, Option.bind_some]
  have e3 : (nI (pKind x) = 3) = (pKind x = 3) := iEq (b := 3) (by omega) (by omega)
  have e1 : (nI (pKind x) = 1) = (pKind x = 1) := iEq (b := 1) (by omega) (by omega)
  have e9 : (nI (pTms x).length = 0) = (pTms x = []) := by
    have : (nI (pTms x).length = 0) = ((pTms x).length = 0) := iEq (b := 0) (by omega) (by omega)
    rw [this]
    exact propext List.length_eq_zero_iff
  simp only [e3, e1, e9]
  by_cases c3 : pKind x = 3
  · obtain ⟨l1, l2⟩ := hx.2.2.2.2.2.2.2.2.2.2.2.1 (by omega)
    have hwh := hx.2.2.2.2.2.2.2.2.2.2.2.2 c3
    rw [if_neg (fun z => z c3), if_pos c3]
    simp only [ldL_ok tp, hwh, l1, l2, Option.bind_some, chk_ok ta]
    have hv : Do_valueOf σ a (nI (pWhat x)) = some (if pWhat x = 0 then dX (dA D d) else dY (dA D d)) := by
      have hw2 := ok.2.2.2.2.1
      unfold Do_valueOf
      have e0 : (nI (pWhat x) = 0) = (pWhat x = 0) := iEq (b := 0) (by omega) (by omega)
      simp only [e0]
      obtain ⟨-, -, d3, d4, -⟩ := h
      by_cases c0 : pWhat x = 0
      · rw [if_neg (fun z => z c0), if_pos c0, ldI_ok ta, d3]
        rfl
      · rw [if_pos c0, if_neg c0, ldI_ok ta, d4]
        rfl
    unfold Do_isBetween
    simp only [chk_ok ta, hv, Option.bind_some]
    generalize (if pWhat x = 0 then dX (dA D d) else dY (dA D d)).toInt64 = u
    by_cases c1 : u < pLo x
    · rw [if_pos c1, if_neg (fun z => by rw [i64le] at c1; exact c1 z.1)]
      rfl
    · rw [if_neg c1]
      by_cases c2 : pHi x < u
      · rw [if_pos c2, if_neg (fun z => by rw [i64le] at c2; exact c2 z.2)]
        rfl
      · rw [i64le] at c1 c2
        rw [if_neg (by rw [i64le]; exact c2), if_pos ⟨Classical.byContradiction c1, Classical.byContradiction c2⟩]
        rfl
  · rw [if_pos c3, if_neg c3]
    by_cases c0 : pKind x = 1 ∧ pTms x = []
    · rw [if_neg (fun z => z c0.1), if_neg (fun z => z c0.2), if_pos c0]
      rfl
    · rw [if_neg c0]
      have hkk : pKind x = 2 ∨ (pKind x = 1 ∧ pTms x ≠ []) := by
        by_cases c2 : pKind x = 2
        · exact .inl c2
        · have : pKind x = 1 := by omega
          exact .inr ⟨this, fun z => c0 ⟨this, z⟩⟩
      have hjn : (if ¬ pKind x = 1 then some (Sum.inr () : Int32 ⊕ Unit) else if ¬ pTms x = [] then some (Sum.inr ()) else some (Sum.inl 0)) = some (Sum.inr ()) := by
        by_cases c1 : pKind x = 1
        · rw [if_neg (fun z => z c1), if_pos (fun z => c0 ⟨c1, z⟩)]
        · rw [if_pos c1]
      rw [hjn]
      simp only [jn_r]
      obtain ⟨t1, t2, d6, d7, x0, y0⟩ := h.2.2.2.2.2
      have hdt : ∀ f, f < 2 → ∃ tx, Do_textOf σ a (nI f) = some (some tx) ∧ isText lo σ tx (dTok (dA D d) f) := fun f hf => by
        have : f = 0 ∨ f = 1 := by omega
        unfold Do_textOf
        rcases this with rfl | rfl
        · rw [if_neg (fun z => z rfl), ldR_ok ta, d6]
          exact ⟨t1, rfl, x0⟩
        · rw [if_pos (by decide), ldR_ok ta, d7]
          exact ⟨t2, rfl, y0⟩
      have hstep : ∀ f (acc : Option Nat), f < 2 → (∀ w, acc = some w → w ≤ qCap) → Pa_scoreOf_l54 σ p (some a) (enO acc) (nI f) = some (.inl (enO (eitS acc (if fFor (pField x) f = true then inF D v x f d else none)), nI (f + 1))) := fun f acc hf hacc => by
        obtain ⟨tx, e5, htx⟩ := hdt f hf
        unfold Pa_scoreOf_l54
        rw [if_neg (fun z => by have := (iLe (a := 2) (b := f) (by omega) (by omega)).mp z; omega)]
        simp only [chk_ok tp, Option.bind_some]
        rw [Pa_isFor_ok hp hx ok hf]
        simp only [Option.bind_some]
        rw [show (1 : Int32) = nI 1 from rfl, nI_add]
        by_cases cf : fFor (pField x) f = true
        · rw [if_pos cf, if_pos cf]
          simp only [chk_ok ta, Option.bind_some, e5]
          rw [Pa_scoreIn_ok htx hT hd hf hp hx ok hinc hr hkk cf]
          simp only [Option.bind_some]
          rw [E_eitherScore_ok hacc (fun w hw => by have := inF_le (v := v) hT hd hf hxl w hw; rw [qC]; omega)]
          rfl
        · rw [if_neg cf, if_neg cf]
          have : eitS acc none = acc := by cases acc <;> rfl
          rw [this]
          rfl
      have s0 := hstep 0 none (by decide) (fun w z => by cases z)
      have c0' : ∀ w, eitS none (if fFor (pField x) 0 = true then inF D v x 0 d else none) = some w → w ≤ qCap := fun w hw => by
        rw [eitS_n] at hw
        split at hw
        · have := inF_le (v := v) hT hd (by decide) hxl w hw
          rw [qC]; omega
        · cases hw
      have s1 := hstep 1 _ (by decide) c0'
      rw [eitS_n] at s0 s1
      have e54 : ∀ z, Pa_scoreOf_l54 σ p (some a) z (nI 2) = some (.inr z) := fun z => by
        unfold Pa_scoreOf_l54
        rw [if_pos (show (2 : Int32) ≤ nI 2 by decide)]
      rw [lp_on (f := fun q : Int32 × Int32 => Pa_scoreOf_l54 σ p (some a) q.1 q.2) (a := (-1, 0)) s0, lp_on (f := fun q : Int32 × Int32 => Pa_scoreOf_l54 σ p (some a) q.1 q.2) (a := (enO (if fFor (pField x) 0 = true then inF D v x 0 d else none), nI (0 + 1))) s1, lp_out (f := fun q : Int32 × Int32 => Pa_scoreOf_l54 σ p (some a) q.1 q.2) (a := (enO (eitS (if fFor (pField x) 0 = true then inF D v x 0 d else none) (if fFor (pField x) 1 = true then inF D v x 1 d else none)), nI (1 + 1))) (e54 _)]
      rfl
