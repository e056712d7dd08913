/-! the reference: - ^ ALL ANY on its stack -/
def allL (C : List (Option Nat)) : Option Nat := C.foldl bthS (some 0)
def anyL (A : List (Option Nat)) : Option Nat := A.foldl eitS none
theorem allL_app {C : List (Option Nat)} {x : Option Nat} : allL (C ++ [x]) = bthS (allL C) x := by
  unfold allL
  rw [List.foldl_append]
  rfl
theorem anyL_app {A : List (Option Nat)} {x : Option Nat} : anyL (A ++ [x]) = eitS (anyL A) x := by
  unfold anyL
  rw [List.foldl_append]
  rfl
theorem allL_cap {C : List (Option Nat)} : ∀ w, allL C = some w → w ≤ qCap := by
  rcases List.eq_nil_or_concat C with rfl | ⟨C', x, rfl⟩
  · intro w h
    cases h
    exact Nat.zero_le _
  · intro w h
    rw [List.concat_eq_append, allL_app] at h
    exact bthS_cap w h
theorem anyL_cap {A : List (Option Nat)} (h : capL A) : ∀ w, anyL A = some w → w ≤ qCap := by
  have : ∀ (A : List (Option Nat)) (a : Option Nat), (∀ w, a = some w → w ≤ qCap) → capL A → ∀ w, A.foldl eitS a = some w → w ≤ qCap := fun A => by
    induction A with
    | nil => intro a ha _ w hw; exact ha w hw
    | cons x A ih =>
      intro a ha hc w hw
      exact ih (eitS a x) (eitS_cap ha (fun w hw => hc x List.mem_cons_self w hw)) (fun y hy => hc y (List.mem_cons_of_mem _ hy)) w hw
  exact this A none (fun w hw => by cases hw) h
theorem skA_r {S C : List (Option Nat)} {k : Nat} : skA (S ++ C) (S.length + k) = skA C k := by
  unfold skA
  rw [List.getD_eq_getElem?_getD, List.getElem?_append_right (by omega), Nat.add_sub_cancel_left, ← List.getD_eq_getElem?_getD]
theorem skA_l {S C : List (Option Nat)} {k : Nat} (h : k < S.length) : skA (S ++ C) k = skA S k := by
  unfold skA
  rw [List.getD_eq_getElem?_getD, List.getElem?_append_left h, ← List.getD_eq_getElem?_getD]
/-- the stack lowered by C: S stands, C lies above it still -/
def rLow (R : RS) (S C : List (Option Nat)) : Prop := rStk R S ∧ ∀ k, k < C.length → R.2.2 42 (S.length + k) = (skA C k).isSome ∧ R.1 43 (S.length + k) = nI ((skA C k).getD 0)
theorem M_work_op {R : RS} {o kk : Nat} {d a : Int32} {S C : List (Option Nat)} (ho : o < 400) (hk : 5 ≤ kk ∧ kk ≤ 8) (h29 : R.1 29 o = nI kk) (h31 : R.1 31 o = a) (hS : rStk R (S ++ C)) (hl : (S ++ C).length ≤ 420) (hn : (if kk = 5 then nI 1 else if kk = 6 then nI 1 else a) = nI C.length) : ∃ m, Rp wWk R m ∧ rLow m S C ∧ m.1 29 o = nI kk ∧ m.1 31 o = a ∧ M_work R d (nI o) = (if ¬ kk = 5 then (if ¬ kk = 6 then (lp (fun q : Bool × Int64 × Int32 => M_work_l283 m (nI o) (nI C.length) q.1 q.2.1 q.2.2) (decide (kk = 7), (0 : Int64), nI S.length)).bind fun z56 => (M_put_ m z56.1 z56.2.toInt32).bind fun v57 => some v57 else (rdB m 42 420 (nI S.length)).bind fun v58 => (rdI m 43 420 (nI S.length)).bind fun v59 => (M_least (v59.toInt64 * a.toInt64)).bind fun v61 => (M_put_ m v58 v61).bind fun v62 => some v62) else (rdB m 42 420 (nI S.length)).bind fun v63 => Option.bind (if v63 = true then some false else some true) fun q64 => (M_put_ m q64 0).bind fun v66 => some v66) := by
  have hg2 := R2w_g R
  have hlen : (S ++ C).length = S.length + C.length := List.length_append
  have hSm := hS.rp hg2 (by unfold wAc; omega) (fun j z => by unfold wAc at z; omega) (fun j z => by unfold wAc at z; omega)
  have gp : Rp (fun t c j => t = 0 ∧ c = 0 ∧ j = 68) (R2w R) (pI (R2w R) 68 (nI S.length)) := Rp.pI ⟨rfl, rfl, rfl⟩
  have G : Rp wWk R (pI (R2w R) 68 (nI S.length)) := (hg2.mono wAc_wWk).tr gp (fun t c j z => by unfold wWk; omega)
  have m29 : (pI (R2w R) 68 (nI S.length)).1 29 o = nI kk := by rw [G.I (by decide) (by unfold wWk; omega)]; exact h29
  have m31 : (pI (R2w R) 68 (nI S.length)).1 31 o = a := by rw [G.I (by decide) (by unfold wWk; omega)]; exact h31
  have m68 : (pI (R2w R) 68 (nI S.length)).1 0 68 = nI S.length := by simp only [pI, pL, pB, up2_s, up2_ne]
  have r29 : rdI (R2w R) 29 400 (nI o) = some (nI kk) := by rw [rdI_ok ho (by omega), hg2.I (by decide) (by unfold wAc; omega), h29]
  have r31 : rdI (R2w R) 31 400 (nI o) = some a := by rw [rdI_ok ho (by omega), hg2.I (by decide) (by unfold wAc; omega), h31]
  have q29 : rdI (pI (R2w R) 68 (nI S.length)) 29 400 (nI o) = some (nI kk) := by rw [rdI_ok ho (by omega), m29]
  have q31 : rdI (pI (R2w R) 68 (nI S.length)) 31 400 (nI o) = some a := by rw [rdI_ok ho (by omega), m31]
  refine ⟨pI (R2w R) 68 (nI S.length), G, ⟨⟨m68, fun k hk' => ?_⟩, fun k hk' => ?_⟩, m29, m31, ?_⟩
  · have := hSm.2 k (by omega)
    rw [skA_l hk'] at this
    rw [gp.B (by decide) (by omega), gp.I (by decide) (by omega)]
    exact this
  · have := hSm.2 (S.length + k) (by omega)
    rw [skA_r] at this
    rw [gp.B (by decide) (by omega), gp.I (by decide) (by omega)]
    exact this
  · have e1 : (nI kk = 1) = False := by rw [show (1 : Int32) = nI 1 from rfl, iEq (by omega) (by omega)]; exact eq_false (by omega)
    have e2 : (nI kk = 2) = False := by rw [show (2 : Int32) = nI 2 from rfl, iEq (by omega) (by omega)]; exact eq_false (by omega)
    have e3 : (nI kk = 3) = False := by rw [show (3 : Int32) = nI 3 from rfl, iEq (by omega) (by omega)]; exact eq_false (by omega)
    have e4 : (nI kk = 4) = False := by rw [show (4 : Int32) = nI 4 from rfl, iEq (by omega) (by omega)]; exact eq_false (by omega)
    have e5 : (nI kk = 5) = (kk = 5) := iEq (b := 5) (by omega) (by omega)
    have e6 : (nI kk = 6) = (kk = 6) := iEq (b := 6) (by omega) (by omega)
    have e7 : (nI kk = 7) = (kk = 7) := iEq (b := 7) (by omega) (by omega)
    have e45 : ((4 : Int32) < nI kk) = True := by rw [show (4 : Int32) = nI 4 from rfl, iLt (by omega) (by omega)]; exact eq_true (by omega)
    have hR2 : pL (pB R 64 false) 65 (0 : Int64) = R2w R := rfl
    unfold M_work
    simp only [Option.bind_some]
    rw [hR2]
    simp only [r29, Option.bind_some, e1, e2, e3, e4, not_false_eq_true, if_true, e45, e5, e6]
    have hq30 : (if kk = 5 then some (1 : Int32) else if ¬ kk = 6 then (rdI (R2w R) 31 400 (nI o)).bind fun v34 => some v34 else some 1) = some (nI C.length) := by
      rw [r31, ← hn]
      by_cases c5 : kk = 5
      · rw [if_pos c5, if_pos c5]; rfl
      · rw [if_neg c5, if_neg c5]
        by_cases c6 : kk = 6
        · rw [if_neg (fun z => z c6), if_pos c6]; rfl
        · rw [if_pos c6, if_neg c6]; rfl
    rw [hq30]
    simp only [Option.bind_some]
    rw [hSm.1, hlen, iSub (by omega), Nat.add_sub_cancel]
    simp only [q29, q31, Option.bind_some, e5, e6, e7, m68]
    have hq41 : (if ¬ kk = 7 then some false else some true) = some (decide (kk = 7)) := by
      by_cases c7 : kk = 7
      · rw [if_neg (fun z => z c7), decide_eq_true c7]
      · rw [if_pos c7, decide_eq_false c7]
    rw [hq41]
    rfl
theorem rLow.put {R : RS} {S C : List (Option Nat)} {o : Option Nat} {x : Int32} (h : rLow R S C) (hl : S.length < 420) (hx : ∀ v, o = some v → x = nI v) : ∃ R', M_put_ R o.isSome x = some R' ∧ Rp wWk R R' ∧ rStk R' (S ++ [o]) := M_put_ok h.1 hl hx
theorem M_work_not {R : RS} {o : Nat} {d : Int32} {S : List (Option Nat)} {x : Option Nat} (ho : o < 400) (h29 : R.1 29 o = nI 5) (hS : rStk R (S ++ [x])) (hl : (S ++ [x]).length ≤ 420) : ∃ R', M_work R d (nI o) = some R' ∧ Rp wWk R R' ∧ rStk R' (S ++ [negS x]) := by
  obtain ⟨m, g, hlo, m29, m31, e⟩ := M_work_op (d := d) ho ⟨by decide, by decide⟩ h29 rfl hS hl rfl
  rw [List.length_append] at hl
  have hl : S.length + 1 ≤ 420 := hl
  rw [e, if_neg (fun z => z rfl), rdB_ok (by omega) (by omega)]
  obtain ⟨b1, b2⟩ := hlo.2 0 (show 0 < 1 by decide)
  rw [Nat.add_zero] at b1
  rw [b1]
  simp only [Option.bind_some]
  have hq : (if (skA [x] 0).isSome = true then some false else some true) = some (negS x).isSome := by
    cases x <;> rfl
  rw [hq]
  simp only [Option.bind_some]
  obtain ⟨R', e1, g1, s1⟩ := hlo.put (o := negS x) (x := 0) (by omega) (fun v hv => by
    cases x with
    | none => cases hv; rfl
    | some w => cases hv)
  rw [e1]
  exact ⟨R', rfl, g.tr g1 (fun _ _ _ z => z), s1⟩
theorem M_work_times {R : RS} {o b : Nat} {d : Int32} {S : List (Option Nat)} {x : Option Nat} (ho : o < 400) (h29 : R.1 29 o = nI 6) (h31 : R.1 31 o = nI b) (hb : b < 10) (hS : rStk R (S ++ [x])) (hl : (S ++ [x]).length ≤ 420) (hx : ∀ w, x = some w → w ≤ qCap) : ∃ R', M_work R d (nI o) = some R' ∧ Rp wWk R R' ∧ rStk R' (S ++ [timS b x]) := by
  obtain ⟨m, g, hlo, m29, m31, e⟩ := M_work_op (d := d) ho ⟨by decide, by decide⟩ h29 h31 hS hl rfl
  rw [List.length_append] at hl
  have hl : S.length + 1 ≤ 420 := hl
  rw [e, if_pos (by decide), if_neg (fun z => z rfl), rdB_ok (by omega) (by omega), rdI_ok (by omega) (by omega)]
  obtain ⟨b1, b2⟩ := hlo.2 0 (show 0 < 1 by decide)
  rw [Nat.add_zero] at b1 b2
  rw [b1, b2]
  simp only [Option.bind_some]
  have hxs : skA [x] 0 = x := rfl
  rw [hxs]
  have hv : x.getD 0 ≤ qCap := by
    cases x with
    | none => exact Nat.zero_le _
    | some w => exact hx w rfl
  have hv2 := hv
  rw [qC] at hv2
  have hm : x.getD 0 * b ≤ 1000000000 * 9 := Nat.mul_le_mul hv2 (by omega)
  rw [nI_l (by omega), nI_l (by omega), lN_mul, M_least_ok (by omega)]
  simp only [Option.bind_some]
  have hs : x.isSome = (timS b x).isSome := by cases x <;> rfl
  rw [hs]
  obtain ⟨R', e1, g1, s1⟩ := hlo.put (o := timS b x) (x := nI (min (x.getD 0 * b) qCap)) (by omega) (fun v hv => by
    cases x with
    | none => cases hv
    | some w => cases hv; rfl)
  rw [e1]
  exact ⟨R', rfl, g.tr g1 (fun _ _ _ z => z), s1⟩
theorem M_work_fold {R : RS} {o kk : Nat} {d : Int32} {S C : List (Option Nat)} (ho : o < 400) (hk : kk = 7 ∨ kk = 8) (h29 : R.1 29 o = nI kk) (h31 : R.1 31 o = nI C.length) (hS : rStk R (S ++ C)) (hl : (S ++ C).length ≤ 419) (hC : capL C) : ∃ R', M_work R d (nI o) = some R' ∧ Rp wWk R R' ∧ rStk R' (S ++ [if kk = 7 then allL C else anyL C]) := by
  obtain ⟨m, g, hlo, m29, m31, e⟩ := M_work_op (d := d) ho ⟨by omega, by omega⟩ h29 h31 hS (by omega) (by rw [if_neg (by omega), if_neg (by omega)])
  have hlen : (S ++ C).length = S.length + C.length := List.length_append
  rw [e, if_pos (by omega), if_pos (by omega)]
  -- what the fold is below k
  have hF : ∀ k, k ≤ C.length → ∀ w, (if kk = 7 then allL (C.take k) else anyL (C.take k)) = some w → w ≤ qCap := fun k hk w hw => by
    split at hw
    · exact allL_cap w hw
    · exact anyL_cap (fun y hy => hC y (List.mem_of_mem_take hy)) w hw
  have hrow : m.1 0 68 = nI S.length := hlo.1.1
  obtain ⟨z, e1, e2, e3⟩ : ∃ z : Bool × Int64, lp (fun q : Bool × Int64 × Int32 => M_work_l283 m (nI o) (nI C.length) q.1 q.2.1 q.2.2) ((fun (k : Nat) (s : Bool × Int64) => (s.1, s.2, nI (S.length + k))) 0 (decide (kk = 7), (0 : Int64))) = some z ∧ (z.1 = (if kk = 7 then allL C else anyL C).isSome ∧ ∃ w, z.2 = lN w ∧ ∀ v, (if kk = 7 then allL C else anyL C) = some v → w = v) := by
    refine lp_for (fun (k : Nat) (s : Bool × Int64) => (s.1, s.2, nI (S.length + k))) C.length (fun k s => s.1 = (if kk = 7 then allL (C.take k) else anyL (C.take k)).isSome ∧ ∃ w, s.2 = lN w ∧ w ≤ qCap ∧ (∀ v, (if kk = 7 then allL (C.take k) else anyL (C.take k)) = some v → w = v) ∧ (kk = 8 → (if kk = 7 then allL (C.take k) else anyL (C.take k)) = none → w = 0)) _ (fun k s hk' hI => ?_) (fun s hI => ?_) C.length 0 _ (by omega) ?_
    · left
      obtain ⟨i1, w, i2, i3, i4, i5⟩ := hI
      obtain ⟨b1, b2⟩ := hlo.2 k hk'
      have hck : ∀ w, skA C k = some w → w ≤ qCap := hC _ (getD_mem (d := (none : Option Nat)) hk')
      have hg0 : (skA C k).getD 0 ≤ qCap := by
        cases hs : skA C k with
        | none => exact Nat.zero_le _
        | some w => exact hck w hs
      have htake : C.take (k + 1) = C.take k ++ [skA C k] := by
        rw [List.take_add_one, List.getElem?_eq_getElem hk', Option.toList_some]
        unfold skA
        rw [List.getD_eq_getElem?_getD, List.getElem?_eq_getElem hk']
        rfl
      have hi3 := i3
      rw [qC] at hi3 hg0
      have hst : M_work_l283 m (nI o) (nI C.length) s.1 s.2 (nI (S.length + k)) = some (.inl ((if kk = 7 then s.1 && (skA C k).isSome else s.1 || (skA C k).isSome), lN (min (w + (skA C k).getD 0) qCap), nI (S.length + (k + 1)))) := by
        unfold M_work_l283
        rw [hrow, nI_add, if_neg (fun z => by have := (iLe (by omega) (by omega)).mp z; omega), rdI_ok (c := 29) ho (by omega), m29]
        simp only [Option.bind_some]
        have e7 : (nI kk = 7) = (kk = 7) := iEq (b := 7) (by omega) (by omega)
        simp only [e7]
        rw [rdB_ok (by omega) (by omega), b1, rdI_ok (c := 43) (by omega) (by omega), b2]
        simp only [Option.bind_some]
        have hq : (if ¬ kk = 7 then (if s.1 = true then some true else if (skA C k).isSome = true then some true else some false) else (if s.1 = true then (if (skA C k).isSome = true then some true else some false) else some false)) = some (if kk = 7 then s.1 && (skA C k).isSome else s.1 || (skA C k).isSome) := by
          by_cases c7 : kk = 7
          · rw [if_neg (fun z => z c7), if_pos c7]
            cases s.1 <;> cases (skA C k).isSome <;> rfl
          · rw [if_pos c7, if_neg c7]
            cases s.1 <;> cases (skA C k).isSome <;> rfl
        rw [hq]
        simp only [Option.bind_some]
        have hmn : min (w + (skA C k).getD 0) qCap ≤ qCap := Nat.min_le_right _ _
        rw [qC] at hmn
        rw [i2, nI_l (by omega), lN_add, M_least_ok (by omega)]
        simp only [Option.bind_some]
        rw [qC, nI_l (by omega), show (1 : Int32) = nI 1 from rfl, nI_add, Nat.add_assoc]
      refine ⟨((if kk = 7 then s.1 && (skA C k).isSome else s.1 || (skA C k).isSome), lN (min (w + (skA C k).getD 0) qCap)), hst, ?_, min (w + (skA C k).getD 0) qCap, rfl, Nat.min_le_right _ _, ?_, ?_⟩
      · rw [htake, allL_app, anyL_app]
        show (if kk = 7 then s.1 && (skA C k).isSome else s.1 || (skA C k).isSome) = _
        rw [i1]
        by_cases c7 : kk = 7
        · simp only [if_pos c7]
          cases allL (C.take k) <;> cases skA C k <;> rfl
        · simp only [if_neg c7]
          cases anyL (C.take k) <;> cases skA C k <;> rfl
      · intro v hv
        rw [htake, allL_app, anyL_app] at hv
        by_cases c7 : kk = 7
        · simp only [if_pos c7] at hv i4
          cases ha : allL (C.take k) with
          | none => rw [ha] at hv; cases hv
          | some a =>
            rw [ha] at hv
            have := i4 a ha
            cases hs : skA C k with
            | none => rw [hs] at hv; cases hv
            | some b =>
              rw [hs] at hv
              cases hv
              rw [this]
              rfl
        · simp only [if_neg c7] at hv i4 i5
          cases ha : anyL (C.take k) with
          | none =>
            have w0 := i5 (by omega) ha
            rw [ha, eitS_n] at hv
            rw [w0, hv, Nat.zero_add]
            exact Nat.min_eq_left (hck v hv)
          | some a =>
            rw [ha] at hv
            have := i4 a ha
            cases hs : skA C k with
            | none =>
              rw [hs] at hv
              have hv : some a = some v := hv
              injection hv with hv
              rw [← hv, ← this]
              show min (w + 0) qCap = w
              rw [Nat.add_zero]
              exact Nat.min_eq_left i3
            | some b =>
              rw [hs] at hv
              cases hv
              rw [this]
              rfl
      · intro h8 hv
        rw [htake, allL_app, anyL_app, if_neg (by omega)] at hv
        rw [if_neg (by omega)] at i5
        cases ha : anyL (C.take k) with
        | none =>
          have w0 := i5 h8 ha
          rw [ha, eitS_n] at hv
          rw [w0, hv]
          rfl
        | some a =>
          rw [ha] at hv
          cases hs : skA C k with
          | none => rw [hs] at hv; cases hv
          | some b => rw [hs] at hv; cases hv
    · obtain ⟨i1, w, i2, i3, i4, i5⟩ := hI
      rw [List.take_length] at i1 i4
      refine ⟨s, ?_, i1, w, i2, i4⟩
      show M_work_l283 m (nI o) (nI C.length) s.1 s.2 (nI (S.length + C.length)) = some (.inr s)
      unfold M_work_l283
      rw [hrow, nI_add, if_pos ((iLe (by omega) (by omega)).mpr (Nat.le_refl _))]
    · refine ⟨?_, 0, rfl, Nat.zero_le _, ?_, fun _ _ => rfl⟩
      · rcases hk with rfl | rfl <;> rfl
      · intro v hv
        rcases hk with rfl | rfl
        · cases hv; rfl
        · cases hv
  have e1 : lp (fun q : Bool × Int64 × Int32 => M_work_l283 m (nI o) (nI C.length) q.1 q.2.1 q.2.2) (decide (kk = 7), (0 : Int64), nI S.length) = some z := e1
  rw [e1]
  simp only [Option.bind_some]
  obtain ⟨w, e4, e5⟩ := e3
  rw [e2, e4, lN_toI]
  obtain ⟨R', f1, g1, s1⟩ := hlo.put (o := if kk = 7 then allL C else anyL C) (x := nI w) (by omega) (fun v hv => by rw [e5 v hv])
  rw [f1]
  exact ⟨R', rfl, g.tr g1 (fun _ _ _ z => z), s1⟩
