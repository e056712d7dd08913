/-! the reference: operations on its stack of scores -/
def skA (S : List (Option Nat)) (k : Nat) : Option Nat := S.getD k none
def rStk (R : RS) (S : List (Option Nat)) : Prop := R.1 0 68 = nI S.length ∧ ∀ k, k < S.length → R.2.2 42 k = (skA S k).isSome ∧ R.1 43 k = nI ((skA S k).getD 0)
def capL (S : List (Option Nat)) : Prop := ∀ o, o ∈ S → ∀ w, o = some w → w ≤ qCap
def wWk : Nat → Nat → Nat → Prop := fun t c j => (t = 3 ∧ ((c = 0 ∧ j = 64) ∨ c = 42)) ∨ (t = 1 ∧ c = 0 ∧ j = 65) ∨ (t = 0 ∧ (c = 43 ∨ (c = 0 ∧ j = 68)))
theorem wAc_wWk : ∀ t c j, wAc t c j → wWk t c j := fun t c j z => by unfold wAc at z; unfold wWk; omega
theorem wWk_sc : ∀ t c j, wWk t c j → ¬ (2 ≤ c ∧ c ≤ 10) ∧ ¬ (15 ≤ c ∧ c ≤ 19) ∧ ¬ (t = 0 ∧ c = 0 ∧ (j = 4 ∨ j = 63)) := fun t c j z => by unfold wWk at z; omega
theorem skA_app {S : List (Option Nat)} {x : Option Nat} {k : Nat} : skA (S ++ [x]) k = if k < S.length then skA S k else if k = S.length then x else none := by
  unfold skA
  exact getD_app
theorem rStk.rp {R R' : RS} {S : List (Option Nat)} {W : Nat → Nat → Nat → Prop} (h : rStk R S) (hk : Rp W R R') (h1 : ¬ W 0 0 68) (h2 : ∀ j, ¬ W 3 42 j) (h3 : ∀ j, ¬ W 0 43 j) : rStk R' S :=
  ⟨by rw [hk.I (by decide) h1]; exact h.1, fun k hk' => by rw [hk.B (by decide) (h2 k), hk.I (by decide) (h3 k)]; exact h.2 k hk'⟩
theorem M_put_ok {R : RS} {S : List (Option Nat)} {o : Option Nat} {x : Int32} (h : rStk R S) (hl : S.length < 420) (hx : ∀ v, o = some v → x = nI v) : ∃ R', M_put_ R o.isSome x = some R' ∧ Rp wWk R R' ∧ rStk R' (S ++ [o]) := by
  obtain ⟨h1, h2⟩ := h
  unfold M_put_
  have eq2 : (if o.isSome = true then some x else some (0 : Int32)) = some (nI (o.getD 0)) := by
    cases o with
    | none => rfl
    | some v => rw [hx v rfl]; rfl
  rw [eq2]
  simp (disch := first | assumption | omega) only [h1, wrI_ok, wrB_ok, Option.bind_some, pI, pL, pB, up2_s, up2_ne]
  refine ⟨_, rfl, ?_, ?_, fun k hk => ?_⟩
  · refine Rp.tr (W' := wWk) (R' := (up2 R.1 43 S.length (nI (o.getD 0)), R.2.1, up2 R.2.2 42 S.length o.isSome)) ?_ (Rp.wI (by unfold wWk; omega)) (fun _ _ _ z => z)
    exact Rp.tr (W' := wWk) (R' := (R.1, R.2.1, up2 R.2.2 42 S.length o.isSome)) (Rp.wB (by unfold wWk; omega)) (Rp.wI (by unfold wWk; omega)) (fun _ _ _ z => z)
  · simp only [up2_s]
    rw [show (1 : Int32) = nI 1 from rfl, nI_add, List.length_append]
    rfl
  · rw [List.length_append] at hk
    have hk : k < S.length + 1 := hk
    rw [skA_app]
    by_cases z : k < S.length
    · rw [if_pos z]
      have := h2 k z
      simp (disch := omega) only [pI, pL, pB, up2_s, up2_ne]
      exact this
    · rw [if_neg z, if_pos (show k = S.length by omega), show k = S.length by omega]
      simp (disch := omega) only [pI, pL, pB, up2_s, up2_ne]
      refine ⟨?_, ?_⟩ <;> trivial
def R2w (R : RS) : RS := pL (pB R 64 false) 65 (0 : Int64)
theorem R2w_g (R : RS) : Rp wAc R (R2w R) := Rp.tr (R' := pB R 64 false) (Rp.pB ⟨rfl, .inl ⟨rfl, rfl⟩⟩) (Rp.pL ⟨rfl, .inr ⟨rfl, rfl⟩⟩) (fun _ _ _ z => z)
theorem R2w_a (R : RS) : rAc (R2w R) none := ⟨by unfold R2w; simp only [pI, pL, pB, up2_s, up2_ne]; rfl, by unfold R2w; simp only [pI, pL, pB, up2_s, up2_ne]; rfl⟩
/-- an atom's operation -/
theorem M_work_atom {R : RS} {D : List DocT} {dl : Nat → Bool} {i o w0 d : Nat} {v : VwT} {y : AtX} {S : List (Option Nat)} (h : rSc R D dl i v) (hd : d < D.length) (hm : d ∈ vDocs v) (ho : o < 400) (hy : okAt y) (h29 : R.1 29 o = nI (atO y w0).1) (h30 : R.1 30 o = (atO y w0).2.1) (h31 : R.1 31 o = (atO y w0).2.2.1) (h32 : R.1 32 o = (atO y w0).2.2.2) (hV : rVw R w0 (atW y)) (hw4 : w0 + (atW y).length ≤ 400) (hS : rStk R S) (hl : S.length < 420) : ∃ R', M_work R (nI d) (nI o) = some R' ∧ Rp wWk R R' ∧ rStk R' (S ++ [evA D v y d]) := by
  obtain ⟨y1, y2, y3, y4, y5, y6, y7, y8, y9, y10, y11⟩ := hy
  have hg2 := R2w_g R
  have ha2 := R2w_a R
  have hsc2 := h.rp hg2 wAc_sc
  have k29 : (atO y w0).1 = y.1 := by
    unfold atO
    split
    · next c => exact c.symm
    · split
      · next c => exact c.symm
      · rfl
  rw [k29] at h29
  have hy5 : y.1 < 5 := by omega
  have r29 : ∀ m : RS, Rp wAc R m → rdI m 29 400 (nI o) = some (nI y.1) := fun m gm => by rw [rdI_ok ho (by omega), gm.I (by decide) (by unfold wAc; omega), h29]
  have rI : ∀ (m : RS) (c j : Nat), Rp wAc R m → c < 46 → m.1 c j = R.1 c j := fun m c j gm hc => gm.I hc (by unfold wAc; omega)
  -- what the four steps leave
  have key : ∀ (m : RS), Rp wAc R m → rAc m (evA D v y d) → ∃ R', ((rdI m 29 400 (nI o)).bind fun v27 => if 4 < v27 then (rdI m 29 400 (nI o)).bind fun v29 => (Option.bind (if v29 = 5 then some (1 : Int32) else (rdI m 29 400 (nI o)).bind fun v32 => if ¬ v32 = 6 then (rdI m 31 400 (nI o)).bind fun v34 => some v34 else some 1) fun q30 => (some (pI m 68 ((m.1 0 68) - q30))).bind fun R35 => (rdI R35 29 400 (nI o)).bind fun v36 => if ¬ v36 = 5 then (rdI R35 29 400 (nI o)).bind fun v38 => if ¬ v38 = 6 then (rdI R35 29 400 (nI o)).bind fun v40 => Option.bind (if ¬ v40 = 7 then some false else some true) fun q41 => (lp (fun q : Bool × Int64 × Int32 => M_work_l283 R35 (nI o) q30 q.1 q.2.1 q.2.2) (q41, (0 : Int64), (R35.1 0 68))).bind fun z56 => (M_put_ R35 z56.1 z56.2.toInt32).bind fun v57 => some v57 else (rdB R35 42 420 (R35.1 0 68)).bind fun v58 => (rdI R35 43 420 (R35.1 0 68)).bind fun v59 => (rdI R35 31 400 (nI o)).bind fun v60 => (M_least (v59.toInt64 * v60.toInt64)).bind fun v61 => (M_put_ R35 v58 v61).bind fun v62 => some v62 else (rdB R35 42 420 (R35.1 0 68)).bind fun v63 => Option.bind (if v63 = true then some false else some true) fun q64 => (M_put_ R35 q64 0).bind fun v66 => some v66) else (M_put_ m (m.2.2 0 64) ((m.2.1 0 65).toInt32)).bind fun v67 => some v67) = some R' ∧ Rp wWk R R' ∧ rStk R' (S ++ [evA D v y d]) := fun m gm ham => by
    rw [r29 m gm]
    simp only [Option.bind_some]
    have e4 : ¬ (4 : Int32) < nI y.1 := fun z => by
      have := (iLt (a := 4) (b := y.1) (by omega) (by omega)).mp z
      omega
    rw [if_neg e4, ham.1, ham.2]
    have hSm := hS.rp gm (by unfold wAc; omega) (fun j z => by unfold wAc at z; omega) (fun j z => by unfold wAc at z; omega)
    obtain ⟨R', e1, g1, s1⟩ := M_put_ok (o := evA D v y d) (x := (lN ((evA D v y d).getD 0)).toInt32) hSm hl (fun w hw => by rw [hw, lN_toI]; rfl)
    rw [e1]
    exact ⟨R', rfl, (gm.mono wAc_wWk).tr g1 (fun _ _ _ z => z), s1⟩
  unfold M_work
  simp only [Option.bind_some]
  have hR2 : pL (pB R 64 false) 65 (0 : Int64) = R2w R := rfl
  rw [hR2]
  clear hR2
  generalize R2w R = m at *
  rw [r29 m hg2]
  simp only [Option.bind_some]
  have e1 : (nI y.1 = 1) = (y.1 = 1) := iEq (b := 1) (by omega) (by omega)
  have e2 : (nI y.1 = 2) = (y.1 = 2) := iEq (b := 2) (by omega) (by omega)
  have e3 : (nI y.1 = 3) = (y.1 = 3) := iEq (b := 3) (by omega) (by omega)
  have e4 : (nI y.1 = 4) = (y.1 = 4) := iEq (b := 4) (by omega) (by omega)
  have hVm : rVw m w0 (atW y) := fun k hk => ⟨⟨by rw [rI m _ _ hg2 (by decide)]; exact (hV k hk).1.1, fun j hj => by rw [rI m _ _ hg2 (by decide)]; exact (hV k hk).1.2 j hj⟩, by rw [rI m _ _ hg2 (by decide)]; exact (hV k hk).2⟩
  rcases y1 with c | c | c | c
  · -- a word
    have hl1 := y3 (by omega)
    obtain ⟨z, hz⟩ : ∃ z, atW y = [z] := List.length_eq_one_iff.mp hl1
    have hzn : z = (z.1, 0) := by
      have := y10 0 (by omega)
      rw [hz] at this
      have this : z.2 = 0 := this
      rw [← this]
    have hz0 : (atW y).getD 0 ([], 0) = z := by rw [hz]; rfl
    obtain ⟨w1, -⟩ := hVm 0 (by omega)
    rw [hz0, Nat.add_zero] at w1
    have o30 : (atO y w0).2.1 = fI y.2.1 ∧ (atO y w0).2.2.1 = nI w0 := by
      unfold atO
      rw [if_neg (by omega), if_neg (by omega)]
      exact ⟨rfl, rfl⟩
    obtain ⟨R1, f1, g1, a1⟩ := M_matchWord_ok (sl := y.2.2.2.1) (g := y.2.1) hsc2 hd hm ho (by rw [rI m _ _ hg2 (by decide), h30, o30.1]) y6 (by rw [rI m _ _ hg2 (by decide), h31, o30.2]) (by omega) w1 (y5 z (by rw [hz]; exact List.mem_cons_self)).1 ha2
    have hev : evP D v (mkPT 1 y.2.1 false false false 1 0 ([(z.1, 0)].filter (fun z => !z.1.isEmpty)) y.2.2.2.1 0 0 0 []) d = evA D v y d := by
      unfold evA atP
      rw [if_neg (by omega), if_neg (by omega), hz, ← hzn]
    rw [hev] at a1
    have G1 := hg2.tr g1 (fun _ _ _ z => z)
    simp only [e1]
    rw [if_neg (fun z => z c), f1]
    simp only [Option.bind_some, r29 R1 G1, e2]
    rw [if_pos (show ¬ y.1 = 2 by omega)]
    simp only [Option.bind_some, r29 R1 G1, e3]
    rw [if_pos (show ¬ y.1 = 3 by omega)]
    simp only [Option.bind_some, r29 R1 G1, e4]
    rw [if_pos (show ¬ y.1 = 4 by omega)]
    have := key R1 G1 a1
    simp only [r29 R1 G1, Option.bind_some] at this ⊢
    exact this
  · -- a beginning
    have hl1 := y3 (by omega)
    obtain ⟨w1, -⟩ := hVm 0 (by omega)
    rw [Nat.add_zero] at w1
    have o30 : (atO y w0).2.1 = fI y.2.1 ∧ (atO y w0).2.2.1 = nI w0 := by
      unfold atO
      rw [if_neg (by omega), if_neg (by omega)]
      exact ⟨rfl, rfl⟩
    obtain ⟨R1, f1, g1, a1⟩ := M_matchStarts_ok (g := y.2.1) (lo := lN (enc ((atW y).getD 0 ([], 0)).1)) (hi := lN ((sg ((atW y).getD 0 ([], 0)).1 + 1) * 37 ^ (12 - ((atW y).getD 0 ([], 0)).1.length) - 1)) hsc2 hd ho (by rw [rI m _ _ hg2 (by decide), h30, o30.1]) y6 (by rw [rI m _ _ hg2 (by decide), h31, o30.2]) (by omega) w1 (y5 _ (getD_mem (d := ([], 0)) (by omega))).1 ha2
    have hev : evP D v (mkPT 2 y.2.1 false false false 1 0 [] 0 0 (lN (enc ((atW y).getD 0 ([], 0)).1)) (lN ((sg ((atW y).getD 0 ([], 0)).1 + 1) * 37 ^ (12 - ((atW y).getD 0 ([], 0)).1.length) - 1)) ((atW y).getD 0 ([], 0)).1) d = evA D v y d := by
      unfold evA atP
      rw [if_neg (by omega), if_pos c]
    rw [hev] at a1
    have G1 := hg2.tr g1 (fun _ _ _ z => z)
    simp only [e1]
    rw [if_pos (show ¬ y.1 = 1 by omega)]
    simp only [Option.bind_some, r29 m hg2, e2]
    rw [if_neg (fun z => z c), f1]
    simp only [Option.bind_some, r29 R1 G1, e3]
    rw [if_pos (show ¬ y.1 = 3 by omega)]
    simp only [Option.bind_some, r29 R1 G1, e4]
    rw [if_pos (show ¬ y.1 = 4 by omega)]
    have := key R1 G1 a1
    simp only [r29 R1 G1, Option.bind_some] at this ⊢
    exact this
  · -- a phrase
    have o30 : (atO y w0).2.1 = fI y.2.1 ∧ (atO y w0).2.2.1 = nI w0 ∧ (atO y w0).2.2.2 = nI (16 * y.2.2.2.1 + (atW y).length) := by
      unfold atO
      rw [if_neg (by omega), if_pos c]
      exact ⟨rfl, rfl, rfl⟩
    obtain ⟨R1, f1, g1, a1⟩ := M_matchPhrase_ok (g := y.2.1) (sl := y.2.2.2.1) hsc2 hd hm ho (by rw [rI m _ _ hg2 (by decide), h30, o30.1]) y6 (by rw [rI m _ _ hg2 (by decide), h31, o30.2.1]) (by rw [rI m _ _ hg2 (by decide), h32, o30.2.2]) y7 hVm hw4 y2 (fun z hz => (y5 z hz).1) y10 ha2
    have hev : evP D v (mkPT 1 y.2.1 false false false 1 0 ((atW y).filter neW) y.2.2.2.1 0 0 0 []) d = evA D v y d := by
      unfold evA atP
      rw [if_neg (by omega), if_neg (by omega)]
      rfl
    rw [hev] at a1
    have G1 := hg2.tr g1 (fun _ _ _ z => z)
    simp only [e1]
    rw [if_pos (show ¬ y.1 = 1 by omega)]
    simp only [Option.bind_some, r29 m hg2, e2]
    rw [if_pos (show ¬ y.1 = 2 by omega)]
    simp only [Option.bind_some, r29 m hg2, e3]
    rw [if_neg (fun z => z c), f1]
    simp only [Option.bind_some, r29 R1 G1, e4]
    rw [if_pos (show ¬ y.1 = 4 by omega)]
    have := key R1 G1 a1
    simp only [r29 R1 G1, Option.bind_some] at this ⊢
    exact this
  · -- a range
    have o30 : (atO y w0).2.1 = nI y.2.2.2.2.1 ∧ (atO y w0).2.2.1 = y.2.2.2.2.2.1 ∧ (atO y w0).2.2.2 = y.2.2.2.2.2.2 := by
      unfold atO
      rw [if_pos c]
      exact ⟨rfl, rfl, rfl⟩
    simp only [e1]
    rw [if_pos (show ¬ y.1 = 1 by omega)]
    simp only [Option.bind_some, r29 m hg2, e2]
    rw [if_pos (show ¬ y.1 = 2 by omega)]
    simp only [Option.bind_some, r29 m hg2, e3]
    rw [if_pos (show ¬ y.1 = 3 by omega)]
    simp only [Option.bind_some, r29 m hg2, e4]
    rw [if_neg (fun z => z c)]
    rw [rdI_ok (c := 30) ho (by omega), rI m _ _ hg2 (by decide), h30, o30.1]
    simp only [Option.bind_some]
    obtain ⟨t1, t2, t3, t4⟩ := hsc2.1.2.1 d hd
    have hd4 := h.2.1
    have hq : (if ¬ nI y.2.2.2.2.1 = 0 then (rdI m 4 400 (nI d)).bind fun v21 => some v21 else (rdI m 3 400 (nI d)).bind fun v22 => some v22) = some (if y.2.2.2.2.1 = 0 then dX (dA D d) else dY (dA D d)) := by
      have e0 : (nI y.2.2.2.2.1 = 0) = (y.2.2.2.2.1 = 0) := iEq (b := 0) (by omega) (by omega)
      simp only [e0]
      by_cases c0 : y.2.2.2.2.1 = 0
      · rw [if_neg (fun z => z c0), if_pos c0, rdI_ok (by omega) (by omega), t2]
        rfl
      · rw [if_pos c0, if_neg c0, rdI_ok (by omega) (by omega), t3]
        rfl
    rw [hq]
    simp only [Option.bind_some]
    rw [rdI_ok (c := 31) ho (by omega), rI m _ _ hg2 (by decide), h31, o30.2.1, rdI_ok (c := 32) ho (by omega), rI m _ _ hg2 (by decide), h32, o30.2.2]
    simp only [Option.bind_some]
    rw [M_in_ok]
    simp only [Option.bind_some]
    have i64 : ∀ a b : Int32, (a.toInt64 ≤ b.toInt64) ↔ a ≤ b := fun a b => by
      rw [Int64.le_iff_toInt_le, Int32.le_iff_toInt_le, Int32.toInt_toInt64, Int32.toInt_toInt64]
    have hev : evA D v y d = if y.2.2.2.2.2.1 ≤ (if y.2.2.2.2.1 = 0 then dX (dA D d) else dY (dA D d)) ∧ (if y.2.2.2.2.1 = 0 then dX (dA D d) else dY (dA D d)) ≤ y.2.2.2.2.2.2 then some 0 else none := by
      unfold evA atP
      rw [if_pos c]
      have hk : pKind (mkPT 3 none false false false 1 0 [] 0 y.2.2.2.2.1 y.2.2.2.2.2.1.toInt64 y.2.2.2.2.2.2.toInt64 []) = 3 := rfl
      unfold evP
      rw [if_pos hk]
      show (if y.2.2.2.2.2.1.toInt64 ≤ (if y.2.2.2.2.1 = 0 then dX (dA D d) else dY (dA D d)).toInt64 ∧ (if y.2.2.2.2.1 = 0 then dX (dA D d) else dY (dA D d)).toInt64 ≤ y.2.2.2.2.2.2.toInt64 then some 0 else none) = _
      simp only [i64]
    generalize (if y.2.2.2.2.1 = 0 then dX (dA D d) else dY (dA D d)) = u at *
    have gR := hg2.tr (W' := wAc) (Rp.pB (R := m) (k := 64) (v := decide (y.2.2.2.2.2.1 ≤ u ∧ u ≤ y.2.2.2.2.2.2)) ⟨rfl, .inl ⟨rfl, rfl⟩⟩) (fun _ _ _ z => z)
    have aR : rAc (pB m 64 (decide (y.2.2.2.2.2.1 ≤ u ∧ u ≤ y.2.2.2.2.2.2))) (evA D v y d) := by
      rw [hev]
      by_cases q : y.2.2.2.2.2.1 ≤ u ∧ u ≤ y.2.2.2.2.2.2
      · rw [if_pos q, decide_eq_true q]
        exact ⟨by simp only [pI, pL, pB, up2_s, up2_ne]; rfl, by simp only [pI, pL, pB, up2_s, up2_ne]; exact ha2.2⟩
      · rw [if_neg q, decide_eq_false q]
        exact ⟨by simp only [pI, pL, pB, up2_s, up2_ne]; rfl, by simp only [pI, pL, pB, up2_s, up2_ne]; exact ha2.2⟩
    have := key _ gR aR
    simp only [r29 _ gR, Option.bind_some] at this ⊢
    exact this
