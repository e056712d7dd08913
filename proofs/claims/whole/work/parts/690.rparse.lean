/-! the reference's parser: parts and ANYS, in its loop -/
def wQr (d : Nat) : Nat → Nat → Nat → Prop := fun t c j => (t = 0 ∧ ((c = 0 ∧ (j = 30 ∨ j = 38 ∨ (40 ≤ j ∧ j ≤ 45) ∨ j = 50 ∨ j = 51 ∨ j = 58 ∨ j = 59)) ∨ c = 27 ∨ (29 ≤ c ∧ c ≤ 35) ∨ ((c = 36 ∨ c = 37) ∧ d ≤ j) ∨ (39 ≤ c ∧ c ≤ 41))) ∨ (t = 3 ∧ c = 38 ∧ d ≤ j)
def rHd (R : RS) (tp : Nat → Nat) (n : Nat) (st sp : Bool) (d : Nat) (br : Bool) (X : QSt) (np na : Nat) : Prop := rEnv R tp n st sp ∧ rO R X.2.1 ∧ rW R X.2.2.1 ∧ rM R X.2.2.2 ∧ R.1 0 59 = nI X.1.length ∧ R.1 0 58 = nI d ∧ R.1 36 d = nI np ∧ R.1 37 d = nI na ∧ (br = true ↔ ∃ k, k < d ∧ R.2.2 38 k = true)
def lenB (X : QSt) : Prop := X.1.length ≤ 40 ∧ X.2.1.length ≤ 5 * X.1.length ∧ X.2.2.1.length ≤ 8 * X.1.length ∧ X.2.2.2.length ≤ 8 * X.1.length
theorem lenB.of {X Y : QSt} {s : Nat} (h : lenB X) (g : qLen X Y s) (h40 : Y.1.length ≤ 40) : lenB Y := by
  obtain ⟨a, b, c, d⟩ := h
  obtain ⟨x, y, z⟩ := g
  exact ⟨h40, by omega, by omega, by omega⟩
theorem M_exit {R : RS} {must : Bool} {x : Int32} {p : Nat} (h : R.1 0 45 = nI p) (hp : p < 1000) : lp (fun q : Bool × Int32 × RS => M_readQuery_l47 q.2.2 q.1 q.2.1) (must, x, R) = some R := by
  refine lp_out ?_
  show M_readQuery_l47 R must x = _
  unfold M_readQuery_l47
  rw [if_pos (by rw [h]; exact nI_n1 (by omega))]
theorem it_beg {R : RS} {tp : Nat → Nat} {n i : Nat} {st sp must : Bool} (h : rEnv R tp n st sp) (hc : rPc R tp n i) (hb : qBeg (pK tp n i) = true) : M_readQuery_l47 R must 0 = (M_part R).bind fun v13 => some (.inl (v13.1, 0, v13.2)) := by
  unfold M_readQuery_l47
  rw [if_neg (fun z => z h.2.2.2.2.2), if_neg (fun z => z rfl), M_beginsPart_ok h hc]
  simp only [Option.bind_some]
  rw [if_pos hb]
theorem it_no {R : RS} {tp : Nat → Nat} {n i d : Nat} {st sp must : Bool} (h : rEnv R tp n st sp) (hc : rPc R tp n i) (hb : qBeg (pK tp n i) = false) (hd : R.1 0 58 = nI d) (hd9 : d ≤ 9) (h1 : pK tp n i = 124 → must = true) (h2 : pK tp n i = 41 → must = true ∨ d = 0) (h3 : pK tp n i = 257 → must = true ∨ d ≠ 0) : M_readQuery_l47 R must 0 = some (.inl (must, 0, pI R 45 (nI (pS tp n i)))) := by
  have hk := h.k hc.1
  have hf := M_fails_ok h
  rw [hc.2.2.1] at hf
  unfold M_readQuery_l47
  rw [if_neg (fun z => z h.2.2.2.2.2), if_neg (fun z => z rfl), M_beginsPart_ok h hc]
  simp only [Option.bind_some]
  rw [if_neg (by rw [hb]; decide), hc.2.1, hd, hf, show (124 : Int32) = nI 124 from rfl, show (41 : Int32) = nI 41 from rfl, show (0 : Int32) = nI 0 from rfl]
  simp only [rk_c hk (c := 124) (by decide), rk_c hk (c := 41) (by decide), rk_0 hk]
  have e1 : (nI d ≤ nI 0) = (d ≤ 0) := iLe (by omega) (by omega)
  have e2 : (nI d = nI 0) = (d = 0) := iEq (by omega) (by omega)
  simp only [e1, e2]
  have j1 : ∀ (K : Option ((Bool × Int32 × RS) ⊕ RS ⊕ Unit)), (if ¬ pK tp n i = 124 then some (Sum.inr ()) else if must = true then some (Sum.inr ()) else (M_endAll R).bind fun v17 => (M_read v17).bind fun v18 => some (Sum.inl (Sum.inl (true, nI 0, v18)))) = some (Sum.inr () : ((Bool × Int32 × RS) ⊕ RS) ⊕ Unit) := fun _ => by
    by_cases c : pK tp n i = 124
    · rw [if_neg (fun z => z c), if_pos (h1 c)]
    · rw [if_pos c]
  rw [j1 none]
  simp only [jn_r]
  have j2 : ∀ (E : Option (((Bool × Int32 × RS) ⊕ RS) ⊕ Unit)), (if ¬ pK tp n i = 41 then some (Sum.inr ()) else if must = true then some (Sum.inr ()) else if d ≤ 0 then some (Sum.inr ()) else E) = some (Sum.inr () : ((Bool × Int32 × RS) ⊕ RS) ⊕ Unit) := fun E => by
    by_cases c : pK tp n i = 41
    · rw [if_neg (fun z => z c)]
      rcases h2 c with z | z
      · rw [if_pos z]
      · by_cases y : must = true
        · rw [if_pos y]
        · rw [if_neg y, if_pos (by omega)]
    · rw [if_pos c]
  rw [j2]
  simp only [jn_r]
  have j3 : ∀ (E : Option (((Bool × Int32 × RS) ⊕ RS) ⊕ Unit)), (if ¬ pK tp n i = 257 then some (Sum.inr ()) else if must = true then some (Sum.inr ()) else if ¬ d = 0 then some (Sum.inr ()) else E) = some (Sum.inr () : ((Bool × Int32 × RS) ⊕ RS) ⊕ Unit) := fun E => by
    by_cases c : pK tp n i = 257
    · rw [if_neg (fun z => z c)]
      rcases h3 c with z | z
      · rw [if_pos z]
      · by_cases y : must = true
        · rw [if_pos y]
        · rw [if_neg y, if_pos z]
    · rw [if_pos c]
  rw [j3]
  rfl
theorem qBeg_k {k : Nat} (h : qBeg k = false) : k ≠ 256 ∧ k ≠ 34 ∧ k ≠ 40 ∧ k ≠ 91 ∧ k ≠ 45 := by
  unfold qBeg at h
  have := of_decide_eq_false h
  omega
def recR (tp : Nat → Nat) (n : Nat) (st sp : Bool) (nest : Bool → Bool → Nat → QSt → QLo → QRes) (d kk : Nat) : Prop := ∀ (br : Bool) (i : Nat) (X : QSt) (R : RS), 41 ≤ X.1.length + kk → lenB X → rHd R tp n st sp d br X 0 0 → rPc R tp n i → match nest br true i X (0, 0, fun _ => none, fun _ => some 0) with
  | .inl p => ∃ R', lp (fun q : Bool × Int32 × RS => M_readQuery_l47 q.2.2 q.1 q.2.1) (true, 0, R) = some R' ∧ R'.1 0 45 = nI p ∧ p < 1000 ∧ Rp (wQr d) R R'
  | .inr (j, Y, Q) => ∃ R', lp (fun q : Bool × Int32 × RS => M_readQuery_l47 q.2.2 q.1 q.2.1) (true, 0, R) = lp (fun q : Bool × Int32 × RS => M_readQuery_l47 q.2.2 q.1 q.2.1) (false, 0, R') ∧ rHd R' tp n st sp d br Y Q.1 Q.2.1 ∧ rPc R' tp n j ∧ Rp (wQr d) R R' ∧ qBeg (pK tp n j) = false ∧ pK tp n j ≠ 124 ∧ Y.1.length ≤ 40
theorem lp_inl {α β : Type} {f : α → Option (α ⊕ β)} {a a' : α} {b : β} (h : f a = some (.inl a')) (h2 : lp f a' = some b) : lp f a = some b := by
  rw [lp_on h]
  exact h2
/-- R where one more part is begun, and - is read -/
theorem M_minus {R : RS} {tp : Nat → Nat} {n i d np na : Nat} {st sp br : Bool} {X : QSt} (h : rHd R tp n st sp d br X np na) (hc : rPc R tp n i) (hl : X.1.length ≤ 40) : ∃ R2, (if decide (pK tp n i = 45) = true then (M_read (pI R 59 (nI (X.1.length + 1)))).bind fun v7 => some v7 else some (pI R 59 (nI (X.1.length + 1)))) = some R2 ∧ Rp (fun t c j => wRd t c j ∨ (t = 0 ∧ c = 0 ∧ j = 59)) R R2 ∧ rEnv R2 tp n st sp ∧ rPc R2 tp n (if pK tp n i = 45 then pE tp n i else i) ∧ R2.1 0 59 = nI (X.1.length + 1) := by
  have g1 : Rp (fun t c j => wRd t c j ∨ (t = 0 ∧ c = 0 ∧ j = 59)) R (pI R 59 (nI (X.1.length + 1))) := Rp.pI (.inr ⟨rfl, rfl, rfl⟩)
  have g0 : Rp (fun t c j => t = 0 ∧ c = 0 ∧ j = 59) R (pI R 59 (nI (X.1.length + 1))) := Rp.pI ⟨rfl, rfl, rfl⟩
  have h1 : rEnv (pI R 59 (nI (X.1.length + 1))) tp n st sp := h.1.rp g0 (fun t c j z => by omega)
  have c1 : rPc (pI R 59 (nI (X.1.length + 1))) tp n i := hc.rp g0 (fun j z1 z2 z => by omega)
  have e1 : (pI R 59 (nI (X.1.length + 1))).1 0 59 = nI (X.1.length + 1) := by simp only [pI, pL, pB, up2_s, up2_ne]
  generalize pI R 59 (nI (X.1.length + 1)) = R1 at *
  by_cases c : pK tp n i = 45
  · rw [if_pos (decide_eq_true c), if_pos c]
    obtain ⟨R2, e2, g2, c2, h2⟩ := rdv h1 c1
    rw [e2]
    exact ⟨R2, rfl, g1.tr g2 (fun _ _ _ z => .inl z), h2, c2, by rw [g2.I (by decide) (by unfold wRd; omega)]; exact e1⟩
  · rw [if_neg (fun z => c (of_decide_eq_true z)), if_neg c]
    exact ⟨R1, rfl, g1, h1, c1, e1⟩
theorem wQr_of {d : Nat} {R R' : RS} {W : Nat → Nat → Nat → Prop} (h : Rp W R R') (hw : ∀ t c j, W t c j → wQr d t c j) : Rp (wQr d) R R' := h.mono hw
theorem M_part_eq {R : RS} {tp : Nat → Nat} {n i d np na : Nat} {st sp br : Bool} {X : QSt} (h : rHd R tp n st sp d br X np na) (hc : rPc R tp n i) (hl : X.1.length < 40) (hd8 : d ≤ 8) {R2 : RS} (e2 : (if decide (pK tp n i = 45) = true then (M_read (pI R 59 (nI (X.1.length + 1)))).bind fun v7 => some v7 else some (pI R 59 (nI (X.1.length + 1)))) = some R2) (c2 : rPc R2 tp n (if pK tp n i = 45 then pE tp n i else i)) (h2 : rEnv R2 tp n st sp) : M_part R = if ¬ pK tp n (if pK tp n i = 45 then pE tp n i else i) = 40 then (M_atom R2).bind fun v9 => if v9.1 = true then Option.bind (if decide (pK tp n i = 45) = true then some v9.2 else (M_isWithinMinus v9.2).bind fun v13 => if v13 = true then some v9.2 else (M_mark v9.2 (R2.1 0 50)).bind fun v15 => some v15) fun q11 => (M_endPart q11 (decide (pK tp n i = 45))).bind fun v16 => some (false, v16) else some (false, v9.2) else if ¬ R2.1 0 58 = 8 then (wrB R2 38 10 (R2.1 0 58) (decide (pK tp n i = 45))).bind fun R18 => (some (pI R18 58 (R18.1 0 58 + 1))).bind fun R19 => (wrI R19 36 10 (R19.1 0 58) 0).bind fun R20 => (wrI R20 37 10 (R20.1 0 58) 0).bind fun R21 => (M_read R21).bind fun v22 => some (true, v22) else (M_fails R2).bind fun v23 => some (v23.1, v23.2) := by
  have hk := h.1.k hc.1
  have hk2 := h2.k c2.1
  unfold M_part
  rw [h.2.2.2.2.1, show (1 : Int32) = nI 1 from rfl, nI_add]
  simp only [Option.bind_some]
  have e59 : (pI R 59 (nI (X.1.length + 1))).1 0 59 = nI (X.1.length + 1) := by simp only [pI, pL, pB, up2_s, up2_ne]
  have e40 : (pI R 59 (nI (X.1.length + 1))).1 0 40 = nI (rk (pK tp n i)) := by simp (disch := omega) only [pI, pL, pB, up2_s, up2_ne]; exact hc.2.1
  rw [e59, e40]
  have e0 : (nI (X.1.length + 1) ≤ 40) = (X.1.length + 1 ≤ 40) := iLe (b := 40) (by omega) (by omega)
  simp only [e0]
  rw [if_pos (by omega)]
  have e45 : (if ¬ nI (rk (pK tp n i)) = 45 then some false else some true) = some (decide (pK tp n i = 45)) := by
    rw [show (45 : Int32) = nI 45 from rfl]
    simp only [rk_c hk (c := 45) (by decide)]
    by_cases c : pK tp n i = 45
    · rw [if_neg (fun z => z c), decide_eq_true c]
    · rw [if_pos c, decide_eq_false c]
  rw [e45]
  simp only [Option.bind_some]
  rw [e2]
  simp only [Option.bind_some]
  rw [c2.2.1, show (40 : Int32) = nI 40 from rfl]
  simp only [rk_c hk2 (c := 40) (by decide)]
