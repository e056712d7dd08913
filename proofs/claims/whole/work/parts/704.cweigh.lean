/-! the class: scores as numbers, RARE, what a query weighs -/
theorem lN_toI (a : Nat) : (lN a).toInt32 = nI a := Int64.toInt32_ofNat'
theorem shr_ok : ∀ m, m < 401 → ∀ j, j < 32 → shrI (nI m) (nI j) = nI (m / 2 ^ j) := by decide +kernel
theorem E_capped_ok {a : Nat} (h : a < 9223372036854775808) : E_capped (lN a) = some (nI (min a qCap)) := by
  unfold E_capped
  rw [show (1000000000 : Int64) = lN qCap from rfl, lMin h (by decide), lN_toI]
theorem qC : qCap = 1000000000 := by decide
theorem en_ne {v : Nat} (h : v ≤ qCap) : nI v ≠ -1 := nI_n1 (by rw [qC] at h; omega)
theorem E_eitherScore_ok {a b : Option Nat} (ha : ∀ v, a = some v → v ≤ qCap) (hb : ∀ v, b = some v → v ≤ qCap) : E_eitherScore (enO a) (enO b) = some (enO (eitS a b)) := by
  unfold E_eitherScore
  cases a with
  | none => rw [if_neg (fun z => z rfl), eitS_n]
  | some x =>
    have hx := ha x rfl
    rw [enO_s, if_pos (en_ne hx)]
    cases b with
    | none => rw [if_neg (fun z => z rfl)]; rfl
    | some y =>
      have hy := hb y rfl
      rw [qC] at hx hy
      rw [enO_s, if_pos (en_ne (hb y rfl)), nI_l (by omega), nI_l (by omega), lN_add, E_capped_ok (by omega)]
      rfl
theorem E_bothScore_ok {a b : Option Nat} (ha : ∀ v, a = some v → v ≤ qCap) (hb : ∀ v, b = some v → v ≤ qCap) : E_bothScore (enO a) (enO b) = some (enO (bthS a b)) := by
  unfold E_bothScore
  cases a with
  | none => rw [if_pos (show enO none = -1 from rfl)]; rfl
  | some x =>
    have hx := ha x rfl
    rw [enO_s, if_neg (en_ne hx)]
    cases b with
    | none => rw [if_neg (fun z => z rfl)]; rfl
    | some y =>
      have hy := hb y rfl
      rw [qC] at hx hy
      rw [enO_s, if_pos (en_ne (hb y rfl)), nI_l (by omega), nI_l (by omega), lN_add, E_capped_ok (by omega)]
      rfl
theorem Vi_rareness_ok {e : Nat} {da : Nat → Nat} {σ : Mem} {st sp : Bool} {D : List DocT} {i : Nat} {v : VwT} (hF : cFix e σ st sp) (hV : cView e da σ D i v) (hi : i < 4) (ho : v.1 = true) {f : Nat} {t : List Nat} (hf : f < 2) (ht : isTerm t) (hn : t ≠ []) : Vi_rareness σ (e + (8 + 4 * i)) (nI f) (lN (enc t)) = some (nI (rrS (vDocs v).length (dfS D v f (enc t)))) := by
  obtain ⟨v1, v2, v3, v4, v5, v6, v7⟩ := hV.2 ho
  have tv := (hF.vt hi).1
  have hte := enc_lt ht.1
  have hep := enc_pos ht hn
  have hh := Vi_holders_ok hF hV hi ho hf (t := enc t) (by omega)
  rw [if_neg (by omega)] at hh
  have hdl : dfS D v f (enc t) ≤ 400 := Nat.le_trans (cN_le _ _) v5
  unfold Vi_rareness
  rw [chk_ok tv]
  simp only [Option.bind_some]
  rw [hh]
  simp only [Option.bind_some]
  unfold rrS
  have e1 : (1 ≤ nI (dfS D v f (enc t))) = (1 ≤ dfS D v f (enc t)) := iLe (a := 1) (by omega) (by omega)
  simp only [e1]
  by_cases c : 1 ≤ dfS D v f (enc t)
  · rw [if_pos c, if_neg (by omega)]
    generalize dfS D v f (enc t) = h at *
    have hr := run_ge (fun k => decide (h ≤ (vDocs v).length / 2 ^ (k + 1))) 30 0
    have hlp : lp (fun q : Int32 => Vi_rareness_l19 σ (e + (8 + 4 * i)) (nI h) q) (nI 0) = some (nI (run (fun k => decide (h ≤ (vDocs v).length / 2 ^ (k + 1))) 30 0)) := by
      refine lp_run (p := fun k => decide (h ≤ (vDocs v).length / 2 ^ (k + 1))) 30 0 (fun j h1 h2 h3 => ?_) ?_
      · have h3 := of_decide_eq_true h3
        unfold Vi_rareness_l19
        rw [if_neg (fun z => by have := (iLe (a := 30) (b := j) (by omega) (by omega)).mp z; omega), ldI_ok tv, v4]
        simp only [Option.bind_some]
        have hdiv : (vDocs v).length / 2 ^ (j + 1) ≤ (vDocs v).length := Nat.div_le_self _ _
        rw [show (1 : Int32) = nI 1 from rfl, nI_add, shr_ok _ (by omega) _ (by omega)]
        have e2 : (nI ((vDocs v).length / 2 ^ (j + 1)) < nI h) = ((vDocs v).length / 2 ^ (j + 1) < h) := iLt (by omega) (by omega)
        rw [if_neg (by rw [e2]; omega)]
      · generalize hrr : run (fun k => decide (h ≤ (vDocs v).length / 2 ^ (k + 1))) 30 0 = r at *
        unfold Vi_rareness_l19
        by_cases c30 : 30 ≤ r
        · rw [if_pos (show (30 : Int32) ≤ nI r from (iLe (a := 30) (b := r) (by omega) (by omega)).mpr c30)]
        · rw [if_neg (show ¬ (30 : Int32) ≤ nI r from fun z => c30 ((iLe (a := 30) (b := r) (by omega) (by omega)).mp z)), ldI_ok tv, v4]
          simp only [Option.bind_some]
          have ho := run_out (fun k => decide (h ≤ (vDocs v).length / 2 ^ (k + 1))) 30 0 (by rw [hrr]; omega)
          rw [hrr] at ho
          have ho := of_decide_eq_false ho
          have hdiv : (vDocs v).length / 2 ^ (r + 1) ≤ (vDocs v).length := Nat.div_le_self _ _
          rw [show (1 : Int32) = nI 1 from rfl, nI_add, shr_ok _ (by omega) _ (by omega)]
          have e2 : (nI ((vDocs v).length / 2 ^ (r + 1)) < nI h) = ((vDocs v).length / 2 ^ (r + 1) < h) := iLt (by omega) (by omega)
          rw [if_pos (by rw [e2]; omega)]
    rw [show (0 : Int32) = nI 0 from rfl, hlp]
    simp only [Option.bind_some]
    rw [show (1 : Int32) = nI 1 from rfl, nI_add]
  · rw [if_neg c, if_pos (by omega)]
    rfl
def wRr (p : Nat) : Nat → Nat → Nat → Prop := fun t a _ => t = 0 ∧ a = p + 3
def cRar (σ : Mem) (p : Nat) (D : List DocT) (v : VwT) (x : PT) : Prop := pKind x = 1 → ∀ f, f < 2 → fFor (pField x) f = true → gI σ (p + 3) f = nI (rarS D v f (pTms x))
theorem rarS_app {D : List DocT} {v : VwT} {f : Nat} {A B : List (List Nat × Nat)} : rarS D v f (A ++ B) = rarS D v f A + rarS D v f B := by
  unfold rarS
  rw [List.map_append, List.sum_append]
theorem take_sT {T : List (List Nat × Nat)} {k : Nat} (h : k < T.length) : T.take (k + 1) = T.take k ++ [T.getD k ([], 0)] := by
  rw [List.take_add_one, List.getElem?_eq_getElem h, Option.toList_some, List.getD_eq_getElem?_getD, List.getElem?_eq_getElem h]
  rfl
theorem wRr_F {e p : Nat} : Wf e (wRr p) := fun c k hc => ⟨fun z => (by unfold wRr at z; omega), fun z => (by unfold wRr at z; omega), fun z => (by unfold wRr at z; omega)⟩
theorem Pa_weigh_ok {e p i : Nat} {da : Nat → Nat} {σ : Mem} {st sp : Bool} {D : List DocT} {v : VwT} {x : PT} (hF : cFix e σ st sp) (hV : cView e da σ D i v) (hi : i < 4) (ho : v.1 = true) (hp : isP σ p) (hx : cPart σ p x) (ok : okPt x) (hp1 : e + 24 ≤ p) (hp2 : p + 4 ≤ e + 401) : ∃ σ', Pa_weigh σ p (some (e + (8 + 4 * i))) = some σ' ∧ Kp (wRr p) σ σ' ∧ cRar σ' p D v x := by
  have hN := hF.N
  have p1 := hx.1
  have hxl : (pTms x).length ≤ 8 := hx.2.2.2.2.2.2.2.2.1
  have tp := hp.1
  have hk4 := ok.1
  -- what stays
  have keep : ∀ {m : Mem}, Kp (wRr p) σ m → cFix e m st sp ∧ cView e da m D i v ∧ isP m p ∧ cPart m p x := fun {m} g => by
    have hn := g.n
    refine ⟨hF.kp g wRr_F, hV.kp g hN (fun t a k z1 z2 z => ?_) hi (fun t c k z1 z2 z => ?_), hp.kp g (by omega) (fun a k z => ?_), hx.kp g (by omega) (fun t a k z1 z2 z => ?_)⟩
    all_goals
      unfold wRr at z
      omega
  unfold Pa_weigh
  by_cases c1 : pKind x = 1
  · have h2 : ∀ (f : Nat) (m : Mem), f < 2 → Kp (wRr p) σ m → ∃ m', Pa_weigh_l2 m p (some (e + (8 + 4 * i))) (nI f) = some (.inl (nI (f + 1), m')) ∧ Kp (wRr p) σ m' ∧ (fFor (pField x) f = true → gI m' (p + 3) f = nI (rarS D v f (pTms x))) ∧ ∀ g, g ≠ f → gI m' (p + 3) g = gI m (p + 3) g := fun f m hf gm => by
      obtain ⟨F0, V0, P0, X0⟩ := keep gm
      have x1 := X0.1
      obtain ⟨ta, tb⟩ : (gT m (p + 3)).1 = 100 ∧ (gT m (p + 3)).2 = 2 := by rw [P0.2.2.2.1]; exact ⟨rfl, rfl⟩
      have tp0 := P0.1
      have r14 := P0.2.2.2.2.2.2
      have g1 : Kp (wRr p) σ (sI m (p + 3) f 0) := gm.i ⟨rfl, rfl⟩
      have v1 : gI (sI m (p + 3) f 0) (p + 3) f = nI 0 := gI_sIs _ _ _ _
      have w1 : ∀ g, g ≠ f → gI (sI m (p + 3) f 0) (p + 3) g = gI m (p + 3) g := fun g hg => gI_sIn (by omega)
      have hst : Pa_weigh_l2 m p (some (e + (8 + 4 * i))) (nI f) = (lp (fun q : Int32 × Mem => Pa_weigh_l24 q.2 p (some (e + (8 + 4 * i))) (nI f) q.1) (0, sI m (p + 3) f 0)).bind fun z19 => some (.inl (nI f + 1, z19)) := by
        unfold Pa_weigh_l2
        rw [ldI_ok tp0, x1, c1]
        simp only [Option.bind_some]
        rw [if_neg (fun z => z rfl), if_neg (fun z => by have := (iLe (a := 2) (b := f) (by omega) (by omega)).mp z; omega), ldR_ok tp0, r14]
        simp only [Option.bind_some]
        rw [waI_k ta (by rw [tb]; exact hf) (by omega)]
        rfl
      rw [hst]
      generalize sI m (p + 3) f 0 = m1 at *
      by_cases cf : fFor (pField x) f = true
      · obtain ⟨Z, e1, z1, z2, z3⟩ : ∃ Z, lp (fun q : Int32 × Mem => Pa_weigh_l24 q.2 p (some (e + (8 + 4 * i))) (nI f) q.1) ((fun j (Q : Mem) => (nI j, Q)) 0 m1) = some Z ∧ (Kp (wRr p) σ Z ∧ gI Z (p + 3) f = nI (rarS D v f (pTms x)) ∧ ∀ g, g ≠ f → gI Z (p + 3) g = gI m (p + 3) g) := by
          refine lp_for (fun j (Q : Mem) => (nI j, Q)) (pTms x).length (fun j Q => Kp (wRr p) σ Q ∧ gI Q (p + 3) f = nI (rarS D v f ((pTms x).take j)) ∧ ∀ g, g ≠ f → gI Q (p + 3) g = gI m (p + 3) g) _ (fun j Q hj hI => ?_) (fun Q hI => ?_) (pTms x).length 0 m1 (by omega) ⟨g1, v1, w1⟩
          · left
            obtain ⟨q1, q2, q3⟩ := hI
            obtain ⟨FQ, VQ, PQ, XQ⟩ := keep q1
            obtain ⟨tqa, tqb⟩ : (gT Q (p + 3)).1 = 100 ∧ (gT Q (p + 3)).2 = 2 := by rw [PQ.2.2.2.1]; exact ⟨rfl, rfl⟩
            obtain ⟨tla, tlb⟩ : (gT Q (p + 1)).1 = 101 ∧ (gT Q (p + 1)).2 = 8 := by rw [PQ.2.1]; exact ⟨rfl, rfl⟩
            have tq := PQ.1
            have tv := (FQ.vt hi).1
            have hz := ok.2.2.2.2.2.2 _ (getD_mem (d := (([], 0) : List Nat × Nat)) hj)
            have hrr := Vi_rareness_ok FQ VQ hi ho hf hz.1 hz.2.1
            have x9 := XQ.2.2.2.2.2.2.2.1
            have x10 := (XQ.2.2.2.2.2.2.2.2.2.1 j hj).1
            unfold Pa_weigh_l24
            rw [chk_ok tq]
            simp only [Option.bind_some]
            rw [Pa_isFor_ok PQ XQ ok hf]
            simp only [Option.bind_some]
            rw [if_pos cf, ldI_ok tq, x9]
            simp only [Option.bind_some]
            have e0 : ¬ nI (pTms x).length ≤ nI j := fun z => by
              have := (iLe (by omega) (by omega)).mp z
              omega
            rw [if_neg e0, ldR_ok tq, PQ.2.2.2.2.2.2]
            simp only [Option.bind_some]
            rw [raI_k tqa (by rw [tqb]; exact hf) (by omega), q2]
            simp only [Option.bind_some]
            rw [ldR_ok tq, PQ.2.2.2.2.1]
            simp only [Option.bind_some]
            rw [raL_k tla (by rw [tlb]; omega) (by omega), x10]
            simp only [Option.bind_some]
            rw [chk_ok tv]
            simp only [Option.bind_some]
            rw [hrr]
            simp only [Option.bind_some]
            rw [nI_add, waI_k tqa (by rw [tqb]; exact hf) (by omega), show (1 : Int32) = nI 1 from rfl, nI_add]
            refine ⟨_, rfl, q1.i ⟨rfl, rfl⟩, ?_, fun g hg => ?_⟩
            · show gI (sI Q (p + 3) f _) (p + 3) f = _
              rw [gI_sIs, take_sT hj, rarS_app]
              congr 2
            · show gI (sI Q (p + 3) f _) (p + 3) g = _
              rw [gI_sIn (by omega)]
              exact q3 g hg
          · obtain ⟨q1, q2, q3⟩ := hI
            rw [List.take_length] at q2
            obtain ⟨FQ, VQ, PQ, XQ⟩ := keep q1
            have tq := PQ.1
            have x9 := XQ.2.2.2.2.2.2.2.1
            refine ⟨Q, ?_, q1, q2, q3⟩
            show Pa_weigh_l24 Q p (some (e + (8 + 4 * i))) (nI f) (nI (pTms x).length) = _
            unfold Pa_weigh_l24
            rw [chk_ok tq]
            simp only [Option.bind_some]
            rw [Pa_isFor_ok PQ XQ ok hf]
            simp only [Option.bind_some]
            rw [if_pos cf, ldI_ok tq, x9]
            simp only [Option.bind_some]
            rw [if_pos ((iLe (by omega) (by omega)).mpr (Nat.le_refl _))]
        have e1 : lp (fun q : Int32 × Mem => Pa_weigh_l24 q.2 p (some (e + (8 + 4 * i))) (nI f) q.1) (0, m1) = some Z := e1
        rw [e1, show (1 : Int32) = nI 1 from rfl, nI_add]
        exact ⟨Z, rfl, z1, fun _ => z2, z3⟩
      · obtain ⟨FQ, VQ, PQ, XQ⟩ := keep g1
        have tq := PQ.1
        have hout : lp (fun q : Int32 × Mem => Pa_weigh_l24 q.2 p (some (e + (8 + 4 * i))) (nI f) q.1) (0, m1) = some m1 := by
          refine lp_out ?_
          show Pa_weigh_l24 m1 p (some (e + (8 + 4 * i))) (nI f) 0 = _
          unfold Pa_weigh_l24
          rw [chk_ok tq]
          simp only [Option.bind_some]
          rw [Pa_isFor_ok PQ XQ ok hf]
          simp only [Option.bind_some]
          rw [if_neg cf]
        rw [hout, show (1 : Int32) = nI 1 from rfl, nI_add]
        exact ⟨m1, rfl, g1, fun z => absurd z cf, w1⟩
    obtain ⟨m1, e1, g1, r1, s1⟩ := h2 0 σ (by decide) Kp.rf
    obtain ⟨m2, e2, g2, r2, s2⟩ := h2 1 m1 (by decide) g1
    obtain ⟨F2, V2, P2, X2⟩ := keep g2
    have t2 := P2.1
    have x2 := X2.1
    have e3 : Pa_weigh_l2 m2 p (some (e + (8 + 4 * i))) (nI 2) = some (.inr m2) := by
      unfold Pa_weigh_l2
      rw [ldI_ok t2, x2, c1]
      simp only [Option.bind_some]
      rw [if_neg (fun z => z rfl), if_pos (show (2 : Int32) ≤ nI 2 by decide)]
    refine ⟨m2, ?_, g2, fun _ f hf cf => ?_⟩
    · rw [lp_on (f := fun q : Int32 × Mem => Pa_weigh_l2 q.2 p (some (e + (8 + 4 * i))) q.1) (a := (0, σ)) e1, lp_on (f := fun q : Int32 × Mem => Pa_weigh_l2 q.2 p (some (e + (8 + 4 * i))) q.1) (a := (nI (0 + 1), m1)) e2, lp_out (f := fun q : Int32 × Mem => Pa_weigh_l2 q.2 p (some (e + (8 + 4 * i))) q.1) (a := (nI (1 + 1), m2)) e3]
      rfl
    · have : f = 0 ∨ f = 1 := by omega
      rcases this with rfl | rfl
      · rw [s2 0 (by decide)]
        exact r1 cf
      · exact r2 cf
  · have e1 : Pa_weigh_l2 σ p (some (e + (8 + 4 * i))) 0 = some (.inr σ) := by
      unfold Pa_weigh_l2
      rw [ldI_ok tp, p1]
      simp only [Option.bind_some]
      have : ¬ nI (pKind x) = 1 := by
        have : (nI (pKind x) = 1) = (pKind x = 1) := iEq (b := 1) (by omega) (by omega)
        rw [this]
        exact c1
      rw [if_pos this]
    rw [lp_out (f := fun q : Int32 × Mem => Pa_weigh_l2 q.2 p (some (e + (8 + 4 * i))) q.1) (a := (0, σ)) e1]
    exact ⟨σ, rfl, Kp.rf, fun z => absurd z c1⟩
