/-! NEAR of the reference: one token -/
def bIx (D : List DocT) (b : Option (List Nat)) (x : Int32) : Prop := match b with
  | none => x = -1
  | some t => ∃ d k, d < D.length ∧ k < tkN D 1 d ∧ tmA D 1 d k = t ∧ x = nI (250 * d + 50 * 1 + k)
def bM (df : Nat → Nat) (b : Option (List Nat)) : Nat := match b with
  | none => 0
  | some t => df (enc t)
theorem bM_s {df : Nat → Nat} {t : List Nat} : bM df (some t) = df (enc t) := rfl
theorem near_step {R : RS} {D : List DocT} {dl : Nat → Bool} {i : Nat} {v : VwT} {w : List Nat} (hD : rDocs R D dl) (hV : rView R i v) (hTm : rTm R w) (hw : isTerm w) (hDL : D.length ≤ 400) (hT : okTx D) (hi : i < 4) (ho : v.1 = true) (hd : ∀ d, d ∈ vDocs v → d < D.length) (hvl : (vDocs v).length ≤ 400) {b : Option (List Nat)} {x3 x6 : Int32} {S S' : List Nat → Prop} (hb : bIx D b x3) (hS : nB w (dfS D v 1) S b) {d m : Nat} (hd' : d < D.length) (hm : m < tkN D 1 d) (hs : ∀ u, S' u ↔ S u ∨ (u ≠ [] ∧ u = tmA D 1 d m)) : ∃ R' x3' b', M_near_l75 R (nI i) x3 (nI (edO w b)) (nI (bM (dfS D v 1) b)) x6 (nI d) (nI m) = some (.inl (x3', nI (edO w b'), nI (bM (dfS D v 1) b'), nI (m + 1), R')) ∧ Rp wEdR R R' ∧ bIx D b' x3' ∧ nB w (dfS D v 1) S' b' := by
  obtain ⟨hl, hok⟩ := hT d 1 hd' (by omega)
  have hl : tkN D 1 d ≤ 50 + 150 * 1 := hl
  have ht : isTerm (tmA D 1 d m) := (hok _ (getD_mem (d := (0, 0, [])) hm)).2.2
  have u0 : R.1 6 (2 * d + 1) = nI (tkN D 1 d) := (hD.2.2.2 d 1 hd' (by omega)).1
  have htk := hD.tk hd' (show 1 < 2 by omega) hm
  have htl := ht.1
  have hwl := hw.1
  have hdf : ∀ t, dfS D v 1 t ≤ 400 := fun t => Nat.le_trans (cN_le _ _) hvl
  have hE : ∀ u, isTerm u → edT w u ≤ 24 := fun u hu => by
    have := ed_le w u w.length u.length
    have := hu.1
    unfold edT
    omega
  have hEt := hE _ ht
  have htk1 := htk.1
  unfold M_near_l75 M_base
  have q1 : (2 : Int32) * nI d + 1 = nI (2 * d + 1) := by simp only [nl, nI_mul, nI_add]
  have q2 : (250 : Int32) * nI d + 50 * 1 + nI m = nI (250 * d + 50 * 1 + m) := by simp only [nl, nI_mul, nI_add]
  rw [q1, rdI_ok (by omega) (by omega), u0]
  simp only [Option.bind_some]
  rw [if_neg (by rw [iLe (by omega) (by omega)]; omega), q2, rdI_ok (by omega) (by omega), htk1]
  simp only [Option.bind_some]
  by_cases c0 : tmA D 1 d m = []
  · have : (nI (tmA D 1 d m).length = 0) := by rw [c0]; rfl
    rw [if_neg (fun q => q this)]
    refine ⟨R, x3, b, by simp only [Option.bind_some, nl, nI_add], Rp.rf, hb, nB_S hS (fun u => ?_)⟩
    rw [hs u]
    constructor
    · rintro (q | ⟨q1, q2⟩)
      · exact q
      · exact absurd (q2.trans c0) q1
    · exact .inl
  · have hpos := List.length_pos_iff.mpr c0
    have hne : ¬ nI (tmA D 1 d m).length = 0 := fun q => by
      rw [show (0 : Int32) = nI 0 from rfl, iEq (by omega) (by omega)] at q
      omega
    have hs' : ∀ u, S' u ↔ S u ∨ u = tmA D 1 d m := fun u => by
      rw [hs u]
      constructor
      · rintro (q | ⟨q1, q2⟩)
        · exact .inl q
        · exact .inr q2
      · rintro (q | q)
        · exact .inl q
        · exact .inr ⟨by rw [q]; exact c0, q⟩
    rw [if_pos hne]
    obtain ⟨R1, e1, k1⟩ := M_edits_ok (by omega) hw ht hTm htk
    have D1 := hD.rp k1 (by unfold wEdR; omega) (fun _ _ _ _ _ => by unfold wEdR; omega)
    have V1 := hV.rp k1 (fun _ _ _ _ _ => by unfold wEdR; omega)
    rw [e1]
    simp only [Option.bind_some]
    have hno : ¬ nbOk w (dfS D v 1) (tmA D 1 d m) b → ∃ R' x3' b', some (Sum.inl (x3, nI (edO w b), nI (bM (dfS D v 1) b), nI m + 1, R1)) = (some (.inl (x3', nI (edO w b'), nI (bM (dfS D v 1) b'), nI (m + 1), R')) : Option ((Int32 × Int32 × Int32 × Int32 × RS) ⊕ (Int32 × Int32 × Int32 × RS))) ∧ Rp wEdR R R' ∧ bIx D b' x3' ∧ nB w (dfS D v 1) S' b' := fun q => ⟨R1, x3, b, by rw [show nI m + 1 = nI (m + 1) from nI_add m 1], k1, hb, nB_n hS hs' q⟩
    have hyes : nbOk w (dfS D v 1) (tmA D 1 d m) b → ∃ R' x3' b', some (Sum.inl (nI (250 * d + 50 * 1 + m), nI (edT w (tmA D 1 d m)), nI (dfS D v 1 (enc (tmA D 1 d m))), nI m + 1, R1)) = (some (.inl (x3', nI (edO w b'), nI (bM (dfS D v 1) b'), nI (m + 1), R')) : Option ((Int32 × Int32 × Int32 × Int32 × RS) ⊕ (Int32 × Int32 × Int32 × RS))) ∧ Rp wEdR R R' ∧ bIx D b' x3' ∧ nB w (dfS D v 1) S' b' := fun q => ⟨R1, _, some (tmA D 1 d m), by rw [show nI m + 1 = nI (m + 1) from nI_add m 1]; rfl, k1, ⟨d, m, hd', hm, rfl, rfl⟩, nB_y hS ht c0 hs' q⟩
    have hbe : edO w b ≤ 24 := by
      cases b with
      | none => rw [edO_n]; omega
      | some u => rw [edO_s]; exact hE u hS.2.1
    have q3 : (2 < nI (edT w (tmA D 1 d m))) = (2 < edT w (tmA D 1 d m)) := iLt (a := 2) (by omega) (by omega)
    simp only [iLt (show edO w b < 2147483648 by omega) (show edT w (tmA D 1 d m) < 2147483648 by omega), q3]
    by_cases c1 : edO w b < edT w (tmA D 1 d m)
    · rw [if_pos c1]
      refine hno (fun q => ?_)
      cases b with
      | none => rw [edO_n] at c1; have := q.1; omega
      | some u => rw [edO_s] at c1; have := q.2 u rfl; unfold nrT at this; omega
    rw [if_neg c1]
    by_cases c2 : 2 < edT w (tmA D 1 d m)
    · rw [if_pos c2]
      exact hno (fun q => by have := q.1; omega)
    rw [if_neg c2]
    have hdo := M_dfOf_ok D1 V1 hDL hT hi ho hd hvl hd' hm
    cases b with
    | none =>
      have hb : x3 = -1 := hb
      subst hb
      rw [edO_n] at c1
      have c3 : ¬ nI (edT w (tmA D 1 d m)) = nI (edO w none) := fun q => by
        rw [edO_n, iEq (by omega) (by omega)] at q
        omega
      simp only [if_true, jn_r]
      rw [hdo]
      simp only [Option.bind_some]
      rw [if_pos c3]
      exact hyes ⟨by omega, fun u hu => by cases hu⟩
    | some u =>
      obtain ⟨db, mb, g1, g2, g3, rfl⟩ := hb
      have hlb := (hT db 1 g1 (by omega)).1
      have hlb : tkN D 1 db ≤ 50 + 150 * 1 := hlb
      have hut := hS.2.1
      have htb := D1.tk g1 (show 1 < 2 by omega) g2
      rw [g3] at htb
      have hm1 : ¬ nI (250 * db + 50 * 1 + mb) = -1 := by
        rw [show (-1 : Int32) = -nI 1 from rfl, iEqN (by omega) (by omega)]
        exact not_false
      have hal := M_areAlike_ok D1 hDL hT (f := 1) hd' (by omega) hm g1 g2
      rw [if_neg hm1, hal, g3]
      simp only [Option.bind_some]
      by_cases c4 : tmA D 1 d m = u
      · rw [decide_eq_true c4]
        exact hno (fun q => by
          have := q.2 u rfl
          rw [c4] at this
          exact nrT_ir this)
      rw [decide_eq_false c4]
      simp only [Bool.false_eq_true, if_false, jn_r]
      rw [hdo]
      simp only [Option.bind_some]
      have l1 := hdf (enc (tmA D 1 d m))
      have l2 := hdf (enc u)
      have c5 : (nI (edT w (tmA D 1 d m)) = nI (edO w (some u))) = (edT w (tmA D 1 d m) = edT w u) := iEq (by omega) (by have := hE u hut; omega)
      have c6 : (nI (dfS D v 1 (enc (tmA D 1 d m))) < nI (bM (dfS D v 1) (some u))) = (dfS D v 1 (enc (tmA D 1 d m)) < dfS D v 1 (enc u)) := iLt (by omega) (by rw [bM_s]; omega)
      have c7 : (nI (dfS D v 1 (enc (tmA D 1 d m))) = nI (bM (dfS D v 1) (some u))) = (dfS D v 1 (enc (tmA D 1 d m)) = dfS D v 1 (enc u)) := iEq (by omega) (by rw [bM_s]; omega)
      have hle := M_isLess_ok (show 250 * d + 50 * 1 + m < 100000 by omega) (show 250 * db + 50 * 1 + mb < 100000 by omega) ht hut (D1.tk hd' (show 1 < 2 by omega) hm) htb
      rw [edO_s] at c1
      simp only [c5, c6, c7]
      by_cases d1 : edT w (tmA D 1 d m) = edT w u
      · rw [if_neg (fun q => q d1)]
        by_cases d2 : dfS D v 1 (enc (tmA D 1 d m)) < dfS D v 1 (enc u)
        · rw [if_pos d2]
          exact hno (fun q => by have := q.2 u rfl; unfold nrT at this; omega)
        · rw [if_neg d2]
          by_cases d3 : dfS D v 1 (enc (tmA D 1 d m)) = dfS D v 1 (enc u)
          · rw [if_neg (fun q => q d3), hle]
            by_cases d4 : enc (tmA D 1 d m) < enc u
            · rw [decide_eq_true d4]
              exact hyes ⟨by omega, fun u' hu => by cases hu; exact .inr ⟨d1, .inr ⟨d3.symm, d4⟩⟩⟩
            · rw [decide_eq_false d4]
              exact hno (fun q => by have := q.2 u rfl; unfold nrT at this; omega)
          · rw [if_pos d3]
            exact hyes ⟨by omega, fun u' hu => by cases hu; exact .inr ⟨d1, .inl (by omega)⟩⟩
      · rw [if_pos d1]
        exact hyes ⟨by omega, fun u' hu => by cases hu; exact .inl (by omega)⟩
