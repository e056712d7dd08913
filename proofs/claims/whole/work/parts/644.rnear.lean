/-! NEAR and NEARBYTE of the reference -/
theorem nearR_ok {D : List DocT} {V : Nat → VwT} {tp : Nat → Nat} {n : Nat} {nr nr' : Option (List Nat)} {x r : Int32} (h : nearR D V tp n nr x r nr') (ho : okN nr) : okN nr' := by
  unfold nearR at h
  cases hx : vAt V x with
  | none =>
    rw [hx] at h
    rw [h.2]; exact ho
  | some i =>
    rw [hx] at h
    simp only at h
    by_cases c : isW tp n = true
    · rw [if_pos c] at h
      obtain ⟨b, h1, h2, h3⟩ := h
      rw [h3]
      cases b with
      | none => exact ho
      | some u => exact fun t ht => by cases ht; exact ⟨h1.2.1, h1.2.2.1⟩
    · rw [if_neg c] at h
      rw [h.2]; exact ho
theorem near_loop {R : RS} {D : List DocT} {dl : Nat → Bool} {i : Nat} {v : VwT} {w : List Nat} (hD : rDocs R D dl) (hV : rView R i v) (hTm : rTm R w) (hw : isTerm w) (hDL : D.length ≤ 400) (hT : okTx D) (hi : i < 4) (ho : v.1 = true) (hd : ∀ d, d ∈ vDocs v → d < D.length) (hvl : (vDocs v).length ≤ 400) : ∃ z b, lp (fun q : Int32 × Int32 × Int32 × Int32 × RS => M_near_l46 q.2.2.2.2 (nI i) q.1 q.2.1 q.2.2.1 q.2.2.2.1) (-1, 3, 0, 0, R) = some z ∧ bIx D b z.1 ∧ z.2.1 = nI (edO w b) ∧ Rp wEdR R z.2.2 ∧ nB w (dfS D v 1) (cand D v) b := by
  obtain ⟨z, hz, b, h1, h2, h3, h4⟩ : ∃ z, lp (fun q : Int32 × Int32 × Int32 × Int32 × RS => M_near_l46 q.2.2.2.2 (nI i) q.1 q.2.1 q.2.2.1 q.2.2.2.1) ((fun (k : Nat) (s : Int32 × Int32 × Int32 × RS) => (s.1, s.2.1, s.2.2.1, nI k, s.2.2.2)) 0 (-1, nI 3, nI 0, R)) = some z ∧ ∃ b, bIx D b z.1 ∧ z.2.1 = nI (edO w b) ∧ Rp wEdR R z.2.2 ∧ nB w (dfS D v 1) (fun t => t ≠ [] ∧ ∃ k, k < (vDocs v).length ∧ hasB D 1 ((vDocs v).getD k 0) t) b := by
    refine lp_for (fun (k : Nat) (s : Int32 × Int32 × Int32 × RS) => (s.1, s.2.1, s.2.2.1, nI k, s.2.2.2)) (vDocs v).length (fun k s => ∃ b, bIx D b s.1 ∧ s.2.1 = nI (edO w b) ∧ s.2.2.1 = nI (bM (dfS D v 1) b) ∧ Rp wEdR R s.2.2.2 ∧ nB w (dfS D v 1) (fun t => t ≠ [] ∧ ∃ k', k' < k ∧ hasB D 1 ((vDocs v).getD k' 0) t) b) _ (fun k s hk hI => ?_) (fun s hI => ?_) (vDocs v).length 0 _ (by omega) ⟨none, rfl, rfl, rfl, Rp.rf, fun t q => by obtain ⟨-, k, h1, -⟩ := q; omega⟩
    · left
      obtain ⟨x3, x4, x5, Y⟩ := s
      obtain ⟨b, y1, y2, y3, y4, y5⟩ := hI
      simp only at y1 y2 y3 y4
      subst y2 y3
      have hdk := hd _ (getD_mem (d := 0) hk)
      have VY := hV.rp y4 (fun _ _ _ _ _ => by unfold wEdR; omega)
      have DY := hD.rp y4 (by unfold wEdR; omega) (fun _ _ _ _ _ => by unfold wEdR; omega)
      obtain ⟨v1, v2, v3⟩ := VY.2 ho
      obtain ⟨hl, -⟩ := hT _ 1 hdk (by omega)
      have hl : tkN D 1 ((vDocs v).getD k 0) ≤ 50 + 150 * 1 := hl
      obtain ⟨z, hz, b', g1, g2, g3, g4, g5⟩ : ∃ z, lp (fun q : Int32 × Int32 × Int32 × Int32 × RS => M_near_l75 q.2.2.2.2 (nI i) q.1 q.2.1 q.2.2.1 (nI k) (nI ((vDocs v).getD k 0)) q.2.2.2.1) ((fun (m : Nat) (s : Int32 × Int32 × Int32 × RS) => (s.1, s.2.1, s.2.2.1, nI m, s.2.2.2)) 0 (x3, nI (edO w b), nI (bM (dfS D v 1) b), Y)) = some z ∧ ∃ b', bIx D b' z.1 ∧ z.2.1 = nI (edO w b') ∧ z.2.2.1 = nI (bM (dfS D v 1) b') ∧ Rp wEdR R z.2.2.2 ∧ nB w (dfS D v 1) (fun t => (t ≠ [] ∧ ∃ k', k' < k ∧ hasB D 1 ((vDocs v).getD k' 0) t) ∨ (t ≠ [] ∧ ∃ m', m' < tkN D 1 ((vDocs v).getD k 0) ∧ tmA D 1 ((vDocs v).getD k 0) m' = t)) b' := by
        refine lp_for (fun (m : Nat) (s : Int32 × Int32 × Int32 × RS) => (s.1, s.2.1, s.2.2.1, nI m, s.2.2.2)) (tkN D 1 ((vDocs v).getD k 0)) (fun m s => ∃ b', bIx D b' s.1 ∧ s.2.1 = nI (edO w b') ∧ s.2.2.1 = nI (bM (dfS D v 1) b') ∧ Rp wEdR R s.2.2.2 ∧ nB w (dfS D v 1) (fun t => (t ≠ [] ∧ ∃ k', k' < k ∧ hasB D 1 ((vDocs v).getD k' 0) t) ∨ (t ≠ [] ∧ ∃ m', m' < m ∧ tmA D 1 ((vDocs v).getD k 0) m' = t)) b') _ (fun m s hm hI => ?_) (fun s hI => ?_) (tkN D 1 ((vDocs v).getD k 0)) 0 _ (by omega) ⟨b, y1, rfl, rfl, y4, nB_S y5 (fun t => ⟨fun q => by rcases q with q | ⟨-, m, q, -⟩; exact q; omega, .inl⟩)⟩
        · left
          obtain ⟨x3, x4, x5, Z⟩ := s
          obtain ⟨b, y1, y2, y3, y4, y5⟩ := hI
          simp only at y1 y2 y3 y4
          subst y2 y3
          have DZ := hD.rp y4 (by unfold wEdR; omega) (fun _ _ _ _ _ => by unfold wEdR; omega)
          have VZ := hV.rp y4 (fun _ _ _ _ _ => by unfold wEdR; omega)
          have TZ := hTm.rp y4 (by unfold wEdR; omega) (fun _ => by unfold wEdR; omega)
          obtain ⟨R', x3', b', e1, e2, e3, e4⟩ := near_step DZ VZ TZ hw hDL hT hi ho hd hvl (x6 := nI k) y1 y5 hdk hm (S' := fun t => (t ≠ [] ∧ ∃ k', k' < k ∧ hasB D 1 ((vDocs v).getD k' 0) t) ∨ (t ≠ [] ∧ ∃ m', m' < m + 1 ∧ tmA D 1 ((vDocs v).getD k 0) m' = t)) (fun u => by
            constructor
            · rintro (q | ⟨q1, m', q2, q3⟩)
              · exact .inl (.inl q)
              · by_cases z : m' = m
                · subst z
                  exact .inr ⟨q1, q3.symm⟩
                · exact .inl (.inr ⟨q1, m', by omega, q3⟩)
            · rintro ((q | ⟨q1, m', q2, q3⟩) | ⟨q1, q2⟩)
              · exact .inl q
              · exact .inr ⟨q1, m', by omega, q3⟩
              · exact .inr ⟨q1, m, by omega, q2.symm⟩)
          exact ⟨(x3', nI (edO w b'), nI (bM (dfS D v 1) b'), R'), e1, b', e3, rfl, rfl, Rp.tr y4 e2 (fun _ _ _ q => q), e4⟩
        · obtain ⟨x3, x4, x5, Z⟩ := s
          obtain ⟨b, y1, y2, y3, y4, y5⟩ := hI
          simp only at y1 y2 y3 y4
          have DZ := hD.rp y4 (by unfold wEdR; omega) (fun _ _ _ _ _ => by unfold wEdR; omega)
          have u0 : Z.1 6 (2 * (vDocs v).getD k 0 + 1) = nI (tkN D 1 ((vDocs v).getD k 0)) := (DZ.2.2.2 _ 1 hdk (by omega)).1
          refine ⟨(x3, x4, x5, Z), ?_, b, y1, y2, y3, y4, y5⟩
          have q1 : (2 : Int32) * nI ((vDocs v).getD k 0) + 1 = nI (2 * (vDocs v).getD k 0 + 1) := by simp only [nl, nI_mul, nI_add]
          unfold M_near_l75
          rw [q1, rdI_ok (by omega) (by omega), u0]
          simp only [Option.bind_some]
          rw [if_pos (by rw [iLe (by omega) (by omega)]; exact Nat.le_refl _)]
      obtain ⟨z1, z2, z3, Z⟩ := z
      simp only at g1 g2 g3 g4
      subst g2 g3
      have qa : (400 : Int32) * nI i + nI k = nI (400 * i + k) := by simp only [nl, nI_mul, nI_add]
      refine ⟨(z1, nI (edO w b'), nI (bM (dfS D v 1) b'), Z), ?_, b', g1, rfl, rfl, g4, nB_S g5 (fun t => ?_)⟩
      · unfold M_near_l46
        simp only
        rw [rdI_ok (by omega) (by omega), v2]
        simp only [Option.bind_some]
        rw [if_neg (by rw [iLe (by omega) (by omega)]; omega), qa, rdI_ok (by omega) (by omega), (v3 k hk).1]
        simp only [Option.bind_some]
        have hz : lp (fun q : Int32 × Int32 × Int32 × Int32 × RS => M_near_l75 q.2.2.2.2 (nI i) q.1 q.2.1 q.2.2.1 (nI k) (nI ((vDocs v).getD k 0)) q.2.2.2.1) (x3, nI (edO w b), nI (bM (dfS D v 1) b), 0, Y) = some (z1, nI (edO w b'), nI (bM (dfS D v 1) b'), Z) := hz
        rw [hz]
        simp only [Option.bind_some, nl, nI_add]
      · constructor
        · rintro ⟨q1, k', q2, q3⟩
          by_cases z : k' = k
          · subst z
            obtain ⟨m', q4, q5⟩ := q3
            exact .inr ⟨q1, m', q4, q5⟩
          · exact .inl ⟨q1, k', by omega, q3⟩
        · rintro (⟨q1, k', q2, q3⟩ | ⟨q1, m', q2, q3⟩)
          · exact ⟨q1, k', by omega, q3⟩
          · exact ⟨q1, k, by omega, m', q2, q3⟩
    · obtain ⟨x3, x4, x5, Y⟩ := s
      obtain ⟨b, y1, y2, y3, y4, y5⟩ := hI
      simp only at y1 y2 y3 y4
      have VY := hV.rp y4 (fun _ _ _ _ _ => by unfold wEdR; omega)
      obtain ⟨v1, v2, v3⟩ := VY.2 ho
      refine ⟨(x3, x4, Y), ?_, b, y1, y2, y4, y5⟩
      unfold M_near_l46
      simp only
      rw [rdI_ok (by omega) (by omega), v2]
      simp only [Option.bind_some]
      rw [if_pos (by rw [iLe (by omega) (by omega)]; exact Nat.le_refl _)]
  refine ⟨z, b, hz, h1, h2, h3, nB_S h4 (fun t => ?_)⟩
  unfold cand
  constructor
  · rintro ⟨q1, d, q2, q3⟩
    obtain ⟨k, hk, e⟩ := List.getElem_of_mem q2
    refine ⟨q1, k, hk, ?_⟩
    rw [List.getD_eq_getElem?_getD, List.getElem?_eq_getElem hk]
    simp only [Option.getD_some]
    rw [e]
    exact q3
  · rintro ⟨q1, k, q2, q3⟩
    exact ⟨q1, _, getD_mem q2, q3⟩
theorem rH_near {R R' : RS} {tp : Nat → Nat} {n : Nat} {D : List DocT} {dl : Nat → Bool} {bs : Nat} {G : List SegT} {V : Nat → VwT} {A : AnT} {nr : Option (List Nat)} {mg : Nat} {st sp : Bool} (h : rH R tp n D dl bs G V A nr mg st sp) {t : List Nat} (k : Rp (fun t c k => t = 0 ∧ ((c = 0 ∧ k = 35) ∨ c = 26)) R R') (h1 : R'.1 0 35 = nI t.length) (h2 : ∀ k, k < t.length → R'.1 26 k = nI (t.getD k 0)) : rH R' tp n D dl bs G V A (some t) mg st sp := by
  obtain ⟨a1, a2, a3, a4, a5, a6, a7, a8, a9, a10⟩ := h
  refine ⟨a1.rp k (by omega) (fun _ => by omega), a2.rp k (by omega) (fun _ _ _ _ _ => by omega), a3.rp k (by omega) (fun _ => by omega), a4.rp k (by omega) (fun _ _ _ _ => by omega), fun i hi => (a5 i hi).rp k (fun _ _ _ _ _ => by omega), a6.rp k ⟨by omega, by omega, by omega⟩ (fun _ _ _ _ => by omega), ⟨h1, h2⟩, ?_, ?_, ?_⟩
  · rw [k.I (by decide) (by omega)]; exact a8
  · rw [k.B (by decide) (by omega)]; exact a9
  · rw [k.B (by decide) (by omega)]; exact a10
theorem M_near_ok {R : RS} {tp : Nat → Nat} {n : Nat} {D : List DocT} {dl : Nat → Bool} {bs : Nat} {G : List SegT} {V : Nat → VwT} {A : AnT} {nr : Option (List Nat)} {mg : Nat} {st sp : Bool} (h : rH R tp n D dl bs G V A nr mg st sp) (hDL : D.length ≤ 400) (hT : okTx D) (hVd : okV D V) (hVl : okVl V) (x : Int32) : ∃ R' r nr', M_near R x = some (r, R') ∧ rH R' tp 0 D dl bs G V A nr' mg st sp ∧ nearR D V tp n nr x r nr' := by
  have hn := h.1.1
  obtain ⟨e1, H1⟩ := rH_tape h
  have hby : rBy (pI R 3 0) tp := H1.1.by
  unfold M_near nearR
  simp only [Option.bind_some]
  rw [e1]
  generalize pI R 3 0 = R1 at *
  rw [M_isView_ok H1.2.2.2.2.1]
  cases hx : vAt V x with
  | none => exact ⟨R1, -2, nr, rfl, H1, rfl, rfl⟩
  | some i =>
    obtain ⟨hi, rfl, ho⟩ := vAt_ok hx
    simp only [Option.isSome_some, Option.bind_some, if_true]
    rw [M_isWord_ok hby hn]
    cases hW : isW tp n with
    | false =>
      simp only [Option.bind_some, Bool.false_eq_true, if_false]
      exact ⟨R1, -2, nr, rfl, H1, rfl, rfl⟩
    | true =>
      obtain ⟨hn0, hwd⟩ := isW_wd hW hn (fun i hi => (hby i hi).1)
      have hw := small_term hwd
      obtain ⟨R2, e2, k2, t2⟩ := M_small_ok hby (p := 0) (k := n) (by omega)
      have H2 := H1.scr (k2.mono wTm_s)
      simp only [Option.bind_some, if_true]
      rw [show (0 : Int32) = nI 0 from rfl, e2]
      simp only [Option.bind_some]
      obtain ⟨z, b, g1, g2, g3, g4, g5⟩ := near_loop H2.2.1 (H2.2.2.2.2.1 i hi) t2 hw hDL hT hi ho (hVd i hi ho) (hVl i hi ho)
      have g1 : lp (fun q : Int32 × Int32 × Int32 × Int32 × RS => M_near_l46 q.2.2.2.2 (nI i) q.1 q.2.1 q.2.2.1 q.2.2.2.1) (-1, 3, nI 0, nI 0, R2) = some z := g1
      rw [g1]
      obtain ⟨z1, z2, Z⟩ := z
      simp only at g2 g3 g4
      subst g3
      have HZ := H2.scr (g4.mono (fun t c k q => by unfold wEdR at q; unfold wScr; omega))
      simp only [Option.bind_some]
      cases b with
      | none =>
        have g2 : z1 = -1 := g2
        subst g2
        rw [if_neg (by simp)]
        exact ⟨Z, -1, nr, rfl, HZ, none, g5, rfl, rfl⟩
      | some u =>
        obtain ⟨d, m, p1, p2, p3, rfl⟩ := g2
        have hlb := (hT d 1 p1 (by omega)).1
        have hlb : tkN D 1 d ≤ 50 + 150 * 1 := hlb
        have hul := g5.2.1.1
        have tk := HZ.2.1.tk p1 (show 1 < 2 by omega) p2
        rw [p3] at tk
        rw [if_pos (by rw [show (-1 : Int32) = -nI 1 from rfl, iEqN (by omega) (by omega)]; exact not_false), rdI_ok (by omega) (by omega), tk.1]
        simp only [Option.bind_some]
        obtain ⟨Y, hY, y1, y2, y3⟩ : ∃ Y, lp (fun q : Int32 × RS => M_near_l240 q.2 (nI (250 * d + 50 * 1 + m)) (nI (edO (small tp 0 n) (some u))) q.1) (nI 0, pI Z 35 (nI u.length)) = some Y ∧ (Rp (fun t c k => t = 0 ∧ ((c = 0 ∧ k = 35) ∨ c = 26)) Z Y ∧ Y.1 0 35 = nI u.length ∧ ∀ k, k < u.length → Y.1 26 k = nI (u.getD k 0)) := by
          refine lp_for (fun k (s : RS) => (nI k, s)) u.length (fun k s => Rp (fun t c k => t = 0 ∧ ((c = 0 ∧ k = 35) ∨ c = 26)) Z s ∧ s.1 0 35 = nI u.length ∧ ∀ k', k' < k → s.1 26 k' = nI (u.getD k' 0)) _ (fun k s hk hI => ?_) (fun s hI => ?_) u.length 0 _ (by omega) ⟨Rp.pI ⟨rfl, .inl ⟨rfl, rfl⟩⟩, by simp only [pI, pL, pB, up2_s, up2_ne], fun k hk => absurd hk (by omega)⟩
          · left
            obtain ⟨y1, y2, y3⟩ := hI
            obtain ⟨c1, c2⟩ := tk.rp y1 (fun k => ⟨by omega, by omega⟩)
            unfold M_near_l240
            rw [y2]
            simp (disch := omega) only [nl, nI_add, nI_mul, iSub, iEq, iLe, iLt, iEqN, iNEq, iNN, iLtN, iNLt, iLeN, iNLe, iAddN, iNAdd, iMin, iMax, iDiv, iRem]
            rw [if_neg (by omega)]
            simp (disch := first | assumption | omega | (simp only [gT_sI, gT_sL, gT_sR, gT_sB]; first | assumption | omega)) only [Option.bind_some, ldI_ok, ldL_ok, ldR_ok, ldB_ok, stI_ok, stL_ok, stR_ok, stB_ok, chk_ok, raI_k, raL_k, raR_k, raB_k, waI_k, waL_k, waB_k, waR_k, alen_k, gT_sI, gT_sL, gT_sR, gT_sB, gN_sI, gN_sL, gN_sR, gN_sB, gI_sL, gI_sR, gI_sB, gL_sI, gL_sR, gL_sB, gR_sI, gR_sL, gR_sB, gB_sI, gB_sL, gB_sR, gI_sIs, gL_sLs, gR_sRs, gB_sBs, gI_sIn, gL_sLn, gR_sRn, gB_sBn, rdI_ok, rdL_ok, rdB_ok, wrI_ok, wrL_ok, wrB_ok, c2 k hk]
            refine ⟨_, rfl, Rp.tr y1 (Rp.wI ⟨rfl, .inr rfl⟩) (fun _ _ _ q => q), ?_, fun k' hk' => ?_⟩
            · simp only
              rw [up2_ne (by omega)]; exact y2
            · by_cases z : k' = k
              · subst z; simp only [pI, pL, pB, up2_s, up2_ne]
              · simp only
                rw [up2_ne (by omega)]; exact y3 k' (by omega)
          · obtain ⟨y1, y2, y3⟩ := hI
            refine ⟨s, ?_, y1, y2, y3⟩
            unfold M_near_l240
            rw [y2]
            simp (disch := omega) only [nl, nI_add, nI_mul, iSub, iEq, iLe, iLt, iEqN, iNEq, iNN, iLtN, iNLt, iLeN, iNLe, iAddN, iNAdd, iMin, iMax, iDiv, iRem]
            rw [if_pos (by omega)]
        rw [hY]
        exact ⟨Y, _, some u, rfl, rH_near HZ y1 y2 y3, some u, g5, rfl, rfl⟩
theorem M_nearByte_ok {R : RS} {tp : Nat → Nat} {n : Nat} {D : List DocT} {dl : Nat → Bool} {bs : Nat} {G : List SegT} {V : Nat → VwT} {A : AnT} {nr : Option (List Nat)} {mg : Nat} {st sp : Bool} (h : rH R tp n D dl bs G V A nr mg st sp) (ho : okN nr) (x : Int32) : M_nearByte R x = some (nbS nr x) := by
  have hN := h.2.2.2.2.2.2.1
  unfold M_nearByte
  cases nr with
  | none =>
    have hN : R.1 0 35 = -1 := hN
    rw [hN, if_pos rfl]
    rfl
  | some t =>
    obtain ⟨h1, h2⟩ := hN
    have htl := (ho t rfl).1.1
    have htn := List.length_pos_iff.mpr (ho t rfl).2
    rw [h1, nbS_s, if_neg (by rw [show (-1 : Int32) = -nI 1 from rfl, iEqN (by omega) (by omega)]; exact not_false), M_in_ok]
    rw [show nI t.length - 1 = nI (t.length - 1) from iSub (b := 1) (by omega)]
    rcases i32_cases x with z | ⟨k, hk, rfl⟩
    · by_cases c : x = -1
      · subst c
        have : decide (-1 ≤ (-1 : Int32) ∧ (-1 : Int32) ≤ nI (t.length - 1)) = true := by
          rw [decide_eq_true_eq]
          refine ⟨Int32.le_refl _, ?_⟩
          rw [show (-1 : Int32) = -nI 1 from rfl, iNLe (by omega) (by omega)]
          trivial
        rw [this, if_pos rfl]
        rfl
      · have hlt : x < -1 := by
          rw [Int32.lt_iff_toInt_lt] at z ⊢
          have h2 : (0 : Int32).toInt = 0 := by decide
          have h3 : (-1 : Int32).toInt = -1 := by decide
          have h4 : x.toInt ≠ -1 := fun q => c (Int32.toInt_inj.mp (by rw [q, h3]))
          omega
        have h0 : ¬ (0 ≤ x) := Int32.not_le.mpr z
        have : decide (-1 ≤ x ∧ x ≤ nI (t.length - 1)) = false := decide_eq_false (fun q => Int32.not_le.mpr hlt q.1)
        rw [this, if_neg h0, if_neg c, if_neg (fun q => h0 q.1)]
        rfl
    · have c1 : ¬ nI k = -1 := by
        rw [show (-1 : Int32) = -nI 1 from rfl, iEqN hk (by omega)]
        exact not_false
      have c2 : -1 ≤ nI k := by
        rw [show (-1 : Int32) = -nI 1 from rfl, iNLe hk (by omega)]
        trivial
      have c3 : (0 ≤ nI k) = True := eq_true (nI_pos' (by omega))
      rw [if_neg c1]
      simp only [c2, c3, true_and, iLt hk (show t.length < 2147483648 by omega), iLe hk (show t.length - 1 < 2147483648 by omega)]
      rw [nI_clamp (by omega)]
      by_cases c : k < t.length
      · rw [decide_eq_true (show k ≤ t.length - 1 by omega), if_pos c]
        simp (disch := first | assumption | omega | (simp only [gT_sI, gT_sL, gT_sR, gT_sB]; first | assumption | omega)) only [Option.bind_some, ldI_ok, ldL_ok, ldR_ok, ldB_ok, stI_ok, stL_ok, stR_ok, stB_ok, chk_ok, raI_k, raL_k, raR_k, raB_k, waI_k, waL_k, waB_k, waR_k, alen_k, gT_sI, gT_sL, gT_sR, gT_sB, gN_sI, gN_sL, gN_sR, gN_sB, gI_sL, gI_sR, gI_sB, gL_sI, gL_sR, gL_sB, gR_sI, gR_sL, gR_sB, gB_sI, gB_sL, gB_sR, gI_sIs, gL_sLs, gR_sRs, gB_sBs, gI_sIn, gL_sLn, gR_sRn, gB_sBn, rdI_ok, rdL_ok, rdB_ok, wrI_ok, wrL_ok, wrB_ok, h2 k c, if_true]
      · rw [decide_eq_false (show ¬ k ≤ t.length - 1 by omega), if_neg c]
        rfl
