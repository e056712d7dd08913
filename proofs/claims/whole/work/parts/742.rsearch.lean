/-! the reference: search -/
def wMs : Nat → Nat → Nat → Prop := fun _ c j => (20 ≤ c ∧ c ≤ 25) ∨ 27 ≤ c ∨ (c = 0 ∧ (j = 26 ∨ j = 27 ∨ j = 30 ∨ 38 ≤ j))
theorem rH_ms {R R' : RS} {tp : Nat → Nat} {n : Nat} {D : List DocT} {dl : Nat → Bool} {bs : Nat} {G : List SegT} {V : Nat → VwT} {A A' : AnT} {nr : Option (List Nat)} {mg : Nat} {st sp : Bool} (h : rH R tp n D dl bs G V A nr mg st sp) (k : Rp wMs R R') (hA : rAns R' A') : rH R' tp n D dl bs G V A' nr mg st sp := by
  obtain ⟨h1, h2, h3, h4, h5, h6, h7, h8, h9, h10⟩ := h
  refine ⟨h1.rp k (by unfold wMs; omega) (fun _ => by unfold wMs; omega), h2.rp k (by unfold wMs; omega) (fun _ _ _ _ _ => by unfold wMs; omega), h3.rp k (by unfold wMs; omega) (fun _ => by unfold wMs; omega), h4.rp k (by unfold wMs; omega) (fun _ _ _ _ => by unfold wMs; omega), fun i hi => (h5 i hi).rp k (fun _ _ _ _ _ => by unfold wMs; omega), hA, h7.rp k (by unfold wMs; omega) (fun _ => by unfold wMs; omega), ?_, ?_, ?_⟩
  · rw [k.I (by decide) (by unfold wMs; omega)]; exact h8
  · rw [k.B (by decide) (by unfold wMs; omega)]; exact h9
  · rw [k.B (by decide) (by unfold wMs; omega)]; exact h10
theorem Rp_back {R R' : RS} (k : Rp (fun t c j => wScr t c j ∨ (t = 0 ∧ c = 0 ∧ j = 30)) R R') (h : R'.1 0 30 = R.1 0 30) : Rp wScr R R' := fun c j hc => ⟨fun q => by
    by_cases e : c = 0 ∧ j = 30
    · rw [e.1, e.2]; exact h
    · exact k.I hc (fun z => z.elim q (fun z => e ⟨z.2.1, z.2.2⟩)), fun q => k.L hc (fun z => z.elim q (fun z => by omega)), fun q => k.B hc (fun z => z.elim q (fun z => by omega))⟩
/-- the state in which a query is read -/
def rQ0 (R : RS) (n : Nat) : RS := pI (pI (pI R 44 (nI n)) 43 0) 45 (-1)
theorem rQ0_env {R : RS} {tp : Nat → Nat} {n : Nat} {D : List DocT} {dl : Nat → Bool} {bs : Nat} {G : List SegT} {V : Nat → VwT} {A : AnT} {nr : Option (List Nat)} {mg : Nat} {st sp : Bool} (h : rH R tp 0 D dl bs G V A nr mg st sp) (hn : n ≤ 600) : rEnv (rQ0 R n) tp n st sp ∧ (rQ0 R n).1 0 43 = nI 0 ∧ Rp wScr R (rQ0 R n) := by
  have k : Rp wScr R (rQ0 R n) := by
    unfold rQ0
    exact Rp.tr (W' := wScr) (R' := pI (pI R 44 (nI n)) 43 0) (Rp.tr (W' := wScr) (R' := pI R 44 (nI n)) (Rp.pI (by unfold wScr; omega)) (Rp.pI (by unfold wScr; omega)) (fun _ _ _ z => z)) (Rp.pI (by unfold wScr; omega)) (fun _ _ _ z => z)
  have H := h.scr k
  refine ⟨⟨hn, H.1.by, H.2.2.2.2.2.2.2.2.1, H.2.2.2.2.2.2.2.2.2, ?_, ?_⟩, ?_, k⟩
  · unfold rQ0
    simp (disch := omega) only [pI, pL, pB, up2_s, up2_ne]
  · unfold rQ0
    simp (disch := omega) only [pI, pL, pB, up2_s, up2_ne]
  · unfold rQ0
    simp (disch := omega) only [pI, pL, pB, up2_s, up2_ne]
    rfl
theorem parse_p {R : RS} {tp : Nat → Nat} {n : Nat} {D : List DocT} {dl : Nat → Bool} {bs : Nat} {G : List SegT} {V : Nat → VwT} {A : AnT} {nr : Option (List Nat)} {mg : Nat} {st sp : Bool} (h : rH R tp n D dl bs G V A nr mg st sp) (ev : AtX → Sem) (p : Nat) (hp : qParse st sp tp n ev = .inl p) : p < 1000 := by
  obtain ⟨e1, H1⟩ := rH_tape h
  obtain ⟨a, b, -⟩ := rQ0_env H1 h.1.1
  have := M_readQuery_ok (ev := ev) a b
  rw [hp] at this
  obtain ⟨R', r1, r2, r3, r4⟩ := this
  exact r3
theorem M_search_ok {R : RS} {tp : Nat → Nat} {n : Nat} {D : List DocT} {dl : Nat → Bool} {bs : Nat} {G : List SegT} {V : Nat → VwT} {A : AnT} {nr : Option (List Nat)} {mg : Nat} {st sp : Bool} (h : rH R tp n D dl bs G V A nr mg st sp) (hDL : D.length ≤ 400) (hT : okTx D) (hVd : okV D V) (hVl : okVl V) (x : Int32) : ∃ R' r A', M_search R x = some (r, R') ∧ rH R' tp 0 D dl bs G V A' nr mg st sp ∧ srchR D V st sp tp n x A r A' := by
  have hn := h.1.1
  obtain ⟨e1, H1⟩ := rH_tape h
  have hb : ∀ j, j < 600 → tp j < 256 := fun j hj => (h.1.2.2 j hj).1
  have e3 : (pI R 3 0).1 0 3 = 0 := by simp only [pI, pL, pB, up2_s, up2_ne]
  unfold M_search
  simp only [Option.bind_some]
  rw [e1]
  generalize pI R 3 0 = R1 at *
  rw [M_isView_ok H1.2.2.2.2.1]
  cases hx : vAt V x with
  | none =>
    refine ⟨R1, -2, A, rfl, H1, ?_⟩
    unfold srchR
    rw [hx]
    exact ⟨rfl, rfl⟩
  | some i =>
    obtain ⟨hi, rfl, ho⟩ := vAt_ok hx
    simp only [Option.isSome_some, Option.bind_some, if_true]
    obtain ⟨a1, a2, a3⟩ := rQ0_env H1 hn
    have hq0 : pI (pI (pI R1 44 (nI n)) 43 0) 45 (-1) = rQ0 R1 n := rfl
    rw [hq0]
    have hQ := M_readQuery_ok (ev := evA D (V i)) a1 a2
    generalize rQ0 R1 n = R6 at *
    cases hq : qParse st sp tp n (evA D (V i)) with
    | inl p =>
      rw [hq] at hQ
      obtain ⟨R', r1, r2, r3, r4⟩ := hQ
      rw [r1]
      simp only [Option.bind_some]
      rw [r2, if_neg (nI_ne_m1 (by omega))]
      have r2' : (pI R' 30 (R1.1 0 30)).1 0 45 = nI p := by
        simp (disch := omega) only [pI, pL, pB, up2_s, up2_ne]
        exact r2
      have k : Rp (fun t c j => wScr t c j ∨ (t = 0 ∧ c = 0 ∧ j = 30)) R1 (pI R' 30 (R1.1 0 30)) := by
        refine Rp.tr (W' := fun t c j => wScr t c j ∨ (t = 0 ∧ c = 0 ∧ j = 30)) (R' := R') ?_ (Rp.pI (.inr ⟨rfl, rfl, rfl⟩)) (fun _ _ _ z => z)
        exact Rp.tr (W' := wQr 0) (a3.mono (fun _ _ _ z => .inl z)) r4 (fun t c j z => by unfold wQr at z; unfold wScr; omega)
      have k' := Rp_back k (by simp (disch := omega) only [pI, pL, pB, up2_s, up2_ne])
      refine ⟨_, _, A, rfl, H1.scr k', srchR_l hx hq (by rw [r2']) rfl⟩
    | inr Yf =>
      obtain ⟨Y, f⟩ := Yf
      rw [hq] at hQ
      obtain ⟨R', r1, r2, r3, r4, r5, r6, l1, l2, l3, l4⟩ := hQ
      rw [r1]
      simp only [Option.bind_some]
      rw [if_pos r2.2.2.2.2.2]
      have hmk := parse_marks hb hn hq
      have hok := parse_okPs hb hn hq
      have hmem : ∀ k, k < Y.2.2.2.length → mgA Y.2.2.2 k ∈ Y.2.2.2 := fun k hk => by
        unfold mgA
        rw [List.getD_eq_getElem?_getD, List.getElem?_eq_getElem hk]
        exact List.getElem_mem _
      obtain ⟨z, z1, z2, z3⟩ := mk_copy (x1 := nI i) r5 r4 l4 l3 (fun k hk => (hmk.1 _ (hmem k hk)).2.2)
      rw [z1]
      simp only [Option.bind_some]
      have hM : rMarks z Y.1 := mk_marks (by rw [z2.I (by decide) (by unfold wMc; omega)]; exact r5.1) l4 hmk (fun k hk => by
        refine (hok.2.2 (qwA Y.2.2.1 k) ?_).1
        unfold qwA
        rw [List.getD_eq_getElem?_getD, List.getElem?_eq_getElem hk]
        exact List.getElem_mem _) z3
      have kz : Rp wMs R1 z := by
        refine Rp.tr (W' := wMc) ?_ z2 (fun t c j y => by unfold wMc at y; unfold wMs; omega)
        exact Rp.tr (W' := wQr 0) (a3.mono (fun t c j y => by unfold wScr at y; unfold wMs; omega)) r6 (fun t c j y => by unfold wQr at y; unfold wMs; omega)
      let W3 : Nat → Nat → Nat → Prop := fun t c j => t = 0 ∧ c = 0 ∧ (j = 63 ∨ j = 27 ∨ j = 26)
      have k3 : Rp W3 z (pI (pI (pI z 63 (nI i)) 27 (nI i)) 26 0) := Rp.tr (W' := W3) (R' := pI (pI z 63 (nI i)) 27 (nI i)) (Rp.tr (W' := W3) (R' := pI z 63 (nI i)) (Rp.pI ⟨rfl, rfl, .inl rfl⟩) (Rp.pI ⟨rfl, rfl, .inr (.inl rfl)⟩) (fun _ _ _ y => y)) (Rp.pI ⟨rfl, rfl, .inr (.inr rfl)⟩) (fun _ _ _ y => y)
      have i63 : (pI (pI (pI z 63 (nI i)) 27 (nI i)) 26 0).1 0 63 = nI i := by simp (disch := omega) only [pI, pL, pB, up2_s, up2_ne]
      have i27 : (pI (pI (pI z 63 (nI i)) 27 (nI i)) 26 0).1 0 27 = nI i := by simp (disch := omega) only [pI, pL, pB, up2_s, up2_ne]
      have i26 : (pI (pI (pI z 63 (nI i)) 27 (nI i)) 26 0).1 0 26 = nI 0 := by
        simp (disch := omega) only [pI, pL, pB, up2_s, up2_ne]
        rfl
      generalize pI (pI (pI z 63 (nI i)) 27 (nI i)) 26 0 = R28 at *
      have k28 : Rp wMs R1 R28 := Rp.tr (W' := W3) kz k3 (fun t c j y => by
        have y : t = 0 ∧ c = 0 ∧ (j = 63 ∨ j = 27 ∨ j = 26) := y
        unfold wMs; omega)
      have kQ : Rp (fun t c j => wMc t c j ∨ W3 t c j) R' R28 := Rp.tr (W' := W3) (z2.mono (fun _ _ _ y => .inl y)) k3 (fun _ _ _ y => .inr y)
      have nW : ∀ t c j, (wMc t c j ∨ W3 t c j) → t = 0 ∧ ((22 ≤ c ∧ c ≤ 25) ∨ (c = 0 ∧ (j = 63 ∨ j = 27 ∨ j = 26))) := fun t c j y => by
        rcases y with y | y
        · unfold wMc at y; omega
        · have y : t = 0 ∧ c = 0 ∧ (j = 63 ∨ j = 27 ∨ j = 26) := y
          omega
      obtain ⟨g1, g2, g3, g4, g5, g6, g7, g8, g9, g10⟩ := H1
      have H1 : rH R1 tp 0 D dl bs G V A nr mg st sp := ⟨g1, g2, g3, g4, g5, g6, g7, g8, g9, g10⟩
      have hE : sE R28 D dl i (V i) Y.2.1 Y.2.2.1 := by
        refine ⟨⟨g2.rp k28 (by unfold wMs; omega) (fun _ _ _ _ _ => by unfold wMs; omega), hDL, hT, hi, (g5 i hi).rp k28 (fun _ _ _ _ _ => by unfold wMs; omega), ho, hVd i hi ho, hVl i hi ho, i63⟩, r3.rp kQ (fun y => by have := nW _ _ _ y; omega) (fun c j y1 y2 y => by have := nW _ _ _ y; omega), r4.rp kQ (fun y => by have := nW _ _ _ y; omega) (fun c j y1 y2 y => by have := nW _ _ _ y; omega), l2, l3⟩
      obtain ⟨z', s1, s2, s3, u, s4, s5, s6, s7⟩ := M_search_loop hb hn hT hq hE i26
      rw [s1]
      simp only [Option.bind_some]
      have hLl := hitL_len (v := V i) (f := f) (vDocs (V i)).length
      generalize hL : hitL (V i) f (vDocs (V i)).length = L at s3 s4 s5 s6 s7 hLl
      have hul : ((List.range L.length).map u).length = L.length := by rw [List.length_map, List.length_range]
      have hug : ∀ k, k < L.length → ((List.range L.length).map u).getD k (0, 0) = u k := fun k hk => by
        rw [List.getD_eq_getElem?_getD, List.getElem?_map, List.getElem?_range hk]
        rfl
      have hA : rAns z' (nI i, (List.range L.length).map u, Y.1) := by
        refine ⟨?_, ?_, fun k hk => ?_, ?_⟩
        · rw [s2.I (by decide) (by unfold wHs wWk wIn; omega)]; exact i27
        · show _ = nI ((List.range L.length).map u).length
          rw [hul]; exact s3
        · have hk : k < L.length := by have : k < ((List.range L.length).map u).length := hk; omega
          show z'.1 20 k = nI (((List.range L.length).map u).getD k (0, 0)).1 ∧ z'.1 21 k = nI (((List.range L.length).map u).getD k (0, 0)).2
          rw [hug k hk]
          exact s4 k hk
        · refine (hM.rp k3 (fun y => ?_) (fun c j y1 y2 y => ?_)).rp s2 (by unfold wHs wWk wIn; omega) (fun c j y1 y2 y => by unfold wHs wWk wIn at y; omega)
          · have y : 0 = 0 ∧ 0 = 0 ∧ (30 = 63 ∨ 30 = 27 ∨ 30 = 26) := y
            omega
          · have y : 0 = 0 ∧ c = 0 ∧ (j = 63 ∨ j = 27 ∨ j = 26) := y
            omega
      refine ⟨z', _, (nI i, (List.range L.length).map u, Y.1), rfl, rH_ms H1 (Rp.tr (W' := wHs) k28 s2 (fun t c j y => by unfold wHs wWk wIn at y; unfold wMs; omega)) hA, srchR_r hx hq ⟨?_, rfl, rfl, ?_⟩⟩
      · rw [s3]
        show _ = nI ((List.range L.length).map u).length
        rw [hul]
      · rw [hL]
        exact srtOf_mk s5 s6 s7
