theorem srtOf_mk {D : List DocT} {L : List (Nat × Nat)} {u : Nat → Nat × Nat} (h1 : prm L.length u (fun k => L.getD k (0, 0))) (h2 : srt (fun k => hcode D (u k)) L.length) (h3 : ∀ k, k < L.length → okH D (u k)) : srtOf D L ((List.range L.length).map u) := by
  have hl : ((List.range L.length).map u).length = L.length := by rw [List.length_map, List.length_range]
  have eg : ∀ k, k < L.length → ((List.range L.length).map u).getD k (0, 0) = u k := fun k hk => by
    rw [List.getD_eq_getElem?_getD, List.getElem?_map, List.getElem?_range hk]
    rfl
  refine ⟨hl, fun c => ?_, fun i k a b => ?_, fun k hk => ?_⟩
  · rw [← h1 c]
    exact sN_congr _ (fun k hk => congrArg c (eg k hk))
  · show hcode D _ ≤ hcode D _
    rw [eg i (by omega), eg k b]
    exact h2 i k a b
  · rw [eg k hk]; exact h3 k hk
theorem srchR_l {D : List DocT} {V : Nat → VwT} {st sp : Bool} {tp : Nat → Nat} {n i p : Nat} {x r : Int32} {A A' : AnT} (hx : vAt V x = some i) (hq : qParse st sp tp n (evA D (V i)) = .inl p) (h1 : r = -10 - nI p) (h2 : A' = A) : srchR D V st sp tp n x A r A' := by
  unfold srchR
  rw [hx]
  simp only
  rw [hq]
  exact ⟨h1, h2⟩
theorem srchR_r {D : List DocT} {V : Nat → VwT} {st sp : Bool} {tp : Nat → Nat} {n i : Nat} {x r : Int32} {A A' : AnT} {Y : QSt} {f : Sem} (hx : vAt V x = some i) (hq : qParse st sp tp n (evA D (V i)) = .inr (Y, f)) (h : r = nI A'.2.1.length ∧ A'.1 = x ∧ A'.2.2 = Y.1 ∧ srtOf D (hitL (V i) f (vDocs (V i)).length) A'.2.1) : srchR D V st sp tp n x A r A' := by
  unfold srchR
  rw [hx]
  simp only
  rw [hq]
  exact h
theorem E_search_ok {e : Nat} {da : Nat → Nat} {σ : Mem} {tp : Nat → Nat} {n : Nat} {D : List DocT} {dl : Nat → Bool} {bs : Nat} {G : List SegT} {V : Nat → VwT} {A : AnT} {nr : Option (List Nat)} {mg : Nat} {st sp : Bool} (h : cH e da σ tp n D dl bs G V A nr mg st sp) (hT : okTx D) (hVd : okV D V) (x : Int32) (hw : ∀ (ev : AtX → Sem) p, qParse st sp tp n ev = .inl p → p < 1000) : ∃ σ' r A', E_search σ e x = some (r, σ') ∧ ke e σ σ' ∧ gN σ' ≤ gN σ + 1 ∧ gU σ' ≤ gU σ + 7 ∧ cH e da σ' tp 0 D dl bs G V A' nr mg st sp ∧ srchR D V st sp tp n x A r A' := by
  have t0 := iFix0 h.1
  have hn := h.2.1.1
  have hN := h.1.N
  obtain ⟨σ1, e1, k1, n1, u1, H1⟩ := cH_tp h
  have t01 := iFix0 H1.1
  have kk1 : ke e σ σ1 := ke.of k1 (fun t a k _ q => by omega)
  have tA1 := H1.1.tape H1.2.1
  have hb : ∀ i, i < 600 → tp i < 256 := fun i hi => (tA1.2.2 i hi).1
  unfold E_search
  rw [chk_ok t0]
  simp only [Option.bind_some]
  rw [e1]
  simp only [Option.bind_some]
  rw [chk_ok t01]
  simp only [Option.bind_some]
  rw [E_viewAt_ok H1.1 H1.2.2.2.2.2.1]
  cases hx : vAt V x with
  | none =>
    refine ⟨σ1, -2, A, rfl, kk1, by omega, by omega, H1, ?_⟩
    unfold srchR
    rw [hx]
    exact ⟨rfl, rfl⟩
  | some i =>
    obtain ⟨hi, rfl, ho⟩ := vAt_ok hx
    obtain ⟨hF1, hT1, hD1, hb1, hG1, hV1, hA1, hn1, hm1⟩ := H1
    have hN1 := hF1.N
    obtain ⟨a1, a2, a3, a4, aq, fq, a5⟩ := hA1
    have hA1 : cAns e da σ1 A := ⟨a1, a2, a3, a4, aq, fq, a5⟩
    have hA0 : cHa e da σ1 tp 0 D dl bs G V nr mg st sp := ⟨hF1, hT1, hD1, hb1, hG1, hV1, hn1, hm1⟩
    have haq := fq.1
    have hsq : 214 - aq = 25 ∨ 214 - aq = 189 := by omega
    simp only [Option.map_some, Option.bind_some, reduceCtorEq, if_false]
    -- the parser's cell
    have r1 : gR σ1 e 1 = some (e + 3) := hF1.2.1.2.1
    have r0 : gR σ1 e 0 = some (e + 1) := hF1.2.1.1
    obtain ⟨t3, t3'⟩ := iFix hF1 3 102 600 (by decide) rfl
    have hinit : ∃ m, ((ldR (nwO σ1 3) 11 1 (some e)).bind fun v7 => (ldR (nwO σ1 3) 11 0 (some e)).bind fun v8 => (ldR (nwO σ1 3) 11 13 (some e)).bind fun v9 => Ps_init (nwO σ1 3) (gN σ1) v7 (nI n) v8 v9) = some m ∧ Kp (fun _ a _ => gN σ1 ≤ a) σ1 m ∧ gN m = gN σ1 + 1 ∧ gU m = gU σ1 + 7 ∧ (gT m (gN σ1)).1 = 3 ∧ gR m (gN σ1) 0 = some (e + 3) ∧ gI m (gN σ1) 1 = nI n ∧ gR m (gN σ1) 2 = some (e + 1) ∧ gR m (gN σ1) 3 = some (e + (214 - aq)) ∧ gI m (gN σ1) 6 = nI 0 := by
      have k0 : Kp (fun _ a _ => gN σ1 ≤ a) σ1 (nwO σ1 3) := Kp.nw
      have na : gN (nwO σ1 3) = gN σ1 + 1 := gN_nw _ _ _
      have ua : gU (nwO σ1 3) = gU σ1 + 7 := gU_nw _ _ _
      have tn : (gT (nwO σ1 3) (gN σ1)).1 = 3 := by rw [nwO, gT_nw, if_pos rfl]
      have te : (gT (nwO σ1 3) e).1 = 11 := by rw [k0.T (by omega)]; exact t01
      have ti : gI (nwO σ1 3) (gN σ1) 6 = 0 := by rw [nwO, gI_nw, if_pos rfl]
      have q1 : gR (nwO σ1 3) e 1 = some (e + 3) := by rw [k0.R (by omega) (by omega)]; exact r1
      have q0 : gR (nwO σ1 3) e 0 = some (e + 1) := by rw [k0.R (by omega) (by omega)]; exact r0
      have q13 : gR (nwO σ1 3) e 13 = some (e + (214 - aq)) := by rw [k0.R (by omega) (by omega)]; exact fq.2.2
      have ta : gT (nwO σ1 3) (e + 3) = (102, 600) := by rw [k0.T (by omega)]; exact Prod.ext t3 t3'
      rw [ldR_ok te, q1]
      simp only [Option.bind_some]
      rw [ldR_ok te, q0]
      simp only [Option.bind_some]
      rw [ldR_ok te, q13]
      simp only [Option.bind_some]
      unfold Ps_init
      rw [stR_ok tn]
      simp only [Option.bind_some]
      rw [alen_ok (t := 2) (N := 600) (by rw [gT_sR]; exact ta)]
      simp only [Option.bind_some]
      rw [iMin (by omega) (by omega), Nat.min_eq_left hn]
      rw [stI_ok (by rw [gT_sR]; exact tn)]
      simp only [Option.bind_some]
      rw [stR_ok (by rw [gT_sI, gT_sR]; exact tn)]
      simp only [Option.bind_some]
      rw [stR_ok (by rw [gT_sR, gT_sI, gT_sR]; exact tn)]
      simp only [Option.bind_some]
      refine ⟨_, rfl, ?_, na, ua, tn, ?_, ?_, ?_, ?_, ?_⟩
      · exact k0.tr (W' := fun _ a _ => gN σ1 ≤ a) ((Kp.sR (W := fun _ a _ => gN σ1 ≤ a) (Nat.le_refl _)).tr (W' := fun _ a _ => gN σ1 ≤ a) ((Kp.sI (W := fun _ a _ => gN σ1 ≤ a) (Nat.le_refl _)).tr (W' := fun _ a _ => gN σ1 ≤ a) ((Kp.sR (W := fun _ a _ => gN σ1 ≤ a) (Nat.le_refl _)).tr (W' := fun _ a _ => gN σ1 ≤ a) (Kp.sR (W := fun _ a _ => gN σ1 ≤ a) (Nat.le_refl _)) (fun _ _ _ _ z => z)) (fun _ _ _ _ z => z)) (fun _ _ _ _ z => z)) (fun _ _ _ _ z => z)
      · rw [gR_sRn (by omega), gR_sRn (by omega), gR_sI, gR_sRs]
      · rw [gI_sR, gI_sR, gI_sIs]
      · rw [gR_sRn (by omega), gR_sRs]
      · rw [gR_sRs]
      · rw [gI_sR, gI_sR, gI_sIn (by omega), gI_sR, ti]
        rfl
    obtain ⟨m, im, ik, inn, iu, it, i0, i1, i2, i3, i6⟩ := hinit
    have kS : Kp (wSr e (gN σ1) (214 - aq)) σ1 m := ik.mono (fun t a k _ z => .inl z)
    have HM := cHa_kp hA0 hsq kS
    have tm := iFix0 HM.1
    have hE : cEnv e (gN σ1) (e + (214 - aq)) m tp n st sp := by
      obtain ⟨sp1, -⟩ := HM.1.sp
      refine ⟨hn, HM.1.tape HM.2.1, ?_, HM.1.q hsq, by omega, by omega, hN1, by omega, it, i0, i1, i2, i3⟩
      have hF := HM.1
      exact ⟨(iFix hF 1 7 0 (by decide) rfl).1, hF.2.2.1, hF.2.2.2.1, hF.2.1.2.2.2.2.2.2.2.2.1, (iFix hF 2 101 11 (by decide) rfl).1, (iFix hF 2 101 11 (by decide) rfl).2, fun i hi => hF.2.2.2.2.1 i hi⟩
    obtain ⟨z, p1, p2, p3⟩ := Ps_wrongPlace_ok (ev := evA D (V i)) hE i6
    have pz : gN z.2 = gN m ∧ gU z.2 = gU m := NA_Ps_wrongPlace (ν := (gN m, gU m)) (σ := m) (th := gN σ1) ⟨rfl, rfl⟩ z p1
    have kz : Kp (wSp e (gN σ1) (214 - aq)) σ1 z.2 := (ik.mono (W' := wSp e (gN σ1) (214 - aq)) (fun t a k _ y => .inl y)).tr p2 (fun t a k _ y => by unfold wPs wAd at y; unfold wSp; omega)
    have kzS : Kp (wSr e (gN σ1) (214 - aq)) σ1 z.2 := kz.mono (fun t a k _ y => by unfold wSp at y; unfold wSr; omega)
    have HZ := cHa_kp hA0 hsq kzS
    have hpre : ∀ (Fk : Mem → Option (Int32 × Mem)), ((ldR (nwO σ1 3) 11 1 (some e)).bind fun v7 => (ldR (nwO σ1 3) 11 0 (some e)).bind fun v8 => (ldR (nwO σ1 3) 11 13 (some e)).bind fun v9 => (Ps_init (nwO σ1 3) (gN σ1) v7 (nI n) v8 v9).bind Fk) = Fk m := fun Fk => by
      have := congrArg (fun o => o.bind Fk) im
      simp only [Option.bind_assoc, Option.bind_some] at this
      exact this
    rw [hpre]
    rw [chk_ok it]
    simp only [Option.bind_some]
    rw [p1]
    simp only [Option.bind_some]
    cases hq : qParse st sp tp n (evA D (V i)) with
    | inl p =>
      rw [hq] at p3
      have p3 : z.1 = nI p := p3
      have hp := hw _ p hq
      rw [if_neg (by rw [p3, show (0 : Int32) = nI 0 from rfl, iLt (by omega) (by omega)]; omega)]
      obtain ⟨c1, c2, c3, c4, c5, c6, c7, c8⟩ := HZ
      refine ⟨z.2, _, A, rfl, kk1.tr (ke.of kz (fun t a k ha y => by unfold wSp at y; omega)), by omega, by omega, ⟨c1, c2, c3, c4, c5, c6, cAns_sp hA1 fq hN1 kz, c7, c8⟩, srchR_l hx hq (by rw [p3]) rfl⟩
    | inr Yf =>
      obtain ⟨Y, f⟩ := Yf
      rw [hq] at p3
      obtain ⟨p4, p5⟩ : z.1 = -1 ∧ cQuery z.2 (e + (214 - aq)) Y.1 := p3
      rw [if_pos (by rw [p4]; decide)]
      obtain ⟨t24, -⟩ := iFix HZ.1 24 0 0 (by decide) rfl
      have tz := iFix0 HZ.1
      have z13 : gR z.2 e 13 = some (e + (214 - aq)) := by rw [kz.R (by omega) (by unfold wSp; omega)]; exact fq.2.2
      have z24 : gR z.2 (e + 24) 0 = some (e + aq) := by rw [kz.R (by omega) (by unfold wSp; omega)]; exact fq.2.1
      rw [ldR_ok tz, z13]
      simp only [Option.bind_some]
      rw [ldR_ok tz, HZ.1.an]
      simp only [Option.bind_some]
      rw [ldR_ok t24, z24]
      simp only [Option.bind_some]
      rw [stR_ok tz]
      simp only [Option.bind_some]
      have kc : Kp (fun t a k => t = 2 ∧ a = e ∧ k = 13) z.2 (sR z.2 e 13 (some (e + aq))) := Kp.sR ⟨rfl, rfl, rfl⟩
      have r17 : gR (sR z.2 e 13 (some (e + aq))) e 13 = some (e + aq) := gR_sRs _ _ _ _
      have n17 : gN (sR z.2 e 13 (some (e + aq))) = gN z.2 := rfl
      have u17 : gU (sR z.2 e 13 (some (e + aq))) = gU z.2 := rfl
      generalize sR z.2 e 13 (some (e + aq)) = m17 at *
      have k17 : Kp (wSr e (gN σ1) (214 - aq)) σ1 m17 := kzS.tr kc (fun t a k _ y => by unfold wSr; omega)
      have H17 := cHa_kp hA0 hsq k17
      have C17 : cQuery m17 (e + (214 - aq)) Y.1 := p5.kp kc (by omega) (fun t c k hc y => by omega)
      rw [chk_ok (H17.1.q hsq).1]
      simp only [Option.bind_some]
      have ok := parse_okPs hb hn hq
      obtain ⟨m19, w1, w2, w3⟩ := Qu_weigh_ok H17.1 (H17.2.2.2.2.2.1 i hi) hi ho hsq C17 ok.1
      have wz : gN m19 = gN m17 ∧ gU m19 = gU m17 := NA_Qu_weigh (ν := (gN m17, gU m17)) (σ := m17) ⟨rfl, rfl⟩ m19 w1
      rw [w1]
      simp only [Option.bind_some]
      have k19 : Kp (wSr e (gN σ1) (214 - aq)) σ1 m19 := k17.tr w2 (fun t a k _ y => by unfold wWg at y; unfold wSr; omega)
      have H19 := cHa_kp hA0 hsq k19
      have t19 := iFix0 H19.1
      obtain ⟨t24b, -⟩ := iFix H19.1 24 0 0 (by decide) rfl
      rw [ldR_ok t19, H19.1.an]
      simp only [Option.bind_some]
      rw [chk_ok t24b]
      simp only [Option.bind_some]
      have hbeg : An_begin m19 (e + 24) (nI i) (some (e + (214 - aq))) = some (sI (sR (sI m19 (e + 24) 1 (nI i)) (e + 24) 0 (some (e + (214 - aq)))) (e + 24) 4 0) := by
        unfold An_begin
        simp (disch := first | assumption | omega | (simp only [gT_sI, gT_sL, gT_sR, gT_sB]; first | assumption | omega)) only [Option.bind_some, ldI_ok, ldL_ok, ldR_ok, ldB_ok, stI_ok, stL_ok, stR_ok, stB_ok, chk_ok, raI_k, raL_k, raR_k, raB_k, waI_k, waL_k, waB_k, waR_k, alen_k, gT_sI, gT_sL, gT_sR, gT_sB, gN_sI, gN_sL, gN_sR, gN_sB, gI_sL, gI_sR, gI_sB, gL_sI, gL_sR, gL_sB, gR_sI, gR_sL, gR_sB, gB_sI, gB_sL, gB_sR, gI_sIs, gL_sLs, gR_sRs, gB_sBs, gI_sIn, gL_sLn, gR_sRn, gB_sBn, rdI_ok, rdL_ok, rdB_ok, wrI_ok, wrL_ok, wrB_ok]
      rw [hbeg]
      simp only [Option.bind_some]
      have k4 : Kp (fun t a k => (t = 0 ∧ a = e + 24 ∧ (k = 1 ∨ k = 4)) ∨ (t = 2 ∧ a = e + 24 ∧ k = 0)) m19 (sI (sR (sI m19 (e + 24) 1 (nI i)) (e + 24) 0 (some (e + (214 - aq)))) (e + 24) 4 0) := by
        let W : Nat → Nat → Nat → Prop := fun t a k => (t = 0 ∧ a = e + 24 ∧ (k = 1 ∨ k = 4)) ∨ (t = 2 ∧ a = e + 24 ∧ k = 0)
        show Kp W m19 _
        exact (Kp.sI (W := W) (.inl ⟨rfl, rfl, .inl rfl⟩)).tr (W' := W) ((Kp.sR (W := W) (.inr ⟨rfl, rfl, rfl⟩)).tr (W' := W) (Kp.sI (W := W) (.inl ⟨rfl, rfl, .inr rfl⟩)) (fun _ _ _ _ y => y)) (fun _ _ _ _ y => y)
      have n4 : gN (sI (sR (sI m19 (e + 24) 1 (nI i)) (e + 24) 0 (some (e + (214 - aq)))) (e + 24) 4 0) = gN m19 := rfl
      have u4 : gU (sI (sR (sI m19 (e + 24) 1 (nI i)) (e + 24) 0 (some (e + (214 - aq)))) (e + 24) 4 0) = gU m19 := rfl
      have h41 : gI (sI (sR (sI m19 (e + 24) 1 (nI i)) (e + 24) 0 (some (e + (214 - aq)))) (e + 24) 4 0) (e + 24) 1 = nI i := by rw [gI_sIn (by omega), gI_sR, gI_sIs]
      have h44 : gI (sI (sR (sI m19 (e + 24) 1 (nI i)) (e + 24) 0 (some (e + (214 - aq)))) (e + 24) 4 0) (e + 24) 4 = nI 0 := gI_sIs _ _ _ _
      have h40 : gR (sI (sR (sI m19 (e + 24) 1 (nI i)) (e + 24) 0 (some (e + (214 - aq)))) (e + 24) 4 0) (e + 24) 0 = some (e + (214 - aq)) := by rw [gR_sI, gR_sRs]
      generalize sI (sR (sI m19 (e + 24) 1 (nI i)) (e + 24) 0 (some (e + (214 - aq)))) (e + 24) 4 0 = σ4 at *
      have K4 : Kp (wSr e (gN σ1) (214 - aq)) σ1 σ4 := k19.tr k4 (fun t a k _ y => by unfold wSr; omega)
      have H4 := cHa_kp hA0 hsq K4
      have C19 : cQuery m19 (e + (214 - aq)) Y.1 := cQuery_wg C17 w2 (by omega)
      have hpl := C19.2.1
      have hS : cSc σ4 (e + (214 - aq)) D (V i) Y.1 := by
        refine ⟨H4.1.q hsq, C19.kp k4 (by omega) (fun t c k hc y => by omega), ok.1, parse_inc hb hn hq, fun j hj y1 g y2 y3 => ?_⟩
        rw [k4.I (by omega) (by omega)]
        exact w3 j hj y1 g y2 y3
      obtain ⟨τ, l1, l2, l3, l4, l5, l6⟩ := E_search_loop hA0 hsq rfl K4 hi ho hb hn hT hVd hq hS h44
      rw [l1]
      simp only [Option.bind_some]
      have Kt := K4.tr l2 (fun t a k _ y => wLp_Sr t a k y)
      have Ht := cHa_kp hA0 hsq Kt
      have tt := iFix0 Ht.1
      obtain ⟨t24c, -⟩ := iFix Ht.1 24 0 0 (by decide) rfl
      have r2 : gR τ (e + 24) 2 = some (e + 187) := Ht.1.2.1.2.2.2.2.2.2.2.2.2.2.1
      have r3 : gR τ (e + 24) 3 = some (e + 188) := Ht.1.2.1.2.2.2.2.2.2.2.2.2.2.2.1
      rw [ldR_ok tt, Ht.1.an]
      simp only [Option.bind_some]
      rw [chk_ok t24c]
      simp only [Option.bind_some]
      have hD4 : D.length ≤ 400 := hD1.2.1
      have hle : (vDocs (V i)).length ≤ 400 := ((Ht.2.2.2.2.2.1 i hi).2 ho).2.2.2.2.1
      have hLl := hitL_len (v := V i) (f := f) (vDocs (V i)).length
      have hLo : ∀ y, y ∈ hitL (V i) f (vDocs (V i)).length → okH D y := hitL_ok (hVd i hi ho) hD4 (fun d w hd hf => (Qu_score_ok hb hn hT hd hq hS (H4.2.2.1.2.2 d hd).2.1).2 w hf) _ (Nat.le_refl _)
      have hLk : ∀ k, k < (hitL (V i) f (vDocs (V i)).length).length → okH D ((hitL (V i) f (vDocs (V i)).length).getD k (0, 0)) := fun k hk => by
        refine hLo _ ?_
        rw [List.getD_eq_getElem?_getD, List.getElem?_eq_getElem hk]
        exact List.getElem_mem _
      generalize hL : hitL (V i) f (vDocs (V i)).length = L at hLl hLo hLk l5 l6
      have hAE : anE e da τ D L.length := by
        refine ⟨t24c, r2, r3, l5, (iFix Ht.1 187 104 400 (by decide) rfl).1, (iFix Ht.1 187 104 400 (by decide) rfl).2, (iFix Ht.1 188 100 400 (by decide) rfl).1, (iFix Ht.1 188 100 400 (by decide) rfl).2, by omega, Ht.1.N, hD4, fun d hd => ?_⟩
        have := (Ht.2.2.1.2.2 d hd).2.1
        exact ⟨this.1.t, this.2.1, this.2.2.2.2.1, this.1.1, this.1.2.1⟩
      obtain ⟨σ', u, s1, s2, s3, s4, s5, s6, s7, s8⟩ := An_sort_ok (w := fun k => L.getD k (0, 0)) (cd := hcode D) (fun τ i x y a b c d f => An_isBefore_ok a b c d f) hAE l6 hLk
      rw [s1]
      simp only [Option.bind_some]
      have Ks : Kp (wSr e (gN σ1) (214 - aq)) σ1 σ' := Kt.tr s2 (fun t a k _ y => wLp_Sr t a k (.inr y))
      have Hs := cHa_kp hA0 hsq Ks
      have ts := iFix0 Hs.1
      obtain ⟨t24d, -⟩ := iFix Hs.1 24 0 0 (by decide) rfl
      rw [ldR_ok ts, Hs.1.an]
      simp only [Option.bind_some]
      rw [ldI_ok t24d]
      simp only [Option.bind_some]
      have h5 := Kt.n
      have g4 : gI σ' (e + 24) 4 = nI L.length := by rw [s2.I (by omega) (by unfold wAn; omega)]; exact l5
      have g1 : gI σ' (e + 24) 1 = nI i := by rw [s2.I (by omega) (by unfold wAn; omega), l2.I (by omega) (by unfold wLp wAn; omega)]; exact h41
      have g0 : gR σ' (e + 24) 0 = some (e + (214 - aq)) := by rw [s2.R (by omega) (by unfold wAn; omega), l2.R (by omega) (by unfold wLp wAn; omega)]; exact h40
      have n19 := k19.n
      have g13 : gR σ' e 13 = some (e + aq) := by rw [s2.R (by omega) (by unfold wAn; omega), l2.R (by omega) (by unfold wLp wAn; omega), k4.R (by omega) (by omega), w2.R (by omega) (by unfold wWg; omega)]; exact r17
      have hul : ((List.range L.length).map u).length = L.length := by rw [List.length_map, List.length_range]
      have hug : ∀ k, k < L.length → ((List.range L.length).map u).getD k (0, 0) = u k := fun k hk => by
        rw [List.getD_eq_getElem?_getD, List.getElem?_map, List.getElem?_range hk]
        rfl
      obtain ⟨c1, c2, c3, c4, c5, c6, c7, c8⟩ := Hs
      have hAns : cAns e da σ' (nI i, (List.range L.length).map u, Y.1) := by
        refine ⟨g1, by show _ = nI ((List.range L.length).map u).length; rw [hul]; exact g4, by show ((List.range L.length).map u).length ≤ 400; rw [hul]; omega, fun k hk => ?_, 214 - aq, ⟨hsq, g0, by rw [show 214 - (214 - aq) = aq by omega]; exact g13⟩, ?_⟩
        · have hk : k < L.length := by have : k < ((List.range L.length).map u).length := hk; omega
          show gR σ' (e + 187) k = some (da (((List.range L.length).map u).getD k (0, 0)).1) ∧ gI σ' (e + 188) k = nI (((List.range L.length).map u).getD k (0, 0)).2
          rw [hug k hk]
          exact s5 k hk
        · exact (hS.2.1.kp l2 (by omega) (fun t c k hc y => by unfold wLp wAn at y; omega)).kp s2 (by omega) (fun t c k hc y => by unfold wAn at y; omega)
      refine ⟨σ', _, (nI i, (List.range L.length).map u, Y.1), rfl, kk1.tr (ke.of Ks (fun t a k ha y => by unfold wSr at y; omega)), by omega, by omega, ⟨c1, c2, c3, c4, c5, c6, hAns, c7, c8⟩, ?_⟩
      refine srchR_r hx hq ⟨by rw [g4]; show _ = nI ((List.range L.length).map u).length; rw [hul], rfl, rfl, ?_⟩
      rw [hL]
      exact srtOf_mk s6 s7 s8
