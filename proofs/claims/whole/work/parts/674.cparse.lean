/-! the class's parser: a part, an ANY, the query -/
theorem wNp_wPs {ps q j : Nat} (hj : j < 40) : ∀ t a k, wNp q (q + (2 + 4 * j)) t a k → wPs ps q t a k := fun t a k z => .inr (by unfold wNp wPt at z; omega)
theorem wPt_wPs {ps q j : Nat} (hj : j < 40) : ∀ t a k, wPt (q + (2 + 4 * j)) t a k → wPs ps q t a k := fun t a k z => .inr (by unfold wPt at z; omega)
theorem Ps_readPart_ok {rec : Mem → Nat → Int32 → Bool → Option (Bool × Mem)} {e ps q n d kk i : Nat} {tp : Nat → Nat} {st sp br sa : Bool} {ev : AtX → Sem} {nest : Bool → Bool → Nat → QSt → QLo → QRes} {X : QSt} {σ : Mem} (hrec : d < 8 → recOK rec e ps q tp n st sp nest (d + 1) kk) (hn : ∀ br sa i X L i' Y Q, nest br sa i X L = .inr (i', Y, Q) → qExt X.1 Y.1) (hd : d ≤ 8) (h : cEnv e ps q σ tp n st sp) (hc : cPc ps σ tp n i) (hK : 41 ≤ X.1.length + 1 + kk) (hQ : cQuery σ q X.1) : ∃ z, Ps_readPart rec σ ps (nI d) br sa = some z ∧ pRes e ps q σ tp n st sp (qPt st sp tp n ev nest d br sa i X) z := by
  obtain ⟨t0, r0, i1, r2, r3, hps, hlt, hnn⟩ := h.ps
  have hqe : q + 162 ≤ e + 401 := h.2.2.2.2.2.1
  have hqI := h.2.2.2.1
  have tq := hqI.1
  have q1 := hQ.1
  have q2 := hQ.2.1
  unfold Ps_readPart qPt
  simp (disch := first | assumption | omega | (simp only [gT_sI, gT_sL, gT_sR, gT_sB]; first | assumption | omega)) only [Option.bind_some, ldI_ok, ldL_ok, ldR_ok, ldB_ok, stI_ok, stL_ok, stR_ok, stB_ok, chk_ok, raI_k, raL_k, raR_k, raB_k, waI_k, waL_k, waB_k, waR_k, alen_k, gT_sI, gT_sL, gT_sR, gT_sB, gN_sI, gN_sL, gN_sR, gN_sB, gI_sL, gI_sR, gI_sB, gL_sI, gL_sR, gL_sB, gR_sI, gR_sL, gR_sB, gB_sI, gB_sL, gB_sR, gI_sIs, gL_sLs, gR_sRs, gB_sBs, gI_sIn, gL_sLn, gR_sRn, gB_sBn, rdI_ok, rdL_ok, rdB_ok, wrI_ok, wrL_ok, wrB_ok, r3]
  by_cases c40 : 40 ≤ X.1.length
  · rw [if_pos c40, Qu_nextPart_no hqI c40 (by omega) q1]
    exact ⟨_, rfl, Kp.rf, rfl, hc.2.2.1⟩
  · rw [if_neg c40]
    have hX : X.1.length < 40 := by omega
    obtain ⟨σ1, f1, g1, x1, n1⟩ := Qu_nextPart_ok hqI hX q1
    rw [f1]
    have G1 := g1.n
    have h1 := h.kp g1 (wNp_wPs hX)
    have tp1 := (h1.pt hX).2.1
    have c1 : cPc ps σ1 tp n i := hc.kp g1 hlt (fun k z => by unfold wNp wPt at z; omega)
    have t1 := h1.ps.1
    have ht1 : ∀ c, (gT (sB (sB (sB σ1 (q + (2 + 4 * X.1.length)) 4 sa) (q + (2 + 4 * X.1.length)) 2 (decide (pK tp n i = 45))) (q + (2 + 4 * X.1.length)) 3 c) (q + (2 + 4 * X.1.length))).1 = 4 := fun c => by simp only [gT_sB]; exact tp1
    have e45 : (if ¬ nI (pK tp n i) = 45 then some false else some true) = some (decide (pK tp n i = 45)) := by
      rw [show (45 : Int32) = nI 45 from rfl]
      simp only [kEq (h.k hc.1) (show 45 < 300 by decide)]
      by_cases c : pK tp n i = 45
      · rw [if_neg (fun z => z c), decide_eq_true c]
      · rw [if_pos c, decide_eq_false c]
    have gm : Kp (wNp q (q + (2 + 4 * X.1.length))) σ (sB (sB (sB σ1 (q + (2 + 4 * X.1.length)) 4 sa) (q + (2 + 4 * X.1.length)) 2 (decide (pK tp n i = 45))) (q + (2 + 4 * X.1.length)) 3 (br || decide (pK tp n i = 45))) := ((g1.b (.inr ⟨by decide, Nat.le_refl _, by omega⟩)).b (.inr ⟨by decide, Nat.le_refl _, by omega⟩)).b (.inr ⟨by decide, Nat.le_refl _, by omega⟩)
    have xm := cPart.fl (decide (pK tp n i = 45)) (br || decide (pK tp n i = 45)) sa x1
    have qm := cQuery_app hQ hX gm (by omega) xm (by rw [gI_sB, gI_sB, gI_sB]; exact n1)
    have hm := h.kp gm (wNp_wPs hX)
    have cm := hc.kp gm hlt (fun k z => by unfold wNp wPt at z; omega)
    generalize hpp : q + (2 + 4 * X.1.length) = p at *
    simp only [Option.bind_some, reduceCtorEq, if_false]
    rw [stB_ok tp1]
    simp only [Option.bind_some]
    rw [ldI_ok (show (gT (sB σ1 p 4 sa) ps).1 = 3 by rw [gT_sB]; exact t1), gI_sB, c1.2.1]
    simp only [Option.bind_some]
    rw [e45]
    simp only [Option.bind_some]
    rw [stB_ok (show (gT (sB σ1 p 4 sa) p).1 = 4 by rw [gT_sB]; exact tp1)]
    simp only [Option.bind_some]
    have e10 : (if br = true then some true else (ldB (sB (sB σ1 p 4 sa) p 2 (decide (pK tp n i = 45))) 4 2 (some p)).bind fun v12 => if v12 = true then some true else some false) = some (br || decide (pK tp n i = 45)) := by
      rw [ldB_ok (by simp only [gT_sB]; exact tp1), gB_sBs]
      cases br
      · simp only [Bool.false_eq_true, if_false, Option.bind_some, Bool.false_or]
        cases decide (pK tp n i = 45) <;> rfl
      · rfl
    rw [e10]
    simp only [Option.bind_some]
    rw [stB_ok (by simp only [gT_sB]; exact tp1)]
    simp only [Option.bind_some]
    rw [ldB_ok (ht1 _), gB_sBn (by omega), gB_sBs]
    simp only [Option.bind_some]
    generalize hmm : sB (sB (sB σ1 p 4 sa) p 2 (decide (pK tp n i = 45))) p 3 (br || decide (pK tp n i = 45)) = m at *
    have tm := hm.ps.1
    obtain ⟨m2, f2, g2, c2, h2, q2'⟩ : ∃ m2, (if decide (pK tp n i = 45) = true then (chk m 3 (some ps)).bind fun a18 => (Ps_advance m a18).bind fun v19 => some v19 else some m) = some m2 ∧ Kp (wAd ps) m m2 ∧ cPc ps m2 tp n (if pK tp n i = 45 then pE tp n i else i) ∧ cEnv e ps q m2 tp n st sp ∧ cQuery m2 q (X.1 ++ [grP (decide (pK tp n i = 45)) (br || decide (pK tp n i = 45)) sa 1 0]) := by
      by_cases c : pK tp n i = 45
      · rw [if_pos (decide_eq_true c), if_pos c, chk_ok tm]
        obtain ⟨m2, f2, g2, c2, h2⟩ := adv hm cm
        refine ⟨m2, ?_, g2, c2, h2, cQuery.ad hm qm g2⟩
        simp only [Option.bind_some, f2]
      · rw [if_neg (fun z => c (of_decide_eq_true z)), if_neg c]
        exact ⟨m, rfl, Kp.rf, cm, hm, qm⟩
    rw [f2]
    have t2 := h2.ps.1
    simp only [Option.bind_some]
    rw [chk_ok t2]
    simp only [Option.bind_some]
    obtain ⟨z, e1, e2, e3⟩ := Ps_head (ev := ev) hrec hd h2 c2 hX hK q2'
    rw [hpp] at e1
    rw [e1]
    simp only [Option.bind_some]
    have Gz : Kp (wPs ps q) σ z.2 := (gm.mono (W' := wPs ps q) (fun t a k _ y => by have := wNp_wPs (ps := ps) (q := q) hX t a k; rw [hpp] at this; exact this y)).tr g2 (fun t a k _ y => .inl y) |>.tr e2 (fun _ _ _ _ y => y)
    cases hr : qHd st sp tp n ev nest d br sa (decide (pK tp n i = 45)) (if pK tp n i = 45 then pE tp n i else i) X with
    | inl pl =>
      rw [hr] at e3
      obtain ⟨e4, e5⟩ := e3
      rw [e4]
      exact ⟨_, rfl, Gz, rfl, e5⟩
    | inr r =>
      obtain ⟨i2, Y, f⟩ := r
      rw [hr] at e3
      obtain ⟨e4, h3, c3, q3⟩ := e3
      obtain ⟨-, y2, y3⟩ := qHd_ext hn hr
      have t3 := h3.ps.1
      have r33 := h3.ps.2.2.2.2.1
      have hl3 := h3.ps.2.2.2.2.2.2.1
      have tp3 := (h3.pt hX).2.1
      rw [hpp] at tp3
      have hYl := q3.2.1
      have x3 := q3.2.2 _ y2
      rw [hpp] at x3
      have tq3 := h3.2.2.2.1.1
      simp only [e4, if_true]
      simp (disch := first | assumption | omega | (simp only [gT_sI, gT_sL, gT_sR, gT_sB]; first | assumption | omega)) only [Option.bind_some, ldI_ok, ldL_ok, ldR_ok, ldB_ok, stI_ok, stL_ok, stR_ok, stB_ok, chk_ok, raI_k, raL_k, raR_k, raB_k, waI_k, waL_k, waB_k, waR_k, alen_k, gT_sI, gT_sL, gT_sR, gT_sB, gN_sI, gN_sL, gN_sR, gN_sB, gI_sL, gI_sR, gI_sB, gL_sI, gL_sR, gL_sB, gR_sI, gR_sL, gR_sB, gB_sI, gB_sL, gB_sR, gI_sIs, gL_sLs, gR_sRs, gB_sBs, gI_sIn, gL_sLn, gR_sRn, gB_sBn, rdI_ok, rdL_ok, rdB_ok, wrI_ok, wrL_ok, wrB_ok, c3.2.1]
      rw [show (94 : Int32) = nI 94 from rfl]
      simp only [kEq (h3.k c3.1) (show 94 < 300 by decide)]
      unfold qBoost
      by_cases c94 : pK tp n i2 = 94
      · rw [if_neg (fun z => z c94), if_pos c94]
        obtain ⟨m4, f4, g4, c4, h4⟩ := adv h3 c3
        have t4 := h4.ps.1
        have tp4 := (h4.pt hX).2.1
        rw [hpp] at tp4
        have q4 := cQuery.ad h3 q3 g4
        have x4 := q4.2.2 _ y2
        rw [hpp] at x4
        have hl4 := h4.ps.2.2.2.2.2.2.1
        have G4 := Gz.tr g4 (fun t a k _ y => .inl y)
        simp (disch := first | assumption | omega | (simp only [gT_sI, gT_sL, gT_sR, gT_sB]; first | assumption | omega)) only [Option.bind_some, ldI_ok, ldL_ok, ldR_ok, ldB_ok, stI_ok, stL_ok, stR_ok, stB_ok, chk_ok, raI_k, raL_k, raR_k, raB_k, waI_k, waL_k, waB_k, waR_k, alen_k, gT_sI, gT_sL, gT_sR, gT_sB, gN_sI, gN_sL, gN_sR, gN_sB, gI_sL, gI_sR, gI_sB, gL_sI, gL_sR, gL_sB, gR_sI, gR_sL, gR_sB, gB_sI, gB_sL, gB_sR, gI_sIs, gL_sLs, gR_sRs, gB_sBs, gI_sIn, gL_sLn, gR_sRn, gB_sBn, rdI_ok, rdL_ok, rdB_ok, wrI_ok, wrL_ok, wrB_ok, f4]
        rw [show (1 : Int32) = nI 1 from rfl, Ps_number_ok h4 c4 (by decide)]
        simp (disch := first | assumption | omega | (simp only [gT_sI, gT_sL, gT_sR, gT_sB]; first | assumption | omega)) only [Option.bind_some, ldI_ok, ldL_ok, ldR_ok, ldB_ok, stI_ok, stL_ok, stR_ok, stB_ok, chk_ok, raI_k, raL_k, raR_k, raB_k, waI_k, waL_k, waB_k, waR_k, alen_k, gT_sI, gT_sL, gT_sR, gT_sB, gN_sI, gN_sL, gN_sR, gN_sB, gI_sL, gI_sR, gI_sB, gL_sI, gL_sR, gL_sB, gR_sI, gR_sL, gR_sB, gB_sI, gB_sL, gB_sR, gI_sIs, gL_sLs, gR_sRs, gB_sBs, gI_sIn, gL_sLn, gR_sRn, gB_sBn, rdI_ok, rdL_ok, rdB_ok, wrI_ok, wrL_ok, wrB_ok]
        have g5 : ∀ v, Kp (wPI p) m4 (sI m4 p 5 v) := fun v => Kp.sI ⟨rfl, rfl⟩
        have h5 := fun v => h4.kp (g5 v) (wPI_wPs hX hpp.symm)
        have c5 := fun v => c4.kp (g5 v) hl4 (fun k z => by unfold wPI at z; omega)
        have G5 : ∀ v, Kp (wPs ps q) σ (sI m4 p 5 v) := fun v => G4.tr (g5 v) (fun t a k _ y => wPI_wPs hX hpp.symm t a k y)
        cases hq : qNum tp n 1 (pE tp n i2) with
        | none =>
          rw [if_neg (show ¬ nI 1 ≤ numA none by decide)]
          exact ⟨_, rfl, G5 _, rfl, (c5 _).2.2.1⟩
        | some v =>
          have hv : v < 10 ^ 1 := qNum_lt hq
          simp only [numA_s, iLe (show 1 < 2147483648 by decide) (show v < 2147483648 by omega)]
          by_cases c0 : v = 0
          · rw [if_neg (by omega), if_pos c0]
            exact ⟨_, rfl, G5 _, rfl, (c5 _).2.2.1⟩
          · rw [if_pos (by omega), if_neg c0]
            have x5 := x4.k5 v
            have q5 := cQuery_set q4 y2 (by rw [hpp]; exact (g5 (nI v)).mono (fun t a k _ z => by unfold wPI at z; unfold wPt; omega)) (by omega) (by rw [hpp]; exact x5)
            obtain ⟨m6, f6, g6, c6, h6⟩ := adv (h5 (nI v)) (c5 (nI v))
            have q6 := cQuery.ad (h5 (nI v)) q5 g6
            have t6 := h6.ps.1
            have tq6 := h6.2.2.2.1.1
            have tp6 := (h6.pt hX).2.1
            rw [hpp] at tp6
            have hl6 := h6.ps.2.2.2.2.2.2.1
            simp only [Option.bind_some, f6, jn_r]
            have x6 := q6.2.2 X.1.length (by rw [List.length_set]; exact y2)
            rw [hpp, getD_setS y2] at x6
            have n6 := q6.1
            rw [List.length_set] at n6
            simp (disch := first | assumption | omega | (simp only [gT_sI, gT_sL, gT_sR, gT_sB]; first | assumption | omega)) only [Option.bind_some, ldI_ok, ldL_ok, ldR_ok, ldB_ok, stI_ok, stL_ok, stR_ok, stB_ok, chk_ok, raI_k, raL_k, raR_k, raB_k, waI_k, waL_k, waB_k, waR_k, alen_k, gT_sI, gT_sL, gT_sR, gT_sB, gN_sI, gN_sL, gN_sR, gN_sB, gI_sL, gI_sR, gI_sB, gL_sI, gL_sR, gL_sB, gR_sI, gR_sL, gR_sB, gB_sI, gB_sL, gB_sR, gI_sIs, gL_sLs, gR_sRs, gB_sBs, gI_sIn, gL_sLn, gR_sRn, gB_sBn, rdI_ok, rdL_ok, rdB_ok, wrI_ok, wrL_ok, wrB_ok, h6.ps.2.2.2.2.1, n6]
            have g7 : Kp (wPI p) m6 (sI m6 p 6 (nI Y.1.length)) := Kp.sI ⟨rfl, rfl⟩
            have x7 := x6.be v Y.1.length x6.2.2.2.2.2.1
            have q7 := cQuery_set (j := X.1.length) q6 (by rw [List.length_set]; exact y2) (by rw [hpp]; exact g7.mono (fun t a k _ z => by unfold wPI at z; unfold wPt; omega)) (by omega) (by rw [hpp]; exact x7)
            rw [List.set_set] at q7
            exact ⟨_, rfl, ((G5 (nI v)).tr g6 (fun t a k _ y => .inl y)).tr g7 (fun t a k _ y => wPI_wPs hX hpp.symm t a k y), rfl, h6.kp g7 (wPI_wPs hX hpp.symm), c6.kp g7 hl6 (fun k z => by unfold wPI at z; omega), q7⟩
      · rw [if_pos c94, if_neg c94]
        simp only [jn_r]
        have n3 := q3.1
        simp (disch := first | assumption | omega | (simp only [gT_sI, gT_sL, gT_sR, gT_sB]; first | assumption | omega)) only [Option.bind_some, ldI_ok, ldL_ok, ldR_ok, ldB_ok, stI_ok, stL_ok, stR_ok, stB_ok, chk_ok, raI_k, raL_k, raR_k, raB_k, waI_k, waL_k, waB_k, waR_k, alen_k, gT_sI, gT_sL, gT_sR, gT_sB, gN_sI, gN_sL, gN_sR, gN_sB, gI_sL, gI_sR, gI_sB, gL_sI, gL_sR, gL_sB, gR_sI, gR_sL, gR_sB, gB_sI, gB_sL, gB_sR, gI_sIs, gL_sLs, gR_sRs, gB_sBs, gI_sIn, gL_sLn, gR_sRn, gB_sBn, rdI_ok, rdL_ok, rdB_ok, wrI_ok, wrL_ok, wrB_ok, r33, n3]
        have g7 : Kp (wPI p) z.2 (sI z.2 p 6 (nI Y.1.length)) := Kp.sI ⟨rfl, rfl⟩
        have b3 := x3.2.2.2.2.2.1
        rw [y3.1] at b3
        have x7 := x3.be 1 Y.1.length b3
        have q7 := cQuery_set (j := X.1.length) q3 y2 (by rw [hpp]; exact g7.mono (fun t a k _ z => by unfold wPI at z; unfold wPt; omega)) (by omega) (by rw [hpp]; exact x7)
        exact ⟨_, rfl, Gz.tr g7 (fun t a k _ y => wPI_wPs hX hpp.symm t a k y), rfl, h3.kp g7 (wPI_wPs hX hpp.symm), c3.kp g7 hl3 (fun k z => by unfold wPI at z; omega), q7⟩
theorem Ps_any {e ps q n : Nat} {tp : Nat → Nat} {st sp : Bool} {ev : AtX → Sem} : ∀ (k d f : Nat) (br sa : Bool) (i : Nat) (X : QSt) (L : QLo) (σ : Mem) (x : Nat), d ≤ 8 → f + d = 19 → 41 ≤ X.1.length + k → x ≤ X.1.length → cEnv e ps q σ tp n st sp → cPc ps σ tp n i → cQuery σ q X.1 → ∃ z r, lp (fun y : Bool × Int32 × Mem => Ps_readAny_l5 (Ps_readAny f) y.2.2 ps (nI d) br y.1 y.2.1) (sa, nI x, σ) = some r ∧ ((z.1 = false ∧ r = .inl z.2) ∨ (z.1 = true ∧ r = .inr (.inl z.2))) ∧ pRes e ps q σ tp n st sp (qAny st sp tp n ev k d br sa i X L) z
  | 0, d, f, br, sa, i, X, L, σ, x, hd, hf, hk, hx, h, hc, hQ => by
    have := hQ.2.1
    omega
  | k + 1, d, f, br, sa, i, X, L, σ, x, hd, hf, hk, hx, h, hc, hQ => by
    have t0 := h.ps.1
    have hl := hQ.2.1
    have hrec : d < 8 → recOK (Ps_readAny f) e ps q tp n st sp (qAny st sp tp n ev k (d + 1)) (d + 1) k := fun hd8 br2 i2 X2 σ2 hk2 h2 c2 q2 => by
      obtain ⟨f', rfl⟩ : ∃ f', f = f' + 1 := ⟨f - 1, by omega⟩
      obtain ⟨z, r, e1, e2, e3⟩ := Ps_any k (d + 1) f' br2 true i2 X2 (0, 0, fun _ => none, fun _ => some 0) σ2 0 (by omega) (by omega) hk2 (Nat.zero_le _) h2 c2 q2
      refine ⟨z, ?_, e3⟩
      show (lp (fun y : Bool × Int32 × Mem => Ps_readAny_l5 (Ps_readAny f') y.2.2 ps (nI (d + 1)) br2 y.1 y.2.1) (true, nI 0, σ2)).bind _ = some z
      rw [e1]
      rcases e2 with ⟨e4, rfl⟩ | ⟨e4, rfl⟩
      · show some (false, z.2) = some z
        rw [← e4]
      · show some (true, z.2) = some z
        rw [← e4]
    obtain ⟨z, e1, e2, e3⟩ := Ps_readPart_ok (br := br) (sa := sa) (ev := ev) hrec (fun a b c X L j Y Q => qAny_ext k (d + 1) a b c X L j Y Q) hd h hc (by omega) hQ
    have hst : Ps_readAny_l5 (Ps_readAny f) σ ps (nI d) br sa (nI x) = (if z.1 = true then (ldI z.2 3 4 (some ps)).bind fun v5 => Option.bind (if ¬ v5 = 124 then some false else some true) fun q6 => jn (if q6 = true then (chk z.2 3 (some ps)).bind fun a10 => (Ps_advance z.2 a10).bind fun v11 => some (Sum.inr v11) else (chk z.2 3 (some ps)).bind fun a12 => (Ps_beginsPart z.2 a12).bind fun v13 => if v13 = true then some (Sum.inr z.2) else some (Sum.inl (Sum.inr (Sum.inr (Sum.inl z.2))))) fun q8 => some (Sum.inl (q6, nI x + 1, q8)) else some (Sum.inr (Sum.inl z.2))) := by
      unfold Ps_readAny_l5
      rw [if_neg (fun y => by have := (iLt (a := 40) (b := x) (by omega) (by omega)).mp y; omega), chk_ok t0]
      simp only [Option.bind_some, e1]
    unfold qAny
    cases hr : qPt st sp tp n ev (qAny st sp tp n ev k (d + 1)) d br sa i X with
    | inl pl =>
      rw [hr] at e3
      obtain ⟨e4, e5⟩ := e3
      refine ⟨z, .inl z.2, lp_out ?_, .inl ⟨e4, rfl⟩, e2, e4, e5⟩
      show Ps_readAny_l5 (Ps_readAny f) σ ps (nI d) br sa (nI x) = _
      rw [hst, if_neg (by rw [e4]; decide)]
    | inr r =>
      obtain ⟨i3, Z, g⟩ := r
      rw [hr] at e3
      obtain ⟨e4, h3, c3, q3⟩ := e3
      have y2 := (qPt_ext (fun a b c X L j Y Q => qAny_ext k (d + 1) a b c X L j Y Q) hr).2
      have t3 := h3.ps.1
      have e124 : (if ¬ nI (pK tp n i3) = 124 then some false else some true) = some (decide (pK tp n i3 = 124)) := by
        rw [show (124 : Int32) = nI 124 from rfl]
        simp only [kEq (h3.k c3.1) (show 124 < 300 by decide)]
        by_cases c : pK tp n i3 = 124
        · rw [if_neg (fun z => z c), decide_eq_true c]
        · rw [if_pos c, decide_eq_false c]
      rw [if_pos e4, ldI_ok t3, c3.2.1] at hst
      simp only [Option.bind_some] at hst
      rw [e124] at hst
      simp only [Option.bind_some] at hst
      rw [chk_ok t3] at hst
      simp only [Option.bind_some] at hst
      rw [show (1 : Int32) = nI 1 from rfl, nI_add] at hst
      simp only
      by_cases c124 : pK tp n i3 = 124
      · rw [if_pos c124]
        obtain ⟨m4, f4, g4, c4, h4⟩ := adv h3 c3
        rw [decide_eq_true c124, if_pos rfl, f4] at hst
        have q4 := cQuery.ad h3 q3 g4
        obtain ⟨z', r', e5, e6, e7, e8⟩ := Ps_any k d f br true (pE tp n i3) (Z.1, Z.2.1 ++ [(7, 0, nI (L.1 + 1), 0)], Z.2.2) (0, L.2.1 + 1, (fun x => eitS (L.2.2.1 x) (bthS (L.2.2.2 x) (g x))), fun _ => some 0) m4 (x + 1) hd hf (by show 41 ≤ Z.1.length + k; omega) (by show x + 1 ≤ Z.1.length; omega) h4 c4 q4
        refine ⟨z', r', ?_, e6, (e2.tr g4 (fun t a k _ y => .inl y)).tr e7 (fun _ _ _ _ y => y), e8⟩
        rw [lp_on (f := fun y : Bool × Int32 × Mem => Ps_readAny_l5 (Ps_readAny f) y.2.2 ps (nI d) br y.1 y.2.1) (a := (sa, nI x, σ)) hst]
        exact e5
      · rw [if_neg c124]
        rw [decide_eq_false c124, if_neg (by decide), Ps_beginsPart_ok h3 c3] at hst
        simp only [Option.bind_some] at hst
        by_cases cb : qBeg (pK tp n i3) = true
        · rw [if_pos cb]
          rw [if_pos cb] at hst
          obtain ⟨z', r', e5, e6, e7, e8⟩ := Ps_any k d f br false i3 Z (L.1 + 1, L.2.1, L.2.2.1, fun x => bthS (L.2.2.2 x) (g x)) z.2 (x + 1) hd hf (by omega) (by omega) h3 c3 q3
          refine ⟨z', r', ?_, e6, e2.tr e7 (fun _ _ _ _ y => y), e8⟩
          rw [lp_on (f := fun y : Bool × Int32 × Mem => Ps_readAny_l5 (Ps_readAny f) y.2.2 ps (nI d) br y.1 y.2.1) (a := (sa, nI x, σ)) hst]
          exact e5
        · rw [if_neg cb]
          rw [if_neg cb] at hst
          exact ⟨z, .inr (.inl z.2), lp_out hst, .inr ⟨e4, rfl⟩, e2, e4, h3, c3, q3⟩
/-- THE QUERY: its parts, operations, words, marks, and its score -/
def qParse (st sp : Bool) (tp : Nat → Nat) (n : Nat) (ev : AtX → Sem) : Nat ⊕ (QSt × Sem) := match qAny st sp tp n ev 41 0 false true 0 ([], [], [], []) (0, 0, fun _ => none, fun _ => some 0) with
  | .inl p => .inl p
  | .inr (i, Y, Q) => if pK tp n i = 257 then .inr ((Y.1, Y.2.1 ++ [(7, 0, nI Q.1, 0), (8, 0, nI (Q.2.1 + 1), 0)], Y.2.2), fun d => eitS (Q.2.2.1 d) (Q.2.2.2 d)) else .inl (pS tp n i)
theorem Ps_wrongPlace_ok {e ps q n : Nat} {tp : Nat → Nat} {st sp : Bool} {ev : AtX → Sem} {σ : Mem} (h : cEnv e ps q σ tp n st sp) (h6 : gI σ ps 6 = nI 0) : ∃ z, Ps_wrongPlace σ ps = some z ∧ Kp (wPs ps q) σ z.2 ∧ match qParse st sp tp n ev with
    | .inl p => z.1 = nI p
    | .inr (Y, _) => z.1 = -1 ∧ cQuery z.2 q Y.1 := by
  obtain ⟨t0, r0, i1, r2, r3, hps, hlt, hnn⟩ := h.ps
  have hqe : q + 162 ≤ e + 401 := h.2.2.2.2.2.1
  have tq := h.2.2.2.1.1
  have g1 : Kp (wPs ps q) σ (sI σ q 1 0) := Kp.sI (.inr ⟨by decide, Nat.le_refl _, by omega⟩)
  have h1 := h.kp g1 (fun _ _ _ y => y)
  have q1 : cQuery (sI σ q 1 0) q [] := ⟨gI_sIs _ _ _ _, by decide, fun j hj => absurd hj (Nat.not_lt_zero _)⟩
  obtain ⟨m2, f2, g2, c2⟩ := Ps_advance_ok h1 (i := 0) (Nat.zero_le _) (by rw [gI_sIn (by omega)]; exact h6)
  have h2 := h1.kp g2 wAd_wPs
  have q2 := cQuery.ad h1 q1 g2
  have G2 := g1.tr g2 (fun t a k _ y => .inl y)
  obtain ⟨z, r, e1, e2, e3, e4⟩ := Ps_any (ev := ev) 41 0 19 false true 0 ([], [], [], []) (0, 0, fun _ => none, fun _ => some 0) m2 0 (by decide) (by decide) (by decide) (Nat.le_refl _) h2 c2 q2
  have ea : Ps_readAny 20 m2 ps 0 false = some z := by
    show (lp (fun y : Bool × Int32 × Mem => Ps_readAny_l5 (Ps_readAny 19) y.2.2 ps (nI 0) false y.1 y.2.1) (true, nI 0, m2)).bind _ = some z
    rw [e1]
    rcases e2 with ⟨e4, rfl⟩ | ⟨e4, rfl⟩
    · show some (false, z.2) = some z
      rw [← e4]
    · show some (true, z.2) = some z
      rw [← e4]
  have t1 := h1.ps.1
  have t2 := h2.ps.1
  have G3 := G2.tr e3 (fun _ _ _ _ y => y)
  unfold Ps_wrongPlace
  simp (disch := first | assumption | omega | (simp only [gT_sI, gT_sL, gT_sR, gT_sB]; first | assumption | omega)) only [Option.bind_some, ldI_ok, ldL_ok, ldR_ok, ldB_ok, stI_ok, stL_ok, stR_ok, stB_ok, chk_ok, raI_k, raL_k, raR_k, raB_k, waI_k, waL_k, waB_k, waR_k, alen_k, gT_sI, gT_sL, gT_sR, gT_sB, gN_sI, gN_sL, gN_sR, gN_sB, gI_sL, gI_sR, gI_sB, gL_sI, gL_sR, gL_sB, gR_sI, gR_sL, gR_sB, gB_sI, gB_sL, gB_sR, gI_sIs, gL_sLs, gR_sRs, gB_sBs, gI_sIn, gL_sLn, gR_sRn, gB_sBn, rdI_ok, rdL_ok, rdB_ok, wrI_ok, wrL_ok, wrB_ok, r3, f2, ea]
  have tz : (gT z.2 ps).1 = 3 := by rw [G3.T hlt]; exact t0
  unfold qParse
  cases hr : qAny st sp tp n ev 41 0 false true 0 ([], [], [], []) (0, 0, fun _ => none, fun _ => some 0) with
  | inl pl =>
    rw [hr] at e4
    obtain ⟨e5, e6⟩ := e4
    rw [e5]
    simp (disch := first | assumption | omega | (simp only [gT_sI, gT_sL, gT_sR, gT_sB]; first | assumption | omega)) only [Option.bind_some, ldI_ok, ldL_ok, ldR_ok, ldB_ok, stI_ok, stL_ok, stR_ok, stB_ok, chk_ok, raI_k, raL_k, raR_k, raB_k, waI_k, waL_k, waB_k, waR_k, alen_k, gT_sI, gT_sL, gT_sR, gT_sB, gN_sI, gN_sL, gN_sR, gN_sB, gI_sL, gI_sR, gI_sB, gL_sI, gL_sR, gL_sB, gR_sI, gR_sL, gR_sB, gB_sI, gB_sL, gB_sR, gI_sIs, gL_sLs, gR_sRs, gB_sBs, gI_sIn, gL_sLn, gR_sRn, gB_sBn, rdI_ok, rdL_ok, rdB_ok, wrI_ok, wrL_ok, wrB_ok, Bool.false_eq_true, if_false, jn_r, e6]
    exact ⟨_, rfl, G3, rfl⟩
  | inr r =>
    obtain ⟨i3, Y, Q⟩ := r
    rw [hr] at e4
    obtain ⟨e5, h3, c3, q3⟩ := e4
    simp only [e5, if_true]
    simp (disch := first | assumption | omega | (simp only [gT_sI, gT_sL, gT_sR, gT_sB]; first | assumption | omega)) only [Option.bind_some, ldI_ok, ldL_ok, ldR_ok, ldB_ok, stI_ok, stL_ok, stR_ok, stB_ok, chk_ok, raI_k, raL_k, raR_k, raB_k, waI_k, waL_k, waB_k, waR_k, alen_k, gT_sI, gT_sL, gT_sR, gT_sB, gN_sI, gN_sL, gN_sR, gN_sB, gI_sL, gI_sR, gI_sB, gL_sI, gL_sR, gL_sB, gR_sI, gR_sL, gR_sB, gB_sI, gB_sL, gB_sR, gI_sIs, gL_sLs, gR_sRs, gB_sBs, gI_sIn, gL_sLn, gR_sRn, gB_sBn, rdI_ok, rdL_ok, rdB_ok, wrI_ok, wrL_ok, wrB_ok, c3.2.1]
    rw [show (257 : Int32) = nI 257 from rfl]
    simp only [kEq (h3.k c3.1) (show 257 < 300 by decide)]
    by_cases c : pK tp n i3 = 257
    · rw [if_neg (fun z => z c), if_pos c]
      exact ⟨_, rfl, G3, rfl, q3⟩
    · rw [if_pos c, if_neg c]
      simp only [jn_r]
      simp (disch := first | assumption | omega | (simp only [gT_sI, gT_sL, gT_sR, gT_sB]; first | assumption | omega)) only [Option.bind_some, ldI_ok, ldL_ok, ldR_ok, ldB_ok, stI_ok, stL_ok, stR_ok, stB_ok, chk_ok, raI_k, raL_k, raR_k, raB_k, waI_k, waL_k, waB_k, waR_k, alen_k, gT_sI, gT_sL, gT_sR, gT_sB, gN_sI, gN_sL, gN_sR, gN_sB, gI_sL, gI_sR, gI_sB, gL_sI, gL_sR, gL_sB, gR_sI, gR_sL, gR_sB, gB_sI, gB_sL, gB_sR, gI_sIs, gL_sLs, gR_sRs, gB_sBs, gI_sIn, gL_sLn, gR_sRn, gB_sBn, rdI_ok, rdL_ok, rdB_ok, wrI_ok, wrL_ok, wrB_ok, c3.2.2.1]
      exact ⟨_, rfl, G3, rfl⟩
