/-! the reference's parser: parts, ANYS, the query -/
theorem rd_wQr {d : Nat} : ∀ t c j, wRd t c j → wQr d t c j := fun t c j z => by unfold wRd at z; unfold wQr; omega
theorem M_pt {tp : Nat → Nat} {n : Nat} {st sp : Bool} {ev : AtX → Sem} {nest : Bool → Bool → Nat → QSt → QLo → QRes} {d kk i np na : Nat} {br sa must : Bool} {X : QSt} {R : RS} (hrec : d < 8 → recR tp n st sp nest (d + 1) kk) (hnx : ∀ br sa i X L i' Y Q, i ≤ n → nest br sa i X L = .inr (i', Y, Q) → qLen X Y 0) (hd8 : d ≤ 8) (h : rHd R tp n st sp d br X np na) (hc : rPc R tp n i) (hK : 41 ≤ X.1.length + 1 + kk) (hB : lenB X) (hm : must = true ∨ qBeg (pK tp n i) = true) : match qPt st sp tp n ev nest d br sa i X with
    | .inl p => ∃ R', lp (fun q : Bool × Int32 × RS => M_readQuery_l47 q.2.2 q.1 q.2.1) (must, 0, R) = some R' ∧ R'.1 0 45 = nI p ∧ p < 1000 ∧ Rp (wQr d) R R'
    | .inr (i3, Z, _) => ∃ R', lp (fun q : Bool × Int32 × RS => M_readQuery_l47 q.2.2 q.1 q.2.1) (must, 0, R) = lp (fun q : Bool × Int32 × RS => M_readQuery_l47 q.2.2 q.1 q.2.1) (false, 0, R') ∧ rHd R' tp n st sp d br Z (np + 1) na ∧ rPc R' tp n i3 ∧ Rp (wQr d) R R' ∧ Z.1.length ≤ 40 := by
  have hE := h.1
  have hn := hE.1
  have hps := pS_lt (tp := tp) hc.1 hn
  have hkk := hE.k hc.1
  have h58 := h.2.2.2.2.2.1
  have h59 := h.2.2.2.2.1
  -- a piece at which nothing can begin
  have hfail : ∀ (p : Nat), qBeg (pK tp n i) = false → p = pS tp n i → ∃ R', lp (fun q : Bool × Int32 × RS => M_readQuery_l47 q.2.2 q.1 q.2.1) (must, 0, R) = some R' ∧ R'.1 0 45 = nI p ∧ p < 1000 ∧ Rp (wQr d) R R' := fun p hb hp => by
    have hm : must = true := hm.resolve_right (by rw [hb]; decide)
    have hst := it_no (must := must) hE hc hb h58 (by omega) (fun _ => hm) (fun _ => .inl hm) (fun _ => .inl hm)
    refine ⟨pI R 45 (nI (pS tp n i)), lp_inl (a' := (must, 0, pI R 45 (nI (pS tp n i)))) hst (M_exit (p := pS tp n i) fl45 hps), by rw [fl45, hp], by rw [hp]; exact hps, Rp.pI (by unfold wQr; omega)⟩
  unfold qPt
  by_cases c40 : 40 ≤ X.1.length
  · rw [if_pos c40]
    cases hb : qBeg (pK tp n i) with
    | false => exact hfail _ hb rfl
    | true =>
      have hst : M_part R = some (false, pI (pI R 59 (nI (X.1.length + 1))) 45 (nI (pS tp n i))) := by
        have g0 : Rp (fun t c j => t = 0 ∧ c = 0 ∧ j = 59) R (pI R 59 (nI (X.1.length + 1))) := Rp.pI ⟨rfl, rfl, rfl⟩
        have h1 : rEnv (pI R 59 (nI (X.1.length + 1))) tp n st sp := hE.rp g0 (fun t c j z => by omega)
        have e59 : (pI R 59 (nI (X.1.length + 1))).1 0 59 = nI (X.1.length + 1) := by simp only [pI, pL, pB, up2_s, up2_ne]
        have e41 : (pI R 59 (nI (X.1.length + 1))).1 0 41 = nI (pS tp n i) := by simp (disch := omega) only [pI, pL, pB, up2_s, up2_ne]; exact hc.2.2.1
        have hf := M_fails_ok h1
        rw [e41] at hf
        unfold M_part
        rw [h59, show (1 : Int32) = nI 1 from rfl, nI_add]
        simp only [Option.bind_some]
        have e0 : ¬ nI (X.1.length + 1) ≤ 40 := by
          have : (nI (X.1.length + 1) ≤ 40) = (X.1.length + 1 ≤ 40) := iLe (b := 40) (by have := hB.1; omega) (by omega)
          rw [this]
          omega
        rw [e59, if_neg e0, hf]
        rfl
      have hit := it_beg (must := must) hE hc hb
      rw [hst] at hit
      refine ⟨pI (pI R 59 (nI (X.1.length + 1))) 45 (nI (pS tp n i)), lp_inl (a' := (false, 0, pI (pI R 59 (nI (X.1.length + 1))) 45 (nI (pS tp n i)))) hit (M_exit (p := pS tp n i) fl45 hps), fl45, hps, ?_⟩
      exact Rp.tr (W' := wQr d) (R' := pI R 59 (nI (X.1.length + 1))) (Rp.pI (by unfold wQr; omega)) (Rp.pI (by unfold wQr; omega)) (fun _ _ _ z => z)
  · rw [if_neg c40]
    have hl : X.1.length < 40 := by omega
    cases hb : qBeg (pK tp n i) with
    | false =>
      obtain ⟨k1, k2, k3, k4, k5⟩ := qBeg_k hb
      have e1 : qHd st sp tp n ev nest d br sa (decide (pK tp n i = 45)) (if pK tp n i = 45 then pE tp n i else i) X = .inl (pS tp n i) := by
        rw [if_neg k5]
        unfold qHd
        rw [if_neg k3]
        unfold qAtom
        rw [if_neg k4, if_neg k2, if_neg k1]
      rw [e1]
      exact hfail _ hb rfl
    | true =>
      have hit := it_beg (must := must) hE hc hb
      unfold qHd
      by_cases h40 : pK tp n (if pK tp n i = 45 then pE tp n i else i) = 40
      · rw [if_pos h40]
        by_cases c8 : 8 ≤ d
        · rw [if_pos c8]
          obtain ⟨R2, e2, g2, h2, c2, l2⟩ := M_minus h hc (by omega)
          have hd2 : R2.1 0 58 = nI d := by rw [g2.I (by decide) (by unfold wRd; omega)]; exact h58
          have e8 : nI d = 8 := by rw [show d = 8 by omega]; rfl
          have hst : M_part R = some (false, pI R2 45 (nI (pS tp n (if pK tp n i = 45 then pE tp n i else i)))) := by
            have hf := M_fails_ok h2
            rw [c2.2.2.1] at hf
            rw [M_part_eq h hc hl hd8 e2 c2 h2, if_neg (fun z => z h40), hd2, if_neg (fun z => z e8), hf]
            rfl
          have hps2 := pS_lt (tp := tp) c2.1 hn
          rw [hst] at hit
          refine ⟨pI R2 45 (nI (pS tp n (if pK tp n i = 45 then pE tp n i else i))), lp_inl (a' := (false, 0, pI R2 45 (nI (pS tp n (if pK tp n i = 45 then pE tp n i else i))))) hit (M_exit fl45 hps2), fl45, hps2, ?_⟩
          exact (g2.mono (W' := wQr d) (fun t c j z => by unfold wRd at z; unfold wQr; omega)).tr (W' := wQr d) (Rp.pI (by unfold wQr; omega)) (fun _ _ _ z => z)
        · rw [if_neg c8]
          obtain ⟨R2, e2, g2, h2, c2, p2, a2, m2, k2⟩ := M_part_open (sa := sa) h hc hl (by omega) h40
          rw [e2] at hit
          have hB2 : lenB (X.1 ++ [grP (decide (pK tp n i = 45)) (br || decide (pK tp n i = 45)) sa 1 0], X.2) := by
            obtain ⟨b1, b2, b3, b4⟩ := hB
            refine ⟨?_, ?_, ?_, ?_⟩ <;> simp only [len1] <;> omega
          have hr := hrec (by omega) (br || decide (pK tp n i = 45)) (pE tp n (if pK tp n i = 45 then pE tp n i else i)) (X.1 ++ [grP (decide (pK tp n i = 45)) (br || decide (pK tp n i = 45)) sa 1 0], X.2) R2 (by simp only [len1]; omega) hB2 h2 c2
          have hlp2 : lp (fun q : Bool × Int32 × RS => M_readQuery_l47 q.2.2 q.1 q.2.1) (must, 0, R) = lp (fun q : Bool × Int32 × RS => M_readQuery_l47 q.2.2 q.1 q.2.1) (true, 0, R2) := lp_on (f := fun q : Bool × Int32 × RS => M_readQuery_l47 q.2.2 q.1 q.2.1) (a := (must, 0, R)) (a' := (true, 0, R2)) hit
          have wS : ∀ t c j, wQr (d + 1) t c j → wQr d t c j := fun t c j z => by unfold wQr at *; omega
          cases hq : nest (br || decide (pK tp n i = 45)) true (pE tp n (if pK tp n i = 45 then pE tp n i else i)) (X.1 ++ [grP (decide (pK tp n i = 45)) (br || decide (pK tp n i = 45)) sa 1 0], X.2) (0, 0, fun _ => none, fun _ => some 0) with
          | inl p =>
            rw [hq] at hr
            obtain ⟨R3, e3, v3, p3, g3⟩ := hr
            exact ⟨R3, by rw [hlp2]; exact e3, v3, p3, g2.tr g3 wS⟩
          | inr r =>
            obtain ⟨i2, Y, Q⟩ := r
            have hx := hnx _ _ _ _ _ _ _ _ c2.1 hq
            rw [hq] at hr
            obtain ⟨R3, e3, h3, c3, g3, b3, n3, l3⟩ := hr
            have G3 : Rp (wQr d) R R3 := g2.tr g3 wS
            have hk3 := h3.1.k c3.1
            simp only
            by_cases c41 : pK tp n i2 = 41
            · rw [if_pos c41]
              have p3 : R3.1 36 d = nI np := by rw [g3.I (by decide) (by unfold wQr; omega)]; exact p2
              have a3 : R3.1 37 d = nI na := by rw [g3.I (by decide) (by unfold wQr; omega)]; exact a2
              have m3 : R3.2.2 38 d = decide (pK tp n i = 45) := by rw [g3.B (by decide) (by unfold wQr; omega)]; exact m2
              have k3 : ∀ k, k < d → R3.2.2 38 k = R.2.2 38 k := fun k hk => by rw [g3.B (by decide) (by unfold wQr; omega)]; exact k2 k hk
              have hYB : Y.2.1.length ≤ 200 := by
                have hy := hB2.of hx l3
                have hy2 := hy.2.1
                omega
              have r4 := it_close (na := na) h3 c3 c41 hYB (by omega) p3 m3
              simp only
              cases hbo : qBoost tp n (pE tp n i2) with
              | inl p =>
                rw [hbo] at r4
                obtain ⟨R4, e4, v4, p4, g4⟩ := r4
                refine ⟨R4, ?_, v4, p4, G3.tr g4 (fun _ _ _ z => z)⟩
                rw [hlp2, e3]
                exact lp_inl (a' := (false, 0, R4)) e4 (M_exit v4 p4)
              | inr r =>
                obtain ⟨i4, b⟩ := r
                rw [hbo] at r4
                obtain ⟨R4, e4, g4, k4, h4, c4, o4, d4, p4⟩ := r4
                refine ⟨R4, ?_, ⟨h4, o4, ?_, ?_, ?_, d4, p4, ?_, ?_⟩, c4, G3.tr g4 (fun _ _ _ z => z), by rw [List.length_set]; exact l3⟩
                · rw [hlp2, e3]
                  exact lp_on (f := fun q : Bool × Int32 × RS => M_readQuery_l47 q.2.2 q.1 q.2.1) (a := (false, 0, R3)) (a' := (false, 0, R4)) e4
                · exact h3.2.2.1.rp k4 (by omega) (fun c j z1 z2 z => by omega)
                · exact h3.2.2.2.1.rp k4 (by omega) (fun c j z1 z2 z => by omega)
                · rw [k4.I (by decide) (by omega), h3.2.2.2.2.1, List.length_set]
                · rw [k4.I (by decide) (by omega)]; exact a3
                · rw [h.2.2.2.2.2.2.2.2]
                  constructor
                  · rintro ⟨k, z1, z2⟩
                    exact ⟨k, z1, by rw [k4.B (by decide) (by omega), k3 k z1]; exact z2⟩
                  · rintro ⟨k, z1, z2⟩
                    exact ⟨k, z1, by rw [k4.B (by decide) (by omega), k3 k z1] at z2; exact z2⟩
            · rw [if_neg c41]
              have hst := it_no (must := false) h3.1 c3 b3 h3.2.2.2.2.2.1 (by omega) (fun z => absurd z n3) (fun z => absurd z c41) (fun _ => .inr (by omega))
              have hps3 := pS_lt (tp := tp) c3.1 hn
              refine ⟨pI R3 45 (nI (pS tp n i2)), ?_, fl45, hps3, G3.tr (W' := wQr d) (Rp.pI (by unfold wQr; omega)) (fun _ _ _ z => z)⟩
              rw [hlp2, e3]
              exact lp_inl (a' := (false, 0, pI R3 45 (nI (pS tp n i2)))) hst (M_exit fl45 hps3)
      · rw [if_neg h40]
        have hr := M_part_atom h hc hl hB hd8 h40
        cases hq : qAtom st sp tp n (if pK tp n i = 45 then pE tp n i else i) with
        | inl p =>
          rw [hq] at hr
          obtain ⟨R2, e2, v2, p2, g2⟩ := hr
          rw [e2] at hit
          exact ⟨R2, lp_inl (a' := (false, 0, R2)) hit (M_exit v2 p2), v2, p2, g2⟩
        | inr r =>
          obtain ⟨i2, y⟩ := r
          rw [hq] at hr
          simp only at hr ⊢
          cases hbo : qBoost tp n i2 with
          | inl p =>
            rw [hbo] at hr
            obtain ⟨R2, e2, v2, p2, g2⟩ := hr
            rw [e2] at hit
            exact ⟨R2, lp_inl (a' := (false, 0, R2)) hit (M_exit v2 p2), v2, p2, g2⟩
          | inr r =>
            obtain ⟨i3, b⟩ := r
            rw [hbo] at hr
            obtain ⟨R2, e2, g2, h2, c2, o2, w2, m2, l2, d2, p2, a2, k2⟩ := hr
            rw [e2] at hit
            refine ⟨R2, lp_on (f := fun q : Bool × Int32 × RS => M_readQuery_l47 q.2.2 q.1 q.2.1) (a := (must, 0, R)) (a' := (false, 0, R2)) hit, ⟨h2, o2, w2, m2, ?_, d2, p2, a2, ?_⟩, c2, g2, by rw [List.length_set, len1]; omega⟩
            · rw [List.length_set, len1]; exact l2
            · rw [h.2.2.2.2.2.2.2.2]
              constructor
              · rintro ⟨k, z1, z2⟩
                exact ⟨k, z1, by rw [k2]; exact z2⟩
              · rintro ⟨k, z1, z2⟩
                exact ⟨k, z1, by rw [← k2]; exact z2⟩
theorem M_any {tp : Nat → Nat} {n : Nat} {st sp : Bool} {ev : AtX → Sem} : ∀ (k d : Nat) (br sa : Bool) (i : Nat) (X : QSt) (L : QLo) (R : RS) (must : Bool), d ≤ 8 → 41 ≤ X.1.length + k → lenB X → rHd R tp n st sp d br X L.1 L.2.1 → rPc R tp n i → (must = true ∨ qBeg (pK tp n i) = true) → match qAny st sp tp n ev k d br sa i X L with
    | .inl p => ∃ R', lp (fun q : Bool × Int32 × RS => M_readQuery_l47 q.2.2 q.1 q.2.1) (must, 0, R) = some R' ∧ R'.1 0 45 = nI p ∧ p < 1000 ∧ Rp (wQr d) R R'
    | .inr (j, Y, Q) => ∃ R', lp (fun q : Bool × Int32 × RS => M_readQuery_l47 q.2.2 q.1 q.2.1) (must, 0, R) = lp (fun q : Bool × Int32 × RS => M_readQuery_l47 q.2.2 q.1 q.2.1) (false, 0, R') ∧ rHd R' tp n st sp d br Y Q.1 Q.2.1 ∧ rPc R' tp n j ∧ Rp (wQr d) R R' ∧ qBeg (pK tp n j) = false ∧ pK tp n j ≠ 124 ∧ Y.1.length ≤ 40
  | 0, d, br, sa, i, X, L, R, must, hd, hk, hB, h, hc, hm => by
    have := hB.1
    omega
  | k + 1, d, br, sa, i, X, L, R, must, hd, hk, hB, h, hc, hm => by
    have ht := h.1.tp
    have hn := h.1.1
    have hrec : d < 8 → recR tp n st sp (qAny st sp tp n ev k (d + 1)) (d + 1) k := fun hd8 br2 i2 X2 R2 hk2 hB2 h2 c2 => M_any k (d + 1) br2 true i2 X2 (0, 0, fun _ => none, fun _ => some 0) R2 true (by omega) hk2 hB2 h2 c2 (.inl rfl)
    have hll := fun a b c X L i' Y Q => qAny_len (ev := ev) (st := st) (sp := sp) ht hn k (d + 1) a b c X L i' Y Q
    have hp := M_pt (br := br) (sa := sa) (ev := ev) hrec hll hd h hc (by omega) hB hm
    unfold qAny
    cases hr : qPt st sp tp n ev (qAny st sp tp n ev k (d + 1)) d br sa i X with
    | inl p =>
      rw [hr] at hp
      exact hp
    | inr r =>
      obtain ⟨i3, Z, f⟩ := r
      have hlen := qPt_len ht hn hc.1 hll hr
      have hext := (qPt_ext (fun a b c X L j Y Q => qAny_ext k (d + 1) a b c X L j Y Q) hr).2
      rw [hr] at hp
      obtain ⟨R1, e1, h1, c1, g1, l1⟩ := hp
      have hBZ := hB.of hlen l1
      obtain ⟨hE1, hO1, hW1, hM1, h591, h581, h361, h371, hbr1⟩ := h1
      have hk1 := hE1.k c1.1
      simp only
      by_cases c124 : pK tp n i3 = 124
      · rw [if_pos c124]
        obtain ⟨R2, e2, g2, o2, p2, a2⟩ := M_endAll_ok hO1 (by have := hBZ.2.1; omega) h581 (by omega) h361 h371
        have h2 := hE1.rp g2 wEA_env
        have c2 : rPc R2 tp n i3 := c1.rp g2 (fun j z1 z2 z => by unfold wEA at z; omega)
        obtain ⟨R3, e3, g3, c3, h3⟩ := rdv h2 c2
        have hst : M_readQuery_l47 R1 false 0 = some (.inl (true, 0, R3)) := by
          unfold M_readQuery_l47
          rw [if_neg (fun z => z hE1.2.2.2.2.2), if_neg (fun z => z rfl), M_beginsPart_ok hE1 c1]
          simp only [Option.bind_some]
          rw [if_neg (by rw [c124]; decide), c1.2.1, show (124 : Int32) = nI 124 from rfl]
          simp only [rk_c hk1 (c := 124) (by decide)]
          rw [if_neg (fun z => z c124), if_neg (by decide), e2]
          simp only [Option.bind_some, e3]
          rfl
        have gg : Rp (fun t c j => wEA d t c j ∨ wRd t c j) R1 R3 := (g2.mono (fun _ _ _ z => .inl z)).tr g3 (fun _ _ _ z => .inr z)
        have hH3 : rHd R3 tp n st sp d br (Z.1, Z.2.1 ++ [(7, 0, nI (L.1 + 1), 0)], Z.2.2) 0 (L.2.1 + 1) := by
          refine ⟨h3, ?_, ?_, ?_, ?_, ?_, ?_, ?_, ?_⟩
          · exact o2.rp g3 (by unfold wRd; omega) (fun c j z1 z2 z => by unfold wRd at z; omega)
          · exact hW1.rp gg (by unfold wEA wRd; omega) (fun c j z1 z2 z => by unfold wEA wRd at z; omega)
          · exact hM1.rp gg (by unfold wEA wRd; omega) (fun c j z1 z2 z => by unfold wEA wRd at z; omega)
          · rw [gg.I (by decide) (by unfold wEA wRd; omega)]; exact h591
          · rw [gg.I (by decide) (by unfold wEA wRd; omega)]; exact h581
          · rw [g3.I (by decide) (by unfold wRd; omega)]; exact p2
          · rw [g3.I (by decide) (by unfold wRd; omega)]; exact a2
          · rw [hbr1]
            constructor
            · rintro ⟨k, z1, z2⟩
              exact ⟨k, z1, by rw [gg.B (by decide) (by unfold wEA wRd; omega)]; exact z2⟩
            · rintro ⟨k, z1, z2⟩
              exact ⟨k, z1, by rw [gg.B (by decide) (by unfold wEA wRd; omega)] at z2; exact z2⟩
        have hB3 : lenB (Z.1, Z.2.1 ++ [(7, 0, nI (L.1 + 1), 0)], Z.2.2) := by
          obtain ⟨b1, b2, b3, b4⟩ := hBZ
          obtain ⟨x1, x2, x3⟩ := hlen
          obtain ⟨y1, y2, y3, y4⟩ := hB
          refine ⟨b1, ?_, b3, b4⟩
          show (Z.2.1 ++ _).length ≤ 5 * Z.1.length
          rw [List.length_append]
          show Z.2.1.length + 1 ≤ _
          omega
        have hz := M_any (ev := ev) k d br true (pE tp n i3) (Z.1, Z.2.1 ++ [(7, 0, nI (L.1 + 1), 0)], Z.2.2) (0, L.2.1 + 1, (fun x => eitS (L.2.2.1 x) (bthS (L.2.2.2 x) (f x))), fun _ => some 0) R3 true hd (by show 41 ≤ Z.1.length + k; omega) hB3 hH3 c3 (.inl rfl)
        have hlp3 : lp (fun q : Bool × Int32 × RS => M_readQuery_l47 q.2.2 q.1 q.2.1) (must, 0, R) = lp (fun q : Bool × Int32 × RS => M_readQuery_l47 q.2.2 q.1 q.2.1) (true, 0, R3) := by
          rw [e1]
          exact lp_on (f := fun q : Bool × Int32 × RS => M_readQuery_l47 q.2.2 q.1 q.2.1) (a := (false, 0, R1)) (a' := (true, 0, R3)) hst
        have G3 : Rp (wQr d) R R3 := g1.tr gg (fun t c j z => by unfold wEA wRd at z; unfold wQr; omega)
        rw [hlp3]
        cases hq : qAny st sp tp n ev k d br true (pE tp n i3) (Z.1, Z.2.1 ++ [(7, 0, nI (L.1 + 1), 0)], Z.2.2) (0, L.2.1 + 1, (fun x => eitS (L.2.2.1 x) (bthS (L.2.2.2 x) (f x))), fun _ => some 0) with
        | inl p =>
          rw [hq] at hz
          obtain ⟨R4, e4, v4, p4, g4⟩ := hz
          exact ⟨R4, e4, v4, p4, G3.tr g4 (fun _ _ _ z => z)⟩
        | inr r =>
          obtain ⟨j, Y, Q⟩ := r
          rw [hq] at hz
          obtain ⟨R4, e4, h4, c4, g4, r4⟩ := hz
          exact ⟨R4, e4, h4, c4, G3.tr g4 (fun _ _ _ z => z), r4⟩
      · rw [if_neg c124]
        cases hb : qBeg (pK tp n i3) with
        | true =>
          rw [if_pos rfl]
          have hz := M_any (ev := ev) k d br false i3 Z (L.1 + 1, L.2.1, L.2.2.1, fun x => bthS (L.2.2.2 x) (f x)) R1 false hd (by omega) hBZ ⟨hE1, hO1, hW1, hM1, h591, h581, h361, h371, hbr1⟩ c1 (.inr hb)
          rw [e1]
          cases hq : qAny st sp tp n ev k d br false i3 Z (L.1 + 1, L.2.1, L.2.2.1, fun x => bthS (L.2.2.2 x) (f x)) with
          | inl p =>
            rw [hq] at hz
            obtain ⟨R4, e4, v4, p4, g4⟩ := hz
            exact ⟨R4, e4, v4, p4, g1.tr g4 (fun _ _ _ z => z)⟩
          | inr r =>
            obtain ⟨j, Y, Q⟩ := r
            rw [hq] at hz
            obtain ⟨R4, e4, h4, c4, g4, r4⟩ := hz
            exact ⟨R4, e4, h4, c4, g1.tr g4 (fun _ _ _ z => z), r4⟩
        | false =>
          rw [if_neg (by decide)]
          exact ⟨R1, e1, ⟨hE1, hO1, hW1, hM1, h591, h581, h361, h371, hbr1⟩, c1, g1, hb, c124, l1⟩
/-- the query read: where it is wrong, or its operations, words and marks -/
theorem M_readQuery_ok {tp : Nat → Nat} {n : Nat} {st sp : Bool} {ev : AtX → Sem} {R : RS} (h : rEnv R tp n st sp) (h43 : R.1 0 43 = nI 0) : match qParse st sp tp n ev with
    | .inl p => ∃ R', M_readQuery R = some R' ∧ R'.1 0 45 = nI p ∧ p < 1000 ∧ Rp (wQr 0) R R'
    | .inr (Y, _) => ∃ R', M_readQuery R = some R' ∧ rEnv R' tp n st sp ∧ rO R' Y.2.1 ∧ rW R' Y.2.2.1 ∧ rM R' Y.2.2.2 ∧ Rp (wQr 0) R R' ∧ Y.1.length ≤ 40 ∧ Y.2.1.length ≤ 202 ∧ Y.2.2.1.length ≤ 320 ∧ Y.2.2.2.length ≤ 320 := by
  have hn := h.1
  have ht := h.tp
  have g1 : Rp (fun t c j => t = 0 ∧ ((c = 0 ∧ (j = 50 ∨ j = 51 ∨ j = 30 ∨ j = 58 ∨ j = 59)) ∨ ((c = 36 ∨ c = 37) ∧ j = 0))) R (up2 (up2 (pI (pI (pI (pI (pI R 50 0) 51 0) 30 0) 58 0) 59 0).1 36 0 0) 37 0 0, (pI (pI (pI (pI (pI R 50 0) 51 0) 30 0) 58 0) 59 0).2) := by
    refine Rp.tr (R' := (up2 (pI (pI (pI (pI (pI R 50 0) 51 0) 30 0) 58 0) 59 0).1 36 0 0, (pI (pI (pI (pI (pI R 50 0) 51 0) 30 0) 58 0) 59 0).2)) ?_ (Rp.wI (by omega)) (fun _ _ _ z => z)
    refine Rp.tr (R' := pI (pI (pI (pI (pI R 50 0) 51 0) 30 0) 58 0) 59 0) ?_ (Rp.wI (by omega)) (fun _ _ _ z => z)
    refine Rp.tr (R' := pI (pI (pI (pI R 50 0) 51 0) 30 0) 58 0) ?_ (Rp.pI (by omega)) (fun _ _ _ z => z)
    refine Rp.tr (R' := pI (pI (pI R 50 0) 51 0) 30 0) ?_ (Rp.pI (by omega)) (fun _ _ _ z => z)
    refine Rp.tr (R' := pI (pI R 50 0) 51 0) ?_ (Rp.pI (by omega)) (fun _ _ _ z => z)
    exact Rp.tr (R' := pI R 50 0) (Rp.pI (by omega)) (Rp.pI (by omega)) (fun _ _ _ z => z)
  have v50 : (up2 (up2 (pI (pI (pI (pI (pI R 50 0) 51 0) 30 0) 58 0) 59 0).1 36 0 0) 37 0 0, (pI (pI (pI (pI (pI R 50 0) 51 0) 30 0) 58 0) 59 0).2).1 0 50 = nI 0 := by simp (disch := omega) only [pI, pL, pB, up2_s, up2_ne]; rfl
  have v51 : (up2 (up2 (pI (pI (pI (pI (pI R 50 0) 51 0) 30 0) 58 0) 59 0).1 36 0 0) 37 0 0, (pI (pI (pI (pI (pI R 50 0) 51 0) 30 0) 58 0) 59 0).2).1 0 51 = nI 0 := by simp (disch := omega) only [pI, pL, pB, up2_s, up2_ne]; rfl
  have v30 : (up2 (up2 (pI (pI (pI (pI (pI R 50 0) 51 0) 30 0) 58 0) 59 0).1 36 0 0) 37 0 0, (pI (pI (pI (pI (pI R 50 0) 51 0) 30 0) 58 0) 59 0).2).1 0 30 = nI 0 := by simp (disch := omega) only [pI, pL, pB, up2_s, up2_ne]; rfl
  have v58 : (up2 (up2 (pI (pI (pI (pI (pI R 50 0) 51 0) 30 0) 58 0) 59 0).1 36 0 0) 37 0 0, (pI (pI (pI (pI (pI R 50 0) 51 0) 30 0) 58 0) 59 0).2).1 0 58 = nI 0 := by simp (disch := omega) only [pI, pL, pB, up2_s, up2_ne]; rfl
  have v59 : (up2 (up2 (pI (pI (pI (pI (pI R 50 0) 51 0) 30 0) 58 0) 59 0).1 36 0 0) 37 0 0, (pI (pI (pI (pI (pI R 50 0) 51 0) 30 0) 58 0) 59 0).2).1 0 59 = nI 0 := by simp (disch := omega) only [pI, pL, pB, up2_s, up2_ne]; rfl
  have v36 : (up2 (up2 (pI (pI (pI (pI (pI R 50 0) 51 0) 30 0) 58 0) 59 0).1 36 0 0) 37 0 0, (pI (pI (pI (pI (pI R 50 0) 51 0) 30 0) 58 0) 59 0).2).1 36 0 = nI 0 := by simp (disch := omega) only [pI, pL, pB, up2_s, up2_ne]; rfl
  have v37 : (up2 (up2 (pI (pI (pI (pI (pI R 50 0) 51 0) 30 0) 58 0) 59 0).1 36 0 0) 37 0 0, (pI (pI (pI (pI (pI R 50 0) 51 0) 30 0) 58 0) 59 0).2).1 37 0 = nI 0 := by simp only [up2_s]; rfl
  unfold M_readQuery
  simp only [Option.bind_some]
  have hw1 : wrI (pI (pI (pI (pI (pI R 50 0) 51 0) 30 0) 58 0) 59 0) 36 10 0 0 = some (up2 (pI (pI (pI (pI (pI R 50 0) 51 0) 30 0) 58 0) 59 0).1 36 0 0, (pI (pI (pI (pI (pI R 50 0) 51 0) 30 0) 58 0) 59 0).2) := wrI_ok (i := 0) (by omega) (by omega)
  have hw2 : wrI (up2 (pI (pI (pI (pI (pI R 50 0) 51 0) 30 0) 58 0) 59 0).1 36 0 0, (pI (pI (pI (pI (pI R 50 0) 51 0) 30 0) 58 0) 59 0).2) 37 10 0 0 = some (up2 (up2 (pI (pI (pI (pI (pI R 50 0) 51 0) 30 0) 58 0) 59 0).1 36 0 0) 37 0 0, (pI (pI (pI (pI (pI R 50 0) 51 0) 30 0) 58 0) 59 0).2) := wrI_ok (i := 0) (by omega) (by omega)
  rw [hw1]
  simp only [Option.bind_some]
  rw [hw2]
  simp only [Option.bind_some]
  generalize (up2 (up2 (pI (pI (pI (pI (pI R 50 0) 51 0) 30 0) 58 0) 59 0).1 36 0 0) 37 0 0, (pI (pI (pI (pI (pI R 50 0) 51 0) 30 0) 58 0) 59 0).2) = R1 at *
  have h1 : rEnv R1 tp n st sp := h.rp g1 (fun t c j z => by omega)
  have h431 : R1.1 0 43 = nI 0 := by rw [g1.I (by decide) (by omega)]; exact h43
  obtain ⟨R2, e2, g2, c2⟩ := M_read_ok h1 (i := 0) (Nat.zero_le _) h431
  have h2 := h1.rp g2 wRd_env
  rw [e2]
  simp only [Option.bind_some]
  have hH : rHd R2 tp n st sp 0 false ([], [], [], []) 0 0 := by
    refine ⟨h2, ⟨?_, fun k hk => absurd hk (Nat.not_lt_zero _)⟩, ⟨?_, fun k hk => absurd hk (Nat.not_lt_zero _)⟩, ⟨?_, fun k hk => absurd hk (Nat.not_lt_zero _)⟩, ?_, ?_, ?_, ?_, fun z => (by cases z), fun ⟨k, z, _⟩ => absurd z (Nat.not_lt_zero _)⟩
    · rw [g2.I (by decide) (by unfold wRd; omega)]; exact v50
    · rw [g2.I (by decide) (by unfold wRd; omega)]; exact v51
    · rw [g2.I (by decide) (by unfold wRd; omega)]; exact v30
    · rw [g2.I (by decide) (by unfold wRd; omega)]; exact v59
    · rw [g2.I (by decide) (by unfold wRd; omega)]; exact v58
    · rw [g2.I (by decide) (by unfold wRd; omega)]; exact v36
    · rw [g2.I (by decide) (by unfold wRd; omega)]; exact v37
  have G2 : Rp (wQr 0) R R2 := (g1.mono (W' := wQr 0) (fun t c j z => by unfold wQr; omega)).tr g2 rd_wQr
  have hB0 : lenB ([], [], [], []) := ⟨Nat.zero_le _, Nat.zero_le _, Nat.zero_le _, Nat.zero_le _⟩
  have hz := M_any (ev := ev) 41 0 false true 0 ([], [], [], []) (0, 0, fun _ => none, fun _ => some 0) R2 true (by decide) (by decide) hB0 hH c2 (.inl rfl)
  unfold qParse
  cases hq : qAny st sp tp n ev 41 0 false true 0 ([], [], [], []) (0, 0, fun _ => none, fun _ => some 0) with
  | inl p =>
    rw [hq] at hz
    obtain ⟨R3, e3, v3, p3, g3⟩ := hz
    rw [e3]
    exact ⟨R3, rfl, v3, p3, G2.tr g3 (fun _ _ _ z => z)⟩
  | inr r =>
    obtain ⟨i3, Y, Q⟩ := r
    have hlen := qAny_len ht hn 41 0 _ _ _ _ _ _ _ _ (Nat.zero_le _) hq
    rw [hq] at hz
    obtain ⟨R3, e3, h3, c3, g3, b3, n3, l3⟩ := hz
    have hBY := hB0.of hlen l3
    obtain ⟨hE3, hO3, hW3, hM3, h593, h583, h363, h373, hbr3⟩ := h3
    have hk3 := hE3.k c3.1
    have G3 := G2.tr g3 (fun _ _ _ z => z)
    have hps3 := pS_lt (tp := tp) c3.1 hn
    rw [e3]
    simp only
    by_cases c257 : pK tp n i3 = 257
    · rw [if_pos c257]
      obtain ⟨b1, b2, b3', b4⟩ := hBY
      obtain ⟨R4, e4, g4, o4, p4, a4⟩ := M_endAll_ok hO3 (by omega) h583 (by omega) h363 h373
      have hol : (Y.2.1 ++ [((7 : Nat), (0 : Int32), nI Q.1, (0 : Int32))]).length = Y.2.1.length + 1 := by rw [List.length_append]; rfl
      obtain ⟨R5, e5, g5, o5⟩ := M_emit_ok o4 (by rw [hol]; omega) 8 0 (nI (Q.2.1 + 1)) 0
      have h4 := hE3.rp g4 wEA_env
      have h5 := h4.rp g5 wEm_env
      have hst : M_readQuery_l47 R3 false 0 = some (.inl (false, 1, R5)) := by
        unfold M_readQuery_l47
        rw [if_neg (fun z => z hE3.2.2.2.2.2), if_neg (fun z => z rfl), M_beginsPart_ok hE3 c3]
        simp only [Option.bind_some]
        rw [if_neg (by rw [b3]; decide), c3.2.1, show (124 : Int32) = nI 124 from rfl, show (41 : Int32) = nI 41 from rfl]
        simp only [rk_c hk3 (c := 124) (by decide), rk_c hk3 (c := 41) (by decide)]
        rw [if_pos n3]
        simp only [jn_r]
        rw [if_pos (show ¬ pK tp n i3 = 41 by omega)]
        simp only [jn_r]
        have e0 : (nI (rk (pK tp n i3)) = 0) := by rw [c257]; rfl
        rw [if_neg (fun z => z e0), if_neg (by decide), h583, if_neg (fun z => z rfl), e4]
        simp only [Option.bind_some]
        have e37 : rdI R4 37 10 0 = some (nI (Q.2.1 + 1)) := by
          have := rdI_ok (R := R4) (c := 37) (N := 10) (i := 0) (by omega) (by omega)
          rw [a4] at this
          exact this
        rw [e37]
        simp only [Option.bind_some]
        rw [show (8 : Int32) = nI 8 from rfl, e5]
        rfl
      have hst2 : M_readQuery_l47 R5 false 1 = some (.inr R5) := by
        unfold M_readQuery_l47
        rw [if_neg (fun z => z h5.2.2.2.2.2), if_pos (by decide)]
      rw [lp_inl (f := fun q : Bool × Int32 × RS => M_readQuery_l47 q.2.2 q.1 q.2.1) (a := (false, 0, R3)) (a' := (false, 1, R5)) hst (lp_out hst2)]
      refine ⟨R5, rfl, h5, ?_, ?_, ?_, ?_, l3, ?_, ?_, ?_⟩
      · rw [List.append_assoc] at o5
        exact o5
      · exact (hW3.rp g4 (by unfold wEA; omega) (fun c j z1 z2 z => by unfold wEA at z; omega)).rp g5 (by unfold wEm; omega) (fun c j z1 z2 z => by unfold wEm at z; omega)
      · exact (hM3.rp g4 (by unfold wEA; omega) (fun c j z1 z2 z => by unfold wEA at z; omega)).rp g5 (by unfold wEm; omega) (fun c j z1 z2 z => by unfold wEm at z; omega)
      · exact (G3.tr g4 (fun t c j z => by unfold wEA at z; unfold wQr; omega)).tr g5 (fun t c j z => by unfold wEm at z; unfold wQr; omega)
      · show (Y.2.1 ++ _).length ≤ 202
        rw [List.length_append]
        show Y.2.1.length + 2 ≤ 202
        omega
      · show Y.2.2.1.length ≤ 320
        omega
      · show Y.2.2.2.length ≤ 320
        omega
    · rw [if_neg c257]
      have hst := it_no (must := false) hE3 c3 b3 h583 (by omega) (fun z => absurd z n3) (fun _ => .inr rfl) (fun z => absurd z c257)
      rw [lp_inl (f := fun q : Bool × Int32 × RS => M_readQuery_l47 q.2.2 q.1 q.2.1) (a := (false, 0, R3)) (a' := (false, 0, pI R3 45 (nI (pS tp n i3)))) hst (M_exit fl45 hps3)]
      exact ⟨_, rfl, fl45, hps3, G3.tr (W' := wQr 0) (Rp.pI (by unfold wQr; omega)) (fun _ _ _ z => z)⟩
