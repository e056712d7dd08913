/-! the reference's parser: phrases, any atom -/
theorem qWords_inv {st sp : Bool} {tp : Nat → Nat} {n : Nat} (ht : ∀ j, j < 600 → tp j < 256) (hn : n ≤ 600) : ∀ (k i : Nat) (ws : List (List Nat × Nat)), i ≤ n → (qWords st sp tp n k i ws).1 ≤ n ∧ ws.length ≤ (qWords st sp tp n k i ws).2.length ∧ (qWords st sp tp n k i ws).2.length ≤ ws.length + k
  | 0, i, ws, h => ⟨h, Nat.le_refl _, Nat.le_refl _⟩
  | k + 1, i, ws, h => by
    unfold qWords
    by_cases c : pK tp n i = 256
    · rw [if_pos c]
      have := qWords_inv ht hn (st := st) (sp := sp) k (pE tp n i) (ws ++ [(mkT st sp tp (pS tp n i) (pE tp n i - pS tp n i), ws.length)]) (pE_b h).2
      rw [List.length_append] at this
      simp only [List.length_cons, List.length_nil] at this
      omega
    · rw [if_neg c]
      exact ⟨h, Nat.le_refl _, Nat.le_add_right _ _⟩
/-- frames of the words of a phrase -/
def wPw : Nat → Nat → Nat → Prop := fun t c j => t = 0 ∧ ((c = 0 ∧ (j = 38 ∨ (40 ≤ j ∧ j ≤ 43) ∨ j = 51)) ∨ c = 27 ∨ (33 ≤ c ∧ c ≤ 35))
theorem M_words {tp : Nat → Nat} {n : Nat} {st sp : Bool} {x w0 : Int32} {Ws : List (List Nat × Nat)} (hl : Ws.length + 8 ≤ 400) : ∀ (k i : Nat) (ws : List (List Nat × Nat)) (R : RS), ws.length + k = 8 → rEnv R tp n st sp → rPc R tp n i → rW R (Ws ++ ws) → ∃ R', Rp wPw R R' ∧ rEnv R' tp n st sp ∧ rPc R' tp n (qWords st sp tp n k i ws).1 ∧ rW R' (Ws ++ (qWords st sp tp n k i ws).2) ∧ ((lp (fun q : Int32 × RS => M_phrase_l24 q.2 x w0 q.1) (nI ws.length, R) = some (.inr (nI (qWords st sp tp n k i ws).2.length, R')) ∧ pK tp n (qWords st sp tp n k i ws).1 ≠ 256) ∨ (lp (fun q : Int32 × RS => M_phrase_l24 q.2 x w0 q.1) (nI ws.length, R) = some (.inl R') ∧ pK tp n (qWords st sp tp n k i ws).1 = 256))
  | 0, i, ws, R, h8, h, hc, hW => by
    refine ⟨R, Rp.rf, h, hc, hW, ?_⟩
    have hk := h.k hc.1
    by_cases c : pK tp n i = 256
    · right
      refine ⟨lp_out ?_, c⟩
      show M_phrase_l24 R x w0 (nI ws.length) = some (.inr (.inl R))
      unfold M_phrase_l24
      rw [hc.2.1, show (1 : Int32) = nI 1 from rfl]
      simp only [rk_1 hk]
      rw [if_neg (fun z => z c), if_neg (fun z => z (by rw [show ws.length = 8 by omega]; rfl))]
    · left
      refine ⟨lp_out ?_, c⟩
      show M_phrase_l24 R x w0 (nI ws.length) = some (.inr (.inr (nI ws.length, R)))
      unfold M_phrase_l24
      rw [hc.2.1, show (1 : Int32) = nI 1 from rfl]
      simp only [rk_1 hk]
      rw [if_pos c]
  | k + 1, i, ws, R, h8, h, hc, hW => by
    have hk := h.k hc.1
    unfold qWords
    by_cases c : pK tp n i = 256
    · rw [if_pos c]
      have hlw : (Ws ++ ws).length = Ws.length + ws.length := List.length_append
      obtain ⟨R1, e1, g1, w1, h1, c1⟩ := M_word_ok (m := ws.length) (starts := false) h hc c hW (by omega)
      rw [if_neg (show ¬ false = true by decide), List.append_assoc] at w1
      obtain ⟨R2, e2, g2, c2, h2⟩ := rdv h1 c1
      have w2 := w1.rp g2 (by unfold wRd; omega) (fun c j z1 z2 z => by unfold wRd at z; omega)
      have hl2 : (ws ++ [(mkT st sp tp (pS tp n i) (pE tp n i - pS tp n i), ws.length)]).length = ws.length + 1 := by rw [List.length_append]; rfl
      have hstep : M_phrase_l24 R x w0 (nI ws.length) = some (.inl (nI (ws ++ [(mkT st sp tp (pS tp n i) (pE tp n i - pS tp n i), ws.length)]).length, R2)) := by
        unfold M_phrase_l24
        rw [hc.2.1, show (1 : Int32) = nI 1 from rfl]
        simp only [rk_1 hk]
        have e8 : (nI ws.length = 8) = (ws.length = 8) := iEq (b := 8) (by omega) (by omega)
        simp only [e8]
        rw [if_neg (fun z => z c), if_pos (by omega), e1]
        simp only [Option.bind_some, e2]
        rw [nI_add, hl2]
      obtain ⟨R', g3, h3, c3, w3, e3⟩ := M_words hl k (pE tp n i) _ R2 (by rw [hl2]; omega) h2 c2 w2
      rw [lp_on (f := fun q : Int32 × RS => M_phrase_l24 q.2 x w0 q.1) (a := (nI ws.length, R)) hstep]
      exact ⟨R', ((g1.mono (W' := wPw) (fun t c j z => by unfold wWd at z; unfold wPw; omega)).tr g2 (fun t c j z => by unfold wRd at z; unfold wPw; omega)).tr g3 (fun _ _ _ z => z), h3, c3, w3, e3⟩
    · rw [if_neg c]
      refine ⟨R, Rp.rf, h, hc, hW, .inl ⟨lp_out ?_, c⟩⟩
      show M_phrase_l24 R x w0 (nI ws.length) = some (.inr (.inr (nI ws.length, R)))
      unfold M_phrase_l24
      rw [hc.2.1, show (1 : Int32) = nI 1 from rfl]
      simp only [rk_1 hk]
      rw [if_pos c]
theorem wPw_wAs : ∀ t c j, wPw t c j → wAs t c j := fun t c j z => by unfold wPw at z; unfold wAs; omega
theorem af_of {R m : RS} {v : Int32} (g : Rp wAs R m) : Rp wAf R (pI m 45 v) := (g.mono (fun _ _ _ z => .inl z)).tr rp_fl (fun _ _ _ z => .inr z)
theorem M_phrase_ok {R : RS} {tp : Nat → Nat} {n i : Nat} {st sp : Bool} {g : Option Nat} {O : List OpT} {Ws : List (List Nat × Nat)} (h : rEnv R tp n st sp) (hc : rPc R tp n i) (hO : rO R O) (hl : O.length < 400) (hW : rW R Ws) (hlw : Ws.length + 8 ≤ 400) : ∃ z, M_phrase R (fI g) = some z ∧ qaR R tp n st sp O Ws (qPhrase st sp tp n g i) z := by
  have hn := h.1
  obtain ⟨R1, e1, g1, c1, h1⟩ := rdv h hc
  have W1 := hW.rp g1 (by unfold wRd; omega) (fun c j z1 z2 z => by unfold wRd at z; omega)
  have O1 := hO.rp g1 (by unfold wRd; omega) (fun c j z1 z2 z => by unfold wRd at z; omega)
  have G1 : Rp wAs R R1 := g1.mono wRd_wAs
  have hi1 := c1.1
  unfold M_phrase qPhrase
  rw [e1]
  simp only [Option.bind_some]
  have hk1 := h1.k c1.1
  rw [c1.2.1, show (1 : Int32) = nI 1 from rfl]
  simp only [rk_1 hk1]
  obtain ⟨q1, q2, q3⟩ := qWords_inv (st := st) (sp := sp) h.tp hn 8 (pE tp n i) [] hi1
  by_cases k1 : pK tp n (pE tp n i) = 256
  · rw [if_pos k1, W1.1]
    obtain ⟨R2, g2, h2, c2, w2, e2⟩ := M_words (x := fI g) (w0 := nI Ws.length) hlw 8 (pE tp n i) [] R1 rfl h1 c1 (by rw [List.append_nil]; exact W1)
    have hne : (qWords st sp tp n 8 (pE tp n i) []).2 ≠ [] := by
      unfold qWords
      rw [if_pos k1]
      have := (qWords_inv (st := st) (sp := sp) h.tp hn 7 (pE tp n (pE tp n i)) ([] ++ [(mkT st sp tp (pS tp n (pE tp n i)) (pE tp n (pE tp n i) - pS tp n (pE tp n i)), ([] : List (List Nat × Nat)).length)]) (pE_b hi1).2).2.1
      intro z
      rw [z] at this
      simp at this
    have O2 := O1.rp g2 (by unfold wPw; omega) (fun c j z1 z2 z => by unfold wPw at z; omega)
    have G2 := G1.tr g2 wPw_wAs
    generalize hr : qWords st sp tp n 8 (pE tp n i) [] = r at *
    obtain ⟨i3, ws⟩ := r
    simp only at c2 w2 e2 hne q1 q2 q3 ⊢
    have hk2 := h2.k c2.1
    rcases e2 with ⟨e2, k2⟩ | ⟨e2, k2⟩
    · have e2 : lp (fun q : Int32 × RS => M_phrase_l24 q.2 (fI g) (nI Ws.length) q.1) (0, R1) = some (.inr (nI ws.length, R2)) := e2
      rw [e2]
      simp only [Option.bind_some, se_r]
      rw [c2.2.1, show (34 : Int32) = nI 34 from rfl]
      simp only [rk_c hk2 (c := 34) (by decide)]
      by_cases c34 : pK tp n i3 = 34
      · rw [if_pos c34, if_neg (fun z => z.elim hne (fun y => y c34))]
        obtain ⟨R3, e3, g3, c3, h3⟩ := rdv h2 c2
        have hk3 := h3.k c3.1
        have O3 := O2.rp g3 (by unfold wRd; omega) (fun c j z1 z2 z => by unfold wRd at z; omega)
        have W3 := w2.rp g3 (by unfold wRd; omega) (fun c j z1 z2 z => by unfold wRd at z; omega)
        have G3 := G2.tr g3 wRd_wAs
        rw [e3]
        simp only [Option.bind_some]
        rw [c3.2.1, show (126 : Int32) = nI 126 from rfl]
        simp only [rk_c hk3 (c := 126) (by decide)]
        have hfin : ∀ (m : RS) (v j : Nat), Rp wAs R m → rEnv m tp n st sp → rPc m tp n j → rO m O → rW m (Ws ++ ws) → ∃ z, ((M_emit m 3 (fI g) (nI Ws.length) (16 * nI v + nI ws.length)).bind fun v18 => some (true, v18)) = some z ∧ qaR R tp n st sp O Ws (.inr (j, 3, g, ws, v, 0, 0, 0)) z := fun m v j Gm hm cm Om Wm => by
          obtain ⟨R5, e5, g5, o5⟩ := M_emit_ok Om hl 3 (fI g) (nI Ws.length) (nI (16 * v + ws.length))
          rw [show (3 : Int32) = nI 3 from rfl, show (16 : Int32) = nI 16 from rfl, nI_mul, nI_add, e5]
          exact ⟨_, rfl, rfl, Gm.tr g5 wEm_wAs, hm.rp g5 wEm_env, cm.rp g5 (fun j z1 z2 z => by unfold wEm at z; omega), o5, Wm.rp g5 (by unfold wEm; omega) (fun c j z1 z2 z => by unfold wEm at z; omega)⟩
        by_cases c126 : pK tp n (pE tp n i3) = 126
        · rw [if_neg (fun z => z c126), if_pos c126]
          obtain ⟨R4, e4, g4, c4, h4⟩ := rdv h3 c3
          have O4 := O3.rp g4 (by unfold wRd; omega) (fun c j z1 z2 z => by unfold wRd at z; omega)
          have W4 := W3.rp g4 (by unfold wRd; omega) (fun c j z1 z2 z => by unfold wRd at z; omega)
          have G4 := G3.tr g4 wRd_wAs
          rw [e4]
          simp only [Option.bind_some]
          rcases M_digit_ok h4 c4 (lo := 0) (by decide) with ⟨v, R5, hq, -, e5, g5, c5, h5⟩ | ⟨hq, e5⟩
          · have e5 : M_digit R4 0 = some (nI v, R5) := e5
            rw [e5]
            simp only [Option.bind_some]
            rw [if_pos (show R5.1 0 45 = -nI 1 from h5.2.2.2.2.2), hq]
            simp only [jn_r]
            exact hfin R5 v _ (G4.tr g5 wRd_wAs) h5 c5 (O4.rp g5 (by unfold wRd; omega) (fun c j z1 z2 z => by unfold wRd at z; omega)) (W4.rp g5 (by unfold wRd; omega) (fun c j z1 z2 z => by unfold wRd at z; omega))
          · have e5 : M_digit R4 0 = some (0, pI R4 45 (nI (pS tp n (pE tp n (pE tp n i3))))) := e5
            have hq0 : qNum tp n 1 (pE tp n (pE tp n i3)) = none := by
              cases hh : qNum tp n 1 (pE tp n (pE tp n i3)) with
              | none => rfl
              | some v => exact absurd (hq v hh) (Nat.not_lt_zero _)
            rw [e5]
            simp only [Option.bind_some]
            have hps := pS_lt (tp := tp) c4.1 hn
            rw [if_neg (by rw [fl45]; exact nI_n1 (by omega)), hq0]
            exact ⟨_, rfl, rfl, fl45, hps, af_of G4⟩
        · rw [if_pos c126, if_neg c126]
          simp only [jn_r]
          exact hfin R3 0 _ G3 h3 c3 O3 W3
      · rw [if_neg c34, if_pos (.inr c34), M_fails_ok h2]
        exact ⟨_, rfl, rfl, by rw [fl45]; exact c2.2.2.1, pS_lt c2.1 hn, af_of G2⟩
    · have e2 : lp (fun q : Int32 × RS => M_phrase_l24 q.2 (fI g) (nI Ws.length) q.1) (0, R1) = some (.inl R2) := e2
      rw [e2]
      simp only [Option.bind_some, se_l]
      rw [M_fails_ok h2, if_pos (.inr (by rw [k2]; decide))]
      exact ⟨_, rfl, rfl, by rw [fl45]; exact c2.2.2.1, pS_lt c2.1 hn, af_of G2⟩
  · rw [if_neg k1, M_fails_ok h1]
    have hr : qWords st sp tp n 8 (pE tp n i) [] = (pE tp n i, []) := by
      unfold qWords
      rw [if_neg k1]
    rw [hr]
    simp only [true_or, if_true]
    exact ⟨_, rfl, rfl, by rw [fl45]; exact c1.2.2.1, pS_lt c1.1 hn, af_of G1⟩
theorem M_atom_ok {R : RS} {tp : Nat → Nat} {n i : Nat} {st sp : Bool} {O : List OpT} {Ws : List (List Nat × Nat)} (h : rEnv R tp n st sp) (hc : rPc R tp n i) (hO : rO R O) (hl : O.length < 400) (hW : rW R Ws) (hlw : Ws.length + 8 ≤ 400) : ∃ z, M_atom R = some z ∧ qaR R tp n st sp O Ws (qAtom st sp tp n i) z := by
  have hn := h.1
  have hk := h.k hc.1
  have hb := pE_b (tp := tp) hc.1
  unfold M_atom qAtom
  rw [hc.2.1, show (91 : Int32) = nI 91 from rfl]
  simp only [rk_c hk (c := 91) (by decide)]
  by_cases c91 : pK tp n i = 91
  · rw [if_neg (fun z => z c91), if_pos c91]
    obtain ⟨z, e1, e2⟩ := M_range_ok h hc hO hl hW
    rw [e1]
    exact ⟨z, rfl, e2⟩
  · rw [if_pos c91, if_neg c91, M_isField_ok h hc]
    simp only [Option.bind_some]
    -- behind the field
    have key : ∀ (m : RS) (g : Option Nat) (j : Nat), Rp wRd R m → rEnv m tp n st sp → rPc m tp n j → ∃ z, (if ¬ m.1 0 40 = 34 then (if m.1 0 40 = 1 then (lp (fun q : Int32 => M_atom_l84 m (fI g) q) (m.1 0 43)).bind fun z16 => Option.bind (if m.1 0 44 ≤ z16 then some false else (rdI m 1 600 z16).bind fun v19 => if ¬ v19 = 42 then some false else some true) fun q17 => (M_word m 0 q17).bind fun v21 => (M_read v21).bind fun v22 => Option.bind (if q17 = true then (M_read v22).bind fun v25 => some v25 else some v22) fun q23 => Option.bind (if q17 = true then some 2 else some 1) fun q26 => (M_emit q23 q26 (fI g) (q23.1 0 51 - 1) 1).bind fun v28 => some (true, v28) else (M_fails m).bind fun v29 => some (v29.1, v29.2)) else (M_phrase m (fI g)).bind fun v30 => some (v30.1, v30.2)) = some z ∧ qaR R tp n st sp O Ws (if pK tp n j = 34 then qPhrase st sp tp n g j else if pK tp n j = 256 then .inr (qTerm st sp tp n g j) else .inl (pS tp n j)) z := fun m g j Gm hm cm => by
      have hkm := hm.k cm.1
      have Om := hO.rp Gm (by unfold wRd; omega) (fun c j z1 z2 z => by unfold wRd at z; omega)
      have Wm := hW.rp Gm (by unfold wRd; omega) (fun c j z1 z2 z => by unfold wRd at z; omega)
      have GmA : Rp wAs R m := Gm.mono wRd_wAs
      have hbm := pE_b (tp := tp) cm.1
      rw [cm.2.1, show (34 : Int32) = nI 34 from rfl, show (1 : Int32) = nI 1 from rfl]
      simp only [rk_c hkm (c := 34) (by decide), rk_1 hkm]
      by_cases c34 : pK tp n j = 34
      · rw [if_neg (fun z => z c34), if_pos c34]
        obtain ⟨z, e1, e2⟩ := M_phrase_ok (g := g) hm cm Om hl Wm hlw
        rw [e1]
        refine ⟨z, rfl, ?_⟩
        cases hq : qPhrase st sp tp n g j with
        | inl p =>
          rw [hq] at e2
          obtain ⟨a1, a2, a3, a4⟩ := e2
          exact ⟨a1, a2, a3, (GmA.mono (W' := wAf) (fun _ _ _ z => .inl z)).tr a4 (fun _ _ _ z => z)⟩
        | inr r =>
          obtain ⟨j2, y⟩ := r
          rw [hq] at e2
          obtain ⟨a1, a2, a3⟩ := e2
          exact ⟨a1, GmA.tr a2 (fun _ _ _ z => z), a3⟩
      · rw [if_pos c34, if_neg c34]
        by_cases k2 : pK tp n j = 256
        · rw [if_pos k2, if_pos k2]
          have hlp : lp (fun q : Int32 => M_atom_l84 m (fI g) q) (nI (pE tp n j)) = some (nI (pS tp n (pE tp n j))) := by
            refine lp_run (p := fun j => decide (tp j = 32)) (n - pE tp n j) (pE tp n j) (fun x h1 h2 h3 => ?_) ?_
            · obtain ⟨u1, u2⟩ := h.2.1 x (by omega)
              obtain ⟨u1, u2⟩ := hm.2.1 x (by omega)
              have h3 : tp x = 32 := of_decide_eq_true h3
              unfold M_atom_l84
              rw [hm.2.2.2.2.1]
              simp (disch := omega) only [iLe]
              rw [if_neg (by omega), rdI_ok (by omega) (by omega), u2, h3]
              rw [show (1 : Int32) = nI 1 from rfl, nI_add]
              rfl
            · show M_atom_l84 m (fI g) (nI (pS tp n (pE tp n j))) = some (.inr (nI (pS tp n (pE tp n j))))
              have hr := pS_b (tp := tp) hbm.2
              unfold M_atom_l84
              rw [hm.2.2.2.2.1]
              simp (disch := omega) only [iLe]
              by_cases c : n ≤ pS tp n (pE tp n j)
              · rw [if_pos c]
              · rw [if_neg c]
                obtain ⟨u1, u2⟩ := hm.2.1 (pS tp n (pE tp n j)) (by omega)
                have c2 := run_out (fun j => decide (tp j = 32)) (n - pE tp n j) (pE tp n j) (by unfold pS at c; omega)
                rw [decide_eq_false_iff_not] at c2
                have c2 : ¬ tp (pS tp n (pE tp n j)) = 32 := c2
                rw [rdI_ok (by omega) (by omega), u2]
                simp only [Option.bind_some]
                rw [if_pos]
                rw [show (32 : Int32) = nI 32 from rfl, iEq (by omega) (by omega)]
                exact c2
          have hlast : (if m.1 0 44 ≤ nI (pS tp n (pE tp n j)) then some false else (rdI m 1 600 (nI (pS tp n (pE tp n j)))).bind fun v19 => if ¬ v19 = 42 then some false else some true) = some (decide (pK tp n (pE tp n j) = 42)) := by
            have hr := pS_b (tp := tp) hbm.2
            simp only [pK_c (show 42 < 256 by decide) (show isL 42 = false by decide)]
            rw [hm.2.2.2.2.1, show (42 : Int32) = nI 42 from rfl]
            have e : (nI n ≤ nI (pS tp n (pE tp n j))) = (n ≤ pS tp n (pE tp n j)) := iLe (by omega) (by omega)
            simp only [e]
            by_cases c : n ≤ pS tp n (pE tp n j)
            · rw [if_pos c, decide_eq_false (fun z => by omega)]
            · rw [if_neg c]
              obtain ⟨u1, u2⟩ := hm.2.1 (pS tp n (pE tp n j)) (by omega)
              rw [rdI_ok (by omega) (by omega), u2]
              simp only [Option.bind_some]
              have e2 : (nI (tp (pS tp n (pE tp n j))) = nI 42) = (tp (pS tp n (pE tp n j)) = 42) := iEq (by omega) (by omega)
              simp only [e2]
              by_cases z : tp (pS tp n (pE tp n j)) = 42
              · rw [if_neg (fun y => y z), decide_eq_true ⟨by omega, z⟩]
              · rw [if_pos z, decide_eq_false (fun y => z y.2)]
          rw [cm.2.2.2.2, hlp]
          simp only [Option.bind_some]
          rw [hlast]
          simp only [Option.bind_some]
          obtain ⟨R1, e1, g1, w1, h1, c1⟩ := M_word_ok (m := 0) (starts := decide (pK tp n (pE tp n j) = 42)) hm cm k2 Wm (by omega)
          have e1 : M_word m 0 (decide (pK tp n (pE tp n j) = 42)) = some R1 := e1
          rw [e1]
          simp only [Option.bind_some]
          obtain ⟨R2, e2, g2, c2, h2⟩ := rdv h1 c1
          rw [e2]
          simp only [Option.bind_some]
          have O2 := (Om.rp g1 (by unfold wWd; omega) (fun c j z1 z2 z => by unfold wWd at z; omega)).rp g2 (by unfold wRd; omega) (fun c j z1 z2 z => by unfold wRd at z; omega)
          have W2 := w1.rp g2 (by unfold wRd; omega) (fun c j z1 z2 z => by unfold wRd at z; omega)
          have G2 := (GmA.tr g1 wWd_wAs).tr g2 wRd_wAs
          have hlw2 : ∀ t : List Nat, (Ws ++ [(t, 0)]).length = Ws.length + 1 := fun t => by rw [List.length_append]; rfl
          unfold qTerm
          by_cases c42 : pK tp n (pE tp n j) = 42
          · rw [decide_eq_true c42] at W2 ⊢
            rw [if_pos rfl, if_pos c42]
            rw [if_pos rfl] at W2
            obtain ⟨R3, e3, g3, c3, h3⟩ := rdv h2 c2
            have O3 := O2.rp g3 (by unfold wRd; omega) (fun c j z1 z2 z => by unfold wRd at z; omega)
            have W3 := W2.rp g3 (by unfold wRd; omega) (fun c j z1 z2 z => by unfold wRd at z; omega)
            rw [e3]
            simp only [Option.bind_some, if_true]
            obtain ⟨R4, e4, g4, o4⟩ := M_emit_ok O3 hl 2 (fI g) (nI Ws.length) 1
            rw [W3.1, hlw2, iSub (by omega), show Ws.length + 1 - 1 = Ws.length by omega, show (2 : Int32) = nI 2 from rfl]
            have e4 : M_emit R3 (nI 2) (fI g) (nI Ws.length) (nI 1) = some R4 := e4
            rw [e4]
            exact ⟨_, rfl, rfl, (G2.tr g3 wRd_wAs).tr g4 wEm_wAs, h3.rp g4 wEm_env, c3.rp g4 (fun j z1 z2 z => by unfold wEm at z; omega), o4, W3.rp g4 (by unfold wEm; omega) (fun c j z1 z2 z => by unfold wEm at z; omega)⟩
          · rw [decide_eq_false c42] at W2 ⊢
            rw [if_neg (by decide), if_neg c42]
            rw [if_neg (by decide)] at W2
            simp only [Option.bind_some, Bool.false_eq_true, if_false]
            obtain ⟨R4, e4, g4, o4⟩ := M_emit_ok O2 hl 1 (fI g) (nI Ws.length) 1
            rw [W2.1, hlw2, iSub (by omega), show Ws.length + 1 - 1 = Ws.length by omega]
            have e4 : M_emit R2 (nI 1) (fI g) (nI Ws.length) (nI 1) = some R4 := e4
            rw [e4]
            exact ⟨_, rfl, rfl, G2.tr g4 wEm_wAs, h2.rp g4 wEm_env, c2.rp g4 (fun j z1 z2 z => by unfold wEm at z; omega), o4, W2.rp g4 (by unfold wEm; omega) (fun c j z1 z2 z => by unfold wEm at z; omega)⟩
        · rw [if_neg k2, if_neg k2, M_fails_ok hm]
          exact ⟨_, rfl, rfl, by rw [fl45]; exact cm.2.2.1, pS_lt cm.1 hn, af_of GmA⟩
    cases hf : qFld tp n i with
    | none =>
      simp only [Option.isSome_none, Bool.false_eq_true, if_false, Option.bind_some]
      exact key R none i Rp.rf h hc
    | some f =>
      simp only [Option.isSome_some, if_true]
      have hfn : fnA tp n i = some f := by
        rw [qFld_eq] at hf
        split at hf
        · exact hf
        · cases hf
      have hw : pK tp n i = 256 ∧ (if ¬ tp (pS tp n i) = 116 then (1 : Nat) else 0) = f ∧ pS tp n i < n := by
        unfold fnA at hfn
        have hS := pS_b (tp := tp) hc.1
        by_cases z : isNm tp (pS tp n i) (pE tp n i) [116, 105, 116, 108, 101] = true
        · rw [if_pos z] at hfn
          cases hfn
          rw [isNm_5] at z
          have z := of_decide_eq_true z
          refine ⟨?_, by rw [if_neg (fun y => y z.2.1)], by omega⟩
          refine Classical.byContradiction (fun y => ?_)
          have := pE_le1 hc.1 y
          omega
        · rw [if_neg z] at hfn
          by_cases z2 : isNm tp (pS tp n i) (pE tp n i) [98, 111, 100, 121] = true
          · rw [if_pos z2] at hfn
            cases hfn
            rw [isNm_4] at z2
            have z := of_decide_eq_true z2
            refine ⟨?_, by rw [if_pos (by omega)], by omega⟩
            refine Classical.byContradiction (fun y => ?_)
            have := pE_le1 hc.1 y
            omega
          · rw [if_neg z2] at hfn
            cases hfn
      obtain ⟨u1, u2⟩ := h.2.1 (pS tp n i) (by omega)
      obtain ⟨R1, e1, g1, c1, h1⟩ := rdv h hc
      obtain ⟨R2, e2, g2, c2, h2⟩ := rdv h1 c1
      rw [hc.2.2.1, rdI_ok (by omega) (by omega), u2]
      simp only [Option.bind_some]
      have e116 : (if ¬ nI (tp (pS tp n i)) = 116 then some (1 : Int32) else some 0) = some (fI (some f)) := by
        rw [fI_s, show (116 : Int32) = nI 116 from rfl, ← hw.2.1]
        have e : (nI (tp (pS tp n i)) = nI 116) = (tp (pS tp n i) = 116) := iEq (by omega) (by omega)
        simp only [e]
        by_cases z : tp (pS tp n i) = 116
        · rw [if_neg (fun y => y z), if_neg (fun y => y z)]; rfl
        · rw [if_pos z, if_pos z]; rfl
      rw [e116]
      simp only [Option.bind_some, e1, e2]
      have c34 : ¬ pK tp n i = 34 := by omega
      rw [if_neg c34, if_pos hw.1]
      exact key R2 (some f) _ (g1.tr g2 (fun _ _ _ z => z)) h2 c2
