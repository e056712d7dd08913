/-! the reference's parser: ranges, fields, phrases, atoms -/
def wAs : Nat → Nat → Nat → Prop := fun t c j => t = 0 ∧ ((c = 0 ∧ (j = 38 ∨ (40 ≤ j ∧ j ≤ 43) ∨ j = 50 ∨ j = 51)) ∨ c = 27 ∨ (29 ≤ c ∧ c ≤ 35))
def wAf : Nat → Nat → Nat → Prop := fun t c j => wAs t c j ∨ wFl t c j
theorem wRd_wAs : ∀ t c j, wRd t c j → wAs t c j := fun t c j z => by unfold wRd at z; unfold wAs; omega
theorem wEm_wAs {N : Nat} : ∀ t c j, wEm N t c j → wAs t c j := fun t c j z => by unfold wEm at z; unfold wAs; omega
theorem wWd_wAs {N : Nat} : ∀ t c j, wWd N t c j → wAs t c j := fun t c j z => by unfold wWd at z; unfold wAs; omega
theorem wAs_env : ∀ t c j, wAs t c j → ¬ (t = 0 ∧ c = 1) ∧ ¬ (t = 0 ∧ c = 0 ∧ (j = 44 ∨ j = 45)) ∧ ¬ (t = 3 ∧ c = 0) := fun t c j z => by unfold wAs at z; omega
def qaR (R : RS) (tp : Nat → Nat) (n : Nat) (st sp : Bool) (O : List OpT) (Ws : List (List Nat × Nat)) (r : Nat ⊕ (Nat × AtX)) (z : Bool × RS) : Prop := match r with
  | .inl p => z.1 = false ∧ z.2.1 0 45 = nI p ∧ p < 1000 ∧ Rp wAf R z.2
  | .inr (j, y) => z.1 = true ∧ Rp wAs R z.2 ∧ rEnv z.2 tp n st sp ∧ rPc z.2 tp n j ∧ rO z.2 (O ++ [atO y Ws.length]) ∧ rW z.2 (Ws ++ atW y)
theorem pK_c {tp : Nat → Nat} {n i c : Nat} (hc : c < 256) (hl : isL c = false) : pK tp n i = c ↔ pS tp n i < n ∧ tp (pS tp n i) = c := by
  unfold pK
  by_cases z : pS tp n i < n
  · rw [if_pos z]
    by_cases y : isL (tp (pS tp n i)) = true
    · rw [if_pos y]
      refine ⟨fun x => by omega, fun x => ?_⟩
      rw [x.2, hl] at y
      cases y
    · rw [if_neg y]
      exact ⟨fun x => ⟨z, x⟩, fun x => x.2⟩
  · rw [if_neg z]
    exact ⟨fun x => by omega, fun x => absurd x.1 z⟩
theorem pE_le1 {tp : Nat → Nat} {n i : Nat} (h : i ≤ n) (hk : pK tp n i ≠ 256) : pE tp n i - pS tp n i ≤ 1 := by
  by_cases c : pK tp n i = 257
  · unfold pK at c
    unfold pE
    by_cases z : pS tp n i < n
    · rw [if_pos z] at c
      by_cases y : isL (tp (pS tp n i)) = true
      · rw [if_pos y] at c
        omega
      · rw [if_pos z, if_neg y]
        omega
    · rw [if_neg z]
      omega
  · have := (pE_1 h c hk).1
    omega
theorem isNm_1 {tp : Nat → Nat} {n i c : Nat} (h : i ≤ n) (hl : isL c = true) : isNm tp (pS tp n i) (pE tp n i) [c] = decide (pK tp n i = 256 ∧ pE tp n i - pS tp n i = 1 ∧ tp (pS tp n i) = c) := by
  unfold isNm
  rw [decide_eq_decide]
  constructor
  · rintro ⟨a, b⟩
    have a : pE tp n i - pS tp n i = 1 := a
    have b : tp (pS tp n i) = c := b 0 (show 0 < 1 by decide)
    refine ⟨?_, a, b⟩
    have hb := pE_b (tp := tp) h
    unfold pK
    rw [if_pos (by omega), b, if_pos hl]
  · rintro ⟨-, a, b⟩
    refine ⟨a, fun k hk => ?_⟩
    have hk : k < 1 := hk
    rw [show k = 0 by omega]
    exact b
theorem rOne {R : RS} {tp : Nat → Nat} {n i c : Nat} {st sp : Bool} (h : rEnv R tp n st sp) (hc : rPc R tp n i) (hl : isL c = true) (hlt : c < 256) : (if ¬ R.1 0 40 = 1 then some (0 : Int32) else if ¬ R.1 0 42 = 1 then some 0 else (rdI R 1 600 (R.1 0 41)).bind fun v5 => if ¬ v5 = nI c then some 0 else some 1) = some (nI (if isNm tp (pS tp n i) (pE tp n i) [c] = true then 1 else 0)) := by
  have hk := h.k hc.1
  have hn := h.1
  have hb := pE_b (tp := tp) hc.1
  rw [hc.2.1, hc.2.2.1, hc.2.2.2.1, isNm_1 hc.1 hl, show (1 : Int32) = nI 1 from rfl]
  simp only [rk_1 hk]
  by_cases k : pK tp n i = 256
  · rw [if_neg (fun z => z k), if_pos k]
    have e : (nI (pE tp n i - pS tp n i) = nI 1) = (pE tp n i - pS tp n i = 1) := iEq (by omega) (by omega)
    simp only [e]
    by_cases y : pE tp n i - pS tp n i = 1
    · obtain ⟨u1, u2⟩ := h.2.1 (pS tp n i) (by omega)
      rw [if_neg (fun z => z y), rdI_ok (by omega) (by omega), u2]
      simp only [Option.bind_some]
      have e2 : (nI (tp (pS tp n i)) = nI c) = (tp (pS tp n i) = c) := iEq (by omega) (by omega)
      simp only [e2]
      by_cases x : tp (pS tp n i) = c
      · rw [if_neg (fun z => z x), if_pos (decide_eq_true ⟨k, y, x⟩)]
      · rw [if_pos x, if_neg (fun z => x (of_decide_eq_true z).2.2)]
        rfl
    · rw [if_pos y, if_neg (fun z => y (of_decide_eq_true z).2.1)]
      rfl
  · rw [if_pos k, if_neg (fun z => k (of_decide_eq_true z).1)]
    rfl
theorem b01 (b : Bool) : (nI (if b = true then 1 else 0) = 0) = (b = false) := by
  cases b
  · exact propext ⟨fun _ => rfl, fun _ => rfl⟩
  · exact propext ⟨fun z => absurd z (by decide), fun z => by cases z⟩
theorem pS_lt {tp : Nat → Nat} {n i : Nat} (h : i ≤ n) (hn : n ≤ 600) : pS tp n i < 1000 := by
  have := pS_b (tp := tp) h
  omega
theorem M_range_ok {R : RS} {tp : Nat → Nat} {n i : Nat} {st sp : Bool} {O : List OpT} {Ws : List (List Nat × Nat)} (h : rEnv R tp n st sp) (hc : rPc R tp n i) (hO : rO R O) (hl : O.length < 400) (hW : rW R Ws) : ∃ z, M_range R = some z ∧ qaR R tp n st sp O Ws (qRange tp n i) z := by
  have hn := h.1
  obtain ⟨R1, e1, g1, c1, h1⟩ := rdv h hc
  have f1 := M_fails_ok h1
  have hb := pE_b (tp := tp) hc.1
  unfold M_range qRange
  rw [e1]
  simp only [Option.bind_some]
  rw [show (120 : Int32) = nI 120 from rfl, show (121 : Int32) = nI 121 from rfl, rOne h1 c1 (c := 120) (by decide) (by decide)]
  simp only [Option.bind_some]
  rw [rOne h1 c1 (c := 121) (by decide) (by decide)]
  simp only [Option.bind_some]
  have hp1 := pS_lt (tp := tp) c1.1 hn
  have gf : ∀ {m : RS} {v : Int32}, Rp wAs R m → Rp wAf R (pI m 45 v) := fun g => (g.mono (fun _ _ _ z => .inl z)).tr rp_fl (fun _ _ _ z => .inr z)
  have G1 : Rp wAs R R1 := g1.mono wRd_wAs
  simp only [b01]
  generalize hj : pE tp n i = j at *
  generalize isNm tp (pS tp n j) (pE tp n j) [120] = bx at *
  generalize isNm tp (pS tp n j) (pE tp n j) [121] = bY at *
  by_cases hxy : bx = true ∨ bY = true
  · have ex : (if ¬ bx = false then some (Sum.inr () : (Bool × RS) ⊕ Unit) else if ¬ bY = false then some (Sum.inr ()) else (M_fails R1).bind fun v15 => some (Sum.inl (v15.1, v15.2))) = some (Sum.inr ()) := by
      cases bx
      · cases bY
        · rcases hxy with z | z <;> cases z
        · rfl
      · rfl
    rw [ex, if_pos hxy]
    simp only [jn_r]
    obtain ⟨R2, e2, g2, c2, h2⟩ := rdv h1 c1
    have G2 := G1.tr g2 (fun _ _ _ z => wRd_wAs _ _ _ z)
    rw [e2]
    simp only [Option.bind_some]
    have n1 := M_number_ok h2 c2
    cases hq : qInt tp n (pE tp n j) with
    | inl p =>
      rw [hq] at n1
      obtain ⟨R3, e3, v3, l3, g3⟩ := n1
      rw [e3]
      simp only [Option.bind_some]
      rw [if_neg (by rw [v3]; exact nI_n1 (by omega))]
      exact ⟨_, rfl, rfl, v3, l3, (G2.mono (fun _ _ _ z => .inl z)).tr g3 (fun _ _ _ z => .inr z)⟩
    | inr r =>
      obtain ⟨j3, a⟩ := r
      rw [hq] at n1
      obtain ⟨R3, e3, g3, c3, h3⟩ := n1
      have G3 := G2.tr g3 (fun _ _ _ z => wRd_wAs _ _ _ z)
      rw [e3]
      simp only [Option.bind_some]
      rw [if_pos h3.2.2.2.2.2]
      have n2 := M_number_ok h3 c3
      cases hq2 : qInt tp n j3 with
      | inl p =>
        rw [hq2] at n2
        obtain ⟨R4, e4, v4, l4, g4⟩ := n2
        rw [e4]
        simp only [Option.bind_some, hq2]
        rw [if_neg (by rw [v4]; exact nI_n1 (by omega))]
        exact ⟨_, rfl, rfl, v4, l4, (G3.mono (fun _ _ _ z => .inl z)).tr g4 (fun _ _ _ z => .inr z)⟩
      | inr r =>
        obtain ⟨j4, b⟩ := r
        rw [hq2] at n2
        obtain ⟨R4, e4, g4, c4, h4⟩ := n2
        have G4 := G3.tr g4 (fun _ _ _ z => wRd_wAs _ _ _ z)
        rw [e4]
        simp only [Option.bind_some, hq2]
        rw [if_pos h4.2.2.2.2.2, c4.2.1, show (93 : Int32) = nI 93 from rfl]
        simp only [rk_c (h4.k c4.1) (c := 93) (by decide)]
        by_cases c93 : pK tp n j4 = 93
        · rw [if_pos c93, if_pos c93]
          obtain ⟨R5, e5, g5, c5, h5⟩ := rdv h4 c4
          have G5 := G4.tr g5 (fun _ _ _ z => wRd_wAs _ _ _ z)
          rw [e5]
          simp only [Option.bind_some]
          have ew : (if bx = false then some (1 : Int32) else some 0) = some (nI (if bx = true then 0 else 1)) := by cases bx <;> rfl
          rw [ew]
          simp only [Option.bind_some]
          have hrd : Rp wRd R R5 := (((g1.tr g2 (fun _ _ _ z => z)).tr g3 (fun _ _ _ z => z)).tr g4 (fun _ _ _ z => z)).tr g5 (fun _ _ _ z => z)
          have O5 : rO R5 O := hO.rp hrd (by unfold wRd; omega) (fun c j z1 z2 z => by unfold wRd at z; omega)
          have W5 : rW R5 Ws := hW.rp hrd (by unfold wRd; omega) (fun c j z1 z2 z => by unfold wRd at z; omega)
          obtain ⟨R6, e6, g6, o6⟩ := M_emit_ok O5 hl 4 (nI (if bx = true then 0 else 1)) a b
          rw [show (4 : Int32) = nI 4 from rfl, e6]
          refine ⟨_, rfl, rfl, G5.tr g6 wEm_wAs, h5.rp g6 wEm_env, c5.rp g6 (fun j z1 z2 z => by unfold wEm at z; omega), o6, ?_⟩
          show rW R6 (Ws ++ [])
          rw [List.append_nil]
          exact W5.rp g6 (by unfold wEm; omega) (fun c j z1 z2 z => by unfold wEm at z; omega)
        · rw [if_neg c93, if_neg c93, M_fails_ok h4]
          exact ⟨_, rfl, rfl, by rw [fl45]; exact c4.2.2.1, pS_lt c4.1 hn, gf G4⟩
  · have ex : (if ¬ bx = false then some (Sum.inr () : (Bool × RS) ⊕ Unit) else if ¬ bY = false then some (Sum.inr ()) else (M_fails R1).bind fun v15 => some (Sum.inl (v15.1, v15.2))) = some (Sum.inl (false, pI R1 45 (R1.1 0 41))) := by
      cases bx
      · cases bY
        · rw [if_neg (fun z => z rfl), if_neg (fun z => z rfl), f1]
          rfl
        · exact absurd (.inr rfl) hxy
      · exact absurd (.inl rfl) hxy
    rw [ex, if_neg hxy]
    exact ⟨_, rfl, rfl, by rw [fl45]; exact c1.2.2.1, hp1, gf G1⟩
