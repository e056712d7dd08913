/-! the engine's constructor: its views -/
theorem cMore.kp {n w : Nat} {σ m : Mem} {W : Nat → Nat → Nat → Prop} (h : cMore n w σ m) (hr : ∀ a k, a < gN σ → ¬ W 2 a k → gR m a k = gR σ a k) : Kp W σ m := by
  obtain ⟨h1, h2, h3, h4, h5, h6, h7⟩ := h
  exact ⟨by omega, h3, fun a k ha => ⟨fun _ => by rw [h4], fun _ => by rw [h5], fun q => hr a k ha q, fun _ => by rw [h6]⟩⟩
def vTg (σ : Mem) (p : Nat) : Prop := gT σ p = (9, 0) ∧ gT σ (p + 1) = (105, 16) ∧ gT σ (p + 2) = (104, 400) ∧ gT σ (p + 3) = (103, 400) ∧ gR σ p 1 = some (p + 1) ∧ gR σ p 3 = some (p + 2) ∧ gR σ p 4 = some (p + 3)
theorem vTg.kp {σ σ' : Mem} {p : Nat} {W : Nat → Nat → Nat → Prop} (h : vTg σ p) (hk : Kp W σ σ') (hN : p + 4 ≤ gN σ) (hw : ∀ k, ¬ W 2 p k) : vTg σ' p := by
  obtain ⟨a, b, c, d, r1, r2, r3⟩ := h
  refine ⟨?_, ?_, ?_, ?_, ?_, ?_, ?_⟩
  · rw [hk.T (by omega)]; exact a
  · rw [hk.T (by omega)]; exact b
  · rw [hk.T (by omega)]; exact c
  · rw [hk.T (by omega)]; exact d
  · rw [hk.R (by omega) (hw _)]; exact r1
  · rw [hk.R (by omega) (hw _)]; exact r2
  · rw [hk.R (by omega) (hw _)]; exact r3
theorem view_step {s : Mem} {th r k : Nat} (hz : zN s) (ht : (gT s th).1 = 11) (hlt : th < gN s) (hr : gR s th 11 = some r) (hrow : gT s r = (106, 4)) (hrl : r < gN s) (hne : r ≠ th) (hk : k < 4) : ∃ s', E_init_l85 s th (nI k) = some (.inl (nI (k + 1), s')) ∧ gN s' = gN s + 4 ∧ gU s' = gU s + (fN 9 + 816) ∧ zN s' ∧ Kp (fun t a i => t = 2 ∧ a = r ∧ i = k) s s' ∧ gI s' = gI s ∧ gL s' = gL s ∧ gB s' = gB s ∧ gR s' r k = some (gN s) ∧ vTg s' (gN s) := by
  have tr : (gT s r).1 = 100 + 6 ∧ (gT s r).2 = 4 := by rw [hrow]; exact ⟨rfl, rfl⟩
  unfold E_init_l85 nwO
  generalize fN 9 = w
  simp (disch := omega) only [nl, nI_add, nI_mul, iSub, iEq, iLe, iLt, iEqN, iNEq, iNN, iLtN, iNLt, iLeN, iNLe, iAddN, iNAdd, iMin, iMax, iDiv, iRem]
  rw [if_neg (by omega), ldR_ok ht, hr]
  simp only [Option.bind_some]
  have c0 : cMore 1 w s (nw s (9, 0) w) := by
    have := (cMore.rf hz).nw (9, 0) w
    rw [Nat.zero_add, Nat.zero_add] at this
    exact this
  have t0 : gT (nw s (9, 0) w) (gN s) = (9, 0) := by rw [gT_nw, if_pos rfl]
  have r0 := hz.R (9, 0) w
  generalize nw s (9, 0) w = m0 at *
  have n0 := c0.n
  obtain ⟨m1, e1, c1, x1, x2, x3, x4, x5, x6, x7⟩ := Vi_init_ok (th := gN s) c0.z (by rw [t0]) (by omega)
  rw [e1]
  have c01 := c0.tr c1
  have n1 := c01.n
  simp only [Option.bind_some]
  have tm : gT m1 (gN s) = (9, 0) := by rw [c1.t (by omega), t0]
  rw [waR_k (by rw [c01.t hrl]; exact tr.1) (by rw [c01.t hrl]; omega) (by omega) (by rw [tm])]
  have u1 := c01.2.1
  refine ⟨sR m1 r k (some (gN s)), rfl, n1, by rw [show gU (sR m1 r k (some (gN s))) = gU m1 from rfl, u1], c01.z.sR (by omega), Kp.tr (W' := fun t a i => t = 2 ∧ a = r ∧ i = k) (c01.kp (fun a i ha _ => by rw [x7 _ _ (by omega), r0])) (Kp.sR ⟨rfl, rfl, rfl⟩) (fun _ _ _ _ q => q), c01.2.2.2.1, c01.2.2.2.2.1, c01.2.2.2.2.2.1, gR_sRs _ _ _ _, ?_⟩
  have hR : ∀ i, gR (sR m1 r k (some (gN s))) (gN s) i = gR m1 (gN s) i := fun i => gR_sRn (by omega)
  refine ⟨tm, ?_, ?_, ?_, ?_, ?_, ?_⟩
  · rw [← n0]; exact x1
  · rw [show gN s + 2 = gN m0 + 1 by omega]; exact x2
  · rw [show gN s + 3 = gN m0 + 2 by omega]; exact x3
  · rw [hR, x4, n0]
  · rw [hR, x5, n0]
  · rw [hR, x6, n0]
theorem views_ok {σ : Mem} {th r : Nat} (hz : zN σ) (ht : (gT σ th).1 = 11) (hlt : th < gN σ) (hr : gR σ th 11 = some r) (hrow : gT σ r = (106, 4)) (hrl : r < gN σ) (hne : r ≠ th) : ∃ σ', lp (fun q : Int32 × Mem => E_init_l85 q.2 th q.1) (0, σ) = some σ' ∧ gN σ' = gN σ + 16 ∧ gU σ' = gU σ + 4 * (fN 9 + 816) ∧ zN σ' ∧ Kp (fun t a _ => t = 2 ∧ a = r) σ σ' ∧ gI σ' = gI σ ∧ gL σ' = gL σ ∧ gB σ' = gB σ ∧ ∀ i, i < 4 → gR σ' r i = some (gN σ + 4 * i) ∧ vTg σ' (gN σ + 4 * i) := by
  have hst := fun (s : Mem) (k : Nat) a b c d e f g => view_step (s := s) (th := th) (r := r) (k := k) a b c d e f hne g
  generalize fN 9 = w0 at hst ⊢
  obtain ⟨w, hw⟩ : ∃ w, w = w0 + 816 := ⟨_, rfl⟩
  rw [← hw]
  simp only [← hw] at hst
  obtain ⟨z, hz, q⟩ : ∃ z, lp (fun q : Int32 × Mem => E_init_l85 q.2 th q.1) (nI 0, σ) = some z ∧ (gN z = gN σ + 4 * 4 ∧ gU z = gU σ + 4 * w ∧ zN z ∧ Kp (fun t a _ => t = 2 ∧ a = r) σ z ∧ gI z = gI σ ∧ gL z = gL σ ∧ gB z = gB σ ∧ ∀ i, i < 4 → gR z r i = some (gN σ + 4 * i) ∧ vTg z (gN σ + 4 * i)) := by
    refine lp_for (fun k (s : Mem) => (nI k, s)) 4 (fun k z => gN z = gN σ + 4 * k ∧ gU z = gU σ + k * w ∧ zN z ∧ Kp (fun t a _ => t = 2 ∧ a = r) σ z ∧ gI z = gI σ ∧ gL z = gL σ ∧ gB z = gB σ ∧ ∀ i, i < k → gR z r i = some (gN σ + 4 * i) ∧ vTg z (gN σ + 4 * i)) _ (fun k s hk hI => ?_) (fun s hI => ?_) 4 0 _ (by omega) ⟨rfl, by rw [Nat.zero_mul]; rfl, hz, Kp.rf, rfl, rfl, rfl, fun i hi => absurd hi (Nat.not_lt_zero i)⟩
    · left
      obtain ⟨y1, y2, y3, y4, y5, y6, y7, y8⟩ := hI
      obtain ⟨s', g1, g2, g3, g4, g5, g6, g7, g8, g9, g10⟩ := hst s k y3 (by rw [y4.T hlt]; exact ht) (by omega) (by rw [y4.R hlt (by omega)]; exact hr) (by rw [y4.T hrl]; exact hrow) (by omega) hk
      refine ⟨s', g1, by omega, by rw [g3, y2, Nat.succ_mul, Nat.add_assoc], g4, Kp.tr y4 g5 (fun _ _ _ _ q => ⟨q.1, q.2.1⟩), by rw [g6, y5], by rw [g7, y6], by rw [g8, y7], fun i hi => ?_⟩
      by_cases c : i = k
      · subst c
        rw [← y1]
        exact ⟨g9, g10⟩
      · obtain ⟨v1, v2⟩ := y8 i (by omega)
        exact ⟨by rw [g5.R (by omega) (by omega)]; exact v1, v2.kp g5 (by omega) (fun k q => by omega)⟩
    · refine ⟨s, ?_, hI⟩
      unfold E_init_l85
      simp (disch := omega) only [nl, nI_add, nI_mul, iSub, iEq, iLe, iLt, iEqN, iNEq, iNN, iLtN, iNLt, iLeN, iNLe, iAddN, iNAdd, iMin, iMax, iDiv, iRem]
      rw [if_pos (Nat.le_refl _)]
  obtain ⟨q1, q2, q3⟩ := q
  exact ⟨z, hz, by rw [q1], q2, q3⟩
