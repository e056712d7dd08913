/-! the Answer's constructor -/
theorem pTg_of {σ σ' : Mem} {p : Nat} (h : pTg σ p) (ht : ∀ a, p ≤ a → a < p + 4 → gT σ' a = gT σ a) (hr : ∀ k, gR σ' p k = gR σ p k) : pTg σ' p := by
  unfold pTg at *
  simp only [hr]
  rw [ht p (by omega) (by omega), ht (p + 1) (by omega) (by omega), ht (p + 2) (by omega) (by omega), ht (p + 3) (by omega) (by omega)]
  exact h
theorem An_init_ok {σ : Mem} {th : Nat} (hz : zN σ) (ht : (gT σ th).1 = 0) (hlt : th < gN σ) : ∃ σ', An_init σ th = some σ' ∧ gN σ' = gN σ + 164 ∧ gU σ' = gU σ + (fN 5 + 2160) ∧ zN σ' ∧ (∀ a, a < gN σ → gT σ' a = gT σ a) ∧ gT σ' (gN σ) = (5, 0) ∧ gT σ' (gN σ + 1) = (107, 40) ∧ (∀ j, j < 40 → gR σ' (gN σ + 1) j = some (gN σ + (2 + 4 * j)) ∧ pTg σ' (gN σ + (2 + 4 * j))) ∧ gR σ' (gN σ) 0 = some (gN σ + 1) ∧ gT σ' (gN σ + 162) = (104, 400) ∧ gT σ' (gN σ + 163) = (100, 400) ∧ gR σ' th 0 = some (gN σ) ∧ gR σ' th 2 = some (gN σ + 162) ∧ gR σ' th 3 = some (gN σ + 163) ∧ gI σ' th 1 = -1 ∧ (∀ a k, ¬ (a = th ∧ k = 1) → gI σ' a k = gI σ a k) ∧ gL σ' = gL σ ∧ gB σ' = gB σ ∧ ∀ a k, a < gN σ → a ≠ th → gR σ' a k = gR σ a k := by
  unfold An_init nwO
  generalize fN 5 = w
  simp only [Option.bind_some]
  have c0 : cMore 1 w σ (nw σ (5, 0) w) := by
    have := (cMore.rf hz).nw (5, 0) w
    rw [Nat.zero_add, Nat.zero_add] at this
    exact this
  have t0 : gT (nw σ (5, 0) w) (gN σ) = (5, 0) := by rw [gT_nw, if_pos rfl]
  have r0 := hz.R (5, 0) w
  generalize nw σ (5, 0) w = m0 at *
  have n0 := c0.n
  obtain ⟨m1, e1, c1, t1, r1, r2, r3⟩ := Qu_init_ok (th := gN σ) c0.z (by rw [t0]) (by omega)
  rw [e1]
  have c01 := c0.tr c1
  have n1 := c01.n
  simp only [Option.bind_some]
  rw [stR_ok (by rw [c01.t hlt]; exact ht)]
  simp only [Option.bind_some]
  rw [stI_ok (by show (gT m1 th).1 = 0; rw [c01.t hlt]; exact ht)]
  simp only [Option.bind_some]
  have z2 : zN (sI (sR m1 th 0 (some (gN σ))) th 1 (-1)) := (c1.z.sR (show th < gN m1 by omega)).sI (show th < gN m1 by omega)
  obtain ⟨m2, hm, g1, g2, g3, g4, g5, g6, g7, g8, g10⟩ : ∃ m, sI (sR m1 th 0 (some (gN σ))) th 1 (-1) = m ∧ gN m = gN m1 ∧ gU m = gU m1 ∧ gT m = gT m1 ∧ gL m = gL m1 ∧ gB m = gB m1 ∧ gI m th 1 = -1 ∧ (∀ a k, ¬ (a = th ∧ k = 1) → gI m a k = gI m1 a k) ∧ gR m th 0 = some (gN σ) ∧ ∀ a k, ¬ (a = th ∧ k = 0) → gR m a k = gR m1 a k :=
    ⟨_, rfl, rfl, rfl, rfl, rfl, rfl, gI_sIs _ _ _ _, fun a k q => by rw [gI_sIn q]; rfl, by rw [gR_sI, gR_sRs], fun a k q => by rw [gR_sI, gR_sRn q]⟩
  rw [hm] at z2 ⊢
  simp only [nl]
  obtain ⟨m3, e3, c3, t3, r4, o3⟩ := nwst_ok (k := 2) (t := 4) (n := 400) (fun m4 => (nwA m4 0 (nI 400)).bind fun m5 => (stR m5 0 3 (some th) (some (gN m4))).bind fun m6 => some m6) z2 (th := th) (ci := 0) (by omega) (by rw [g3, c01.t hlt]; exact ht) (by omega)
  rw [e3]
  have n3 := c3.n
  obtain ⟨m4, e4, c4, t4, r5, o4⟩ := nwst_ok (k := 3) (t := 0) (n := 400) (fun m6 => some m6) c3.z (th := th) (ci := 0) (by omega) (by rw [c3.t (by omega), g3, c01.t hlt]; exact ht) (by omega)
  rw [e4]
  have n4 := c4.n
  have cc := c3.tr c4
  have hT : ∀ a, a < gN m1 → gT m4 a = gT m1 a := fun a ha => by rw [cc.t (by omega), g3]
  have hR : ∀ a k, a ≠ th → gR m4 a k = gR m1 a k := fun a k ha => by rw [o4 _ _ (by omega), o3 _ _ (by omega), g10 _ _ (by omega)]
  have hI : gI m4 = gI m2 := cc.2.2.2.1
  have hL : gL m4 = gL m2 := cc.2.2.2.2.1
  have hB : gB m4 = gB m2 := cc.2.2.2.2.2.1
  have iI : gI m1 = gI σ := c01.2.2.2.1
  have iL : gL m1 = gL σ := c01.2.2.2.2.1
  have iB : gB m1 = gB σ := c01.2.2.2.2.2.1
  have u1 := c01.2.1
  have u4 := cc.2.1
  have uu : gU m4 = gU σ + (w + 2160) := by
    rw [u4, g2, u1, Nat.add_assoc, Nat.add_assoc]
  refine ⟨m4, rfl, by omega, uu, c4.z, fun a ha => ?_, ?_, ?_, fun j hj => ?_, ?_, ?_, ?_, ?_, ?_, ?_, ?_, fun a k q => ?_, ?_, ?_, fun a k ha hb => ?_⟩
  · rw [hT a (by omega), c01.t ha]
  · rw [hT _ (by omega), c1.t (by omega), t0]
  · rw [hT _ (by omega), ← n0, t1]
  · obtain ⟨x1, x2⟩ := r1 j hj
    rw [show gN m0 + (1 + 4 * j) = gN σ + (2 + 4 * j) by omega] at x1 x2
    rw [n0] at x1
    exact ⟨by rw [hR _ _ (by omega)]; exact x1, pTg_of x2 (fun a h1 h2 => hT a (by omega)) (fun k => hR _ _ (by omega))⟩
  · rw [hR _ _ (by omega), r2, n0]
  · rw [c4.t (by omega), show gN σ + 162 = gN m2 by omega, t3]
  · rw [show gN σ + 163 = gN m3 by omega, t4]
  · rw [o4 _ _ (by omega), o3 _ _ (by omega), g8]
  · rw [o4 _ _ (by omega), r4, show gN σ + 162 = gN m2 by omega]
  · rw [r5, show gN σ + 163 = gN m3 by omega]
  · rw [hI, g6]; rfl
  · rw [hI, g7 a k q, iI]
  · rw [hL, g4, iL]
  · rw [hB, g5, iB]
  · rw [hR a k hb, r3 a k (by omega) (by omega), r0]
