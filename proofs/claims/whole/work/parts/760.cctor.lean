def wEk (e n : Nat) : Nat → Nat → Nat → Prop := fun t a k => t = 2 ∧ a = e ∧ n ≤ k
/-- the second half of an engine: answer, queries, neighbour -/
theorem E_init_rest {σ : Mem} {e : Nat} (hz : zN σ) (ht : (gT σ e).1 = 11) (hN : gN σ = e + 24) : ∃ s6 s9 s12 s13, eRest e σ = some s13 ∧ gN s13 = e + 355 ∧ gU s13 = gU σ + (fN 0 + (fN 5 + 2160) + (fN 5 + 1360) + (fN 2 + 37)) ∧ Kp (wEk e 12) σ s13 ∧ Kp (wEk e 12) s6 s13 ∧ Kp (wEk e 13) s9 s13 ∧ Kp (wEk e 14) s12 s13 ∧ gN s6 = e + 189 ∧ gN s9 = e + 351 ∧ gN s12 = e + 355 ∧ gR s13 e 12 = some (e + 24) ∧ gR s13 e 13 = some (e + 189) ∧ gR s13 e 14 = some (e + 351) ∧ gT s6 (e + 24) = (0, 0) ∧ gT s6 (e + 25) = (5, 0) ∧ gT s6 (e + 26) = (107, 40) ∧ (∀ j, j < 40 → gR s6 (e + 26) j = some (e + 25 + (2 + 4 * j)) ∧ pTg s6 (e + 25 + (2 + 4 * j))) ∧ gR s6 (e + 25) 0 = some (e + 26) ∧ gT s6 (e + 187) = (104, 400) ∧ gT s6 (e + 188) = (100, 400) ∧ gR s6 (e + 24) 0 = some (e + 25) ∧ gR s6 (e + 24) 2 = some (e + 187) ∧ gR s6 (e + 24) 3 = some (e + 188) ∧ gI s13 (e + 24) 1 = -1 ∧ (∀ a k, ¬ (a = e + 24 ∧ k = 1) → gI s13 a k = gI σ a k) ∧ gL s13 = gL σ ∧ gB s13 = gB σ ∧ gT s9 (e + 189) = (5, 0) ∧ gT s9 (e + 190) = (107, 40) ∧ (∀ j, j < 40 → gR s9 (e + 190) j = some (e + 190 + (1 + 4 * j)) ∧ pTg s9 (e + 190 + (1 + 4 * j))) ∧ gR s9 (e + 189) 0 = some (e + 190) ∧ gT s12 (e + 351) = (2, 0) ∧ gT s12 (e + 352) = (100, 12) ∧ gT s12 (e + 353) = (100, 12) ∧ gT s12 (e + 354) = (100, 13) ∧ gR s12 (e + 351) 4 = some (e + 352) ∧ gR s12 (e + 351) 6 = some (e + 353) ∧ gR s12 (e + 351) 7 = some (e + 354) ∧ zN s13 := by
  unfold eRest
  obtain ⟨z5, n5, u5, t5, k5, i5, l5, b5⟩ := nwO_made 0 hz
  obtain ⟨s6, a1, a2, a3, a4, a5, a6, a7, a8, a9, a10, a11, a12, a13, a14, a15, a16, a17, a18⟩ := An_made (σ := nwO σ 0) (th := gN σ) z5 (by rw [t5]) (by omega)
  rw [a1, Option.bind_some]
  have t6 : (gT s6 e).1 = 11 := by rw [a5.T (by omega), k5.T (by omega)]; exact ht
  rw [stR_ok t6, Option.bind_some]
  have z7 : zN (sR s6 e 12 (some (gN σ))) := a4.sR (by omega)
  have k7 : Kp (wEk e 12) s6 (sR s6 e 12 (some (gN σ))) := Kp.sR ⟨rfl, rfl, Nat.le_refl _⟩
  have r7 : gR (sR s6 e 12 (some (gN σ))) e 12 = some (gN σ) := gR_sRs _ _ _ _
  have n7 : gN (sR s6 e 12 (some (gN σ))) = gN s6 := rfl
  have u7 : gU (sR s6 e 12 (some (gN σ))) = gU s6 := rfl
  have i7 : gI (sR s6 e 12 (some (gN σ))) = gI s6 := rfl
  have l7 : gL (sR s6 e 12 (some (gN σ))) = gL s6 := rfl
  have b7 : gB (sR s6 e 12 (some (gN σ))) = gB s6 := rfl
  generalize sR s6 e 12 (some (gN σ)) = s7 at *
  obtain ⟨z8, n8, u8, t8, k8, i8, l8, b8⟩ := nwO_made 5 z7
  obtain ⟨s9, c1, c2, c3, c4, c5, c6, c7, c8, c9, c10, c11⟩ := Qu_made (σ := nwO s7 5) (th := gN s7) z8 (by rw [t8]) (by omega)
  rw [c1, Option.bind_some]
  have t9 : (gT s9 e).1 = 11 := by rw [c5.T (by omega), k8.T (by omega), k7.T (by omega)]; exact t6
  rw [stR_ok t9, Option.bind_some]
  have z10 : zN (sR s9 e 13 (some (gN s7))) := c4.sR (by omega)
  have k10 : Kp (wEk e 13) s9 (sR s9 e 13 (some (gN s7))) := Kp.sR ⟨rfl, rfl, Nat.le_refl _⟩
  have r10 : gR (sR s9 e 13 (some (gN s7))) e 13 = some (gN s7) := gR_sRs _ _ _ _
  have n10 : gN (sR s9 e 13 (some (gN s7))) = gN s9 := rfl
  have u10 : gU (sR s9 e 13 (some (gN s7))) = gU s9 := rfl
  have i10 : gI (sR s9 e 13 (some (gN s7))) = gI s9 := rfl
  have l10 : gL (sR s9 e 13 (some (gN s7))) = gL s9 := rfl
  have b10 : gB (sR s9 e 13 (some (gN s7))) = gB s9 := rfl
  generalize sR s9 e 13 (some (gN s7)) = s10 at *
  obtain ⟨z11, n11, u11, t11, k11, i11, l11, b11⟩ := nwO_made 2 z10
  obtain ⟨s12, d1, d2, d3, d4, d5, d6, d7, d8, d9, d10, d11, d12, d13, d14⟩ := Ne_made (σ := nwO s10 2) (th := gN s10) z11 (by rw [t11]) (by omega)
  rw [d1, Option.bind_some]
  have t12 : (gT s12 e).1 = 11 := by rw [d5.T (by omega), k11.T (by omega), k10.T (by omega)]; exact t9
  rw [stR_ok t12, Option.bind_some]
  have k13 : Kp (wEk e 14) s12 (sR s12 e 14 (some (gN s10))) := Kp.sR ⟨rfl, rfl, Nat.le_refl _⟩
  have r13 : gR (sR s12 e 14 (some (gN s10))) e 14 = some (gN s10) := gR_sRs _ _ _ _
  have n13 : gN (sR s12 e 14 (some (gN s10))) = gN s12 := rfl
  have u13 : gU (sR s12 e 14 (some (gN s10))) = gU s12 := rfl
  have i13 : gI (sR s12 e 14 (some (gN s10))) = gI s12 := rfl
  have l13 : gL (sR s12 e 14 (some (gN s10))) = gL s12 := rfl
  have b13 : gB (sR s12 e 14 (some (gN s10))) = gB s12 := rfl
  have z13 : zN (sR s12 e 14 (some (gN s10))) := d4.sR (by have := d5.n; omega)
  generalize sR s12 e 14 (some (gN s10)) = s13 at *
  have q6 : gN s6 = e + 189 := by omega
  have q7 : gN s7 = e + 189 := by omega
  have q9 : gN s9 = e + 351 := by omega
  have q10 : gN s10 = e + 351 := by omega
  have K9 : Kp (wEk e 13) s9 s13 := ((k10.tr k11 (fun _ _ _ _ z => z.elim)).tr d5 (fun t a k ha z => by have z : a = gN s10 := z; omega)).tr k13 (fun t a k _ z => by unfold wEk at z ⊢; omega)
  have K7 : Kp (wEk e 13) s7 s13 := ((Kp.rf (W := wEk e 13) (σ := s7)).tr k8 (fun _ _ _ _ z => z.elim)).tr c5 (fun t a k ha z => by have z : a = gN s7 := z; omega) |>.tr K9 (fun _ _ _ _ z => z)
  have K6 : Kp (wEk e 12) s6 s13 := k7.tr K7 (fun t a k _ z => by unfold wEk at z ⊢; omega)
  have K4 : Kp (wEk e 12) σ s13 := ((Kp.rf (W := wEk e 12) (σ := σ)).tr k5 (fun _ _ _ _ z => z.elim)).tr a5 (fun t a k ha z => by have z : a = gN σ := z; omega) |>.tr K6 (fun _ _ _ _ z => z)
  have hI : gI s13 = gI s6 := by rw [i13, d6, i11, i10, c6, i8, i7]
  have e5 : gN (nwO σ 0) = e + 25 := by omega
  have e8 : gN (nwO s7 5) = e + 190 := by omega
  have e11 : gN (nwO s10 2) = e + 352 := by omega
  rw [e5] at a6 a7 a8 a9 a10 a11 a12 a13 a14
  rw [hN] at a12 a13 a14 a15 a16 t5 r7
  rw [e8] at c9 c10 c11
  rw [q7] at c11 t8 r10
  rw [e11] at d9 d10 d11 d12 d13 d14
  rw [q10] at d12 d13 d14 t11 r13
  refine ⟨s6, s9, s12, s13, rfl, by omega, ?_, K4, K6, K9, k13, q6, q9, by omega, ?_, ?_, r13, ?_, a6, a7, a8, a9, a10, a11, a12, a13, a14, ?_, fun a k h => ?_, ?_, ?_, ?_, c9, c10, c11, ?_, d9, d10, d11, d12, d13, d14, z13⟩
  · rw [u13, d3, u11, u10, c3, u8, u7, a3, u5]
    simp only [Nat.add_assoc]
  · rw [K7.R (by omega) (by unfold wEk; omega)]; exact r7
  · have K10 : Kp (wEk e 14) s10 s13 := ((Kp.rf (W := wEk e 14) (σ := s10)).tr k11 (fun _ _ _ _ z => z.elim)).tr d5 (fun t a k ha z => by have z : a = gN s10 := z; omega) |>.tr k13 (fun _ _ _ _ z => z)
    rw [K10.R (by omega) (by unfold wEk; omega)]; exact r10
  · rw [a5.T (by omega)]; exact t5
  · rw [hI]; exact a15
  · rw [hI, a16 a k h, i5]
  · rw [l13, d7, l11, l10, c7, l8, l7, a17, l5]
  · rw [b13, d8, b11, b10, c8, b8, b7, a18, b5]
  · rw [c5.T (by omega)]; exact t8
  · rw [d5.T (by omega)]; exact t11
