/-! the whole engine made -/
theorem pTg_kp {σ σ' : Mem} {p : Nat} {W : Nat → Nat → Nat → Prop} (h : pTg σ p) (hk : Kp W σ σ') (hN : p + 4 ≤ gN σ) (hw : ∀ k, ¬ W 2 p k) : pTg σ' p := pTg_of h (fun a h1 h2 => hk.T (by omega)) (fun k => hk.R (by omega) (hw k))
theorem eL_k : ∀ j, j < 5 → (eL.getD j (0, 0, 0)).1 < 12 ∧ (eL.getD j (0, 0, 0)).1 ≠ 0 := by decide
theorem eU_k : fN 7 + 1431 + 4 * (fN 9 + 816) + (fN 0 + (fN 5 + 2160) + (fN 5 + 1360) + (fN 2 + 37)) ≤ 9000 := by decide
theorem eU_s {a b c d x y z : Nat} (h1 : b = a + x) (h2 : c = b + y) (h3 : d = c + z) (h : x + y + z ≤ 9000) : d ≤ a + 9000 := by omega
theorem E_init_ok {σ : Mem} {e : Nat} {x1 : Int32} {st sp : Bool} (hz : zN σ) (ht : gT σ e = (11, 0)) (he : gN σ = e + 1) (hI : ∀ k, gI σ e k = 0) (hs : bitE x1 1 = some st) (hp : bitE x1 2 = some sp) : ∃ s, E_init σ e x1 = some s ∧ gN s = e + 355 ∧ gU s ≤ gU σ + 9000 ∧ zN s ∧ (∀ c, c < 355 → gT s (e + c) = fixT c) ∧ fixR s e ∧ fixQ s e 25 ∧ gB s (e + 1) 0 = st ∧ gB s (e + 1) 1 = sp ∧ (∀ i, i < 11 → gL s (e + 2) i = lN (enc (stopL.getD i []))) ∧ (∀ c k, c < 355 → ¬ (c = 24 ∧ k = 1) → gI s (e + c) k = nI 0) ∧ gI s (e + 24) 1 = -1 ∧ (∀ i, i < 4 → gB s (e + (8 + 4 * i)) 0 = false) ∧ gL s (e + 351) 0 = lN 0 := by
  obtain ⟨s1, s3, s4, a1, a2, a3, a4, a5, a6, a7, a8, a9, a10, b1, b2, b3, b4, b5, b6, b7, b8, c1, c2, c3, c4, c5, c6, c7, c8, c9⟩ := E_init_first hz ht he hs hp
  have te : gT s3 e = (11, 0) := by rw [b1.T (by omega), a2.T (by omega)]; exact ht
  have te4 : gT s4 e = (11, 0) := by rw [c1.T (by omega)]; exact te
  obtain ⟨s6, s9, s12, s13, d1, d2, d3, d4, d5, d6, d7, d8, d9, d10, d11, d12, d13, f1, f2, f3, f4, f5, f6, f7, f8, f9, f10, f11, f12, f13, f14, g1, g2, g3, g4, h1, h2, h3, h4, h5, h6, h7, h8⟩ := E_init_rest c8 (by rw [te4]) c2
  have K3 : Kp (fun t a k => t = 2 ∧ (a = e + 7 ∨ (a = e ∧ 12 ≤ k))) s3 s13 := (c1.mono (fun t a k _ z => ⟨z.1, .inl z.2⟩)).tr d4 (fun t a k _ z => ⟨z.1, .inr z.2⟩)
  have K1 : Kp (fun t a _ => t = 2 ∧ (a = e + 7 ∨ a = e)) s1 s13 := (b1.mono (fun t a k _ z => ⟨z.1, .inr z.2⟩)).tr K3 (fun t a k _ z => ⟨z.1, by omega⟩)
  have n1 : gN s1 = e + 3 := a5
  have v4 : ∀ i, i < 4 → gR s13 (e + 7) i = some (e + 8 + 4 * i) ∧ vTg s13 (e + 8 + 4 * i) := fun i hi => ⟨by rw [d4.R (by omega) (by unfold wEk; omega)]; exact (c3 i hi).1, (c3 i hi).2.kp d4 (by omega) (fun k => by unfold wEk; omega)⟩
  have q6 : ∀ j, j < 40 → gR s13 (e + 26) j = some (e + 25 + (2 + 4 * j)) ∧ pTg s13 (e + 25 + (2 + 4 * j)) := fun j hj => ⟨by rw [d5.R (by omega) (by unfold wEk; omega)]; exact (f4 j hj).1, pTg_kp (f4 j hj).2 d5 (by omega) (fun k => by unfold wEk; omega)⟩
  have q9 : ∀ j, j < 40 → gR s13 (e + 190) j = some (e + 190 + (1 + 4 * j)) ∧ pTg s13 (e + 190 + (1 + 4 * j)) := fun j hj => ⟨by rw [d6.R (by omega) (by unfold wEk; omega)]; exact (g3 j hj).1, pTg_kp (g3 j hj).2 d6 (by omega) (fun k => by unfold wEk; omega)⟩
  have T6 : ∀ a, a < e + 189 → gT s13 a = gT s6 a := fun a ha => d5.T (by omega)
  have T9 : ∀ a, a < e + 351 → gT s13 a = gT s9 a := fun a ha => d6.T (by omega)
  have T12 : ∀ a, a < e + 355 → gT s13 a = gT s12 a := fun a ha => d7.T (by omega)
  have R6 : ∀ a k, e < a → a < e + 189 → gR s13 a k = gR s6 a k := fun a k h ha => d5.R (by omega) (by unfold wEk; omega)
  have R9 : ∀ a k, e < a → a < e + 351 → gR s13 a k = gR s9 a k := fun a k h ha => d6.R (by omega) (by unfold wEk; omega)
  have R12 : ∀ a k, e < a → a < e + 355 → gR s13 a k = gR s12 a k := fun a k h ha => d7.R (by omega) (by unfold wEk; omega)
  have hr1 : ∀ j, j < 5 → gR s13 e (eL.getD j (0, 0, 0)).1 = some (e + 3 + j) := fun j hj => by
    have := eL_k j hj
    rw [K3.R (by omega) (by omega)]
    exact (b4 j hj).2
  have hT : ∀ c, c < 355 → gT s13 (e + c) = fixT c := by
    refine E_types ?_ ?_ ?_ (fun j hj => ?_) (fun i hi => (v4 i hi).2) ?_ ?_ ?_ (fun j hj => (q6 j hj).2) ?_ ?_ ?_ ?_ (fun j hj => (q9 j hj).2) ?_ ?_ ?_ ?_
    · rw [K3.T (by omega)]; exact te
    · rw [K1.T (by omega)]; exact a3
    · rw [K1.T (by omega)]; exact a4
    · rw [K3.T (by omega)]; exact (b4 j hj).1
    · rw [T6 _ (by omega)]; exact f1
    · rw [T6 _ (by omega)]; exact f2
    · rw [T6 _ (by omega)]; exact f3
    · rw [T6 _ (by omega)]; exact f6
    · rw [T6 _ (by omega)]; exact f7
    · rw [T9 _ (by omega)]; exact g1
    · rw [T9 _ (by omega)]; exact g2
    · rw [T12 _ (by omega)]; exact h1
    · rw [T12 _ (by omega)]; exact h2
    · rw [T12 _ (by omega)]; exact h3
    · rw [T12 _ (by omega)]; exact h4
  have hR : fixR s13 e := by
    refine E_refs ?_ hr1 d11 d13 ?_ v4 ?_ ?_ ?_ q6 ?_ q9 ?_ ?_ ?_
    · rw [K3.R (by omega) (by omega)]; exact b3
    · rw [K1.R (by omega) (by omega)]; exact a6
    · rw [R6 _ _ (by omega) (by omega)]; exact f9
    · rw [R6 _ _ (by omega) (by omega)]; exact f10
    · rw [R6 _ _ (by omega) (by omega)]; exact f5
    · rw [R9 _ _ (by omega) (by omega)]; exact g4
    · rw [R12 _ _ (by omega) (by omega)]; exact h5
    · rw [R12 _ _ (by omega) (by omega)]; exact h6
    · rw [R12 _ _ (by omega) (by omega)]; exact h7
  have B1 : gB s13 = gB s1 := by rw [f14, c5]
  have L1 : gL s13 = gL s1 := by rw [f13, c6]
  refine ⟨s13, by rw [a1]; exact d1, d2, ?_, h8, hT, hR, ⟨.inl rfl, ?_, ?_⟩, ?_, ?_, fun i hi => ?_, fun c k hc hk => ?_, f11, fun i hi => ?_, ?_⟩
  · exact eU_s b8 c7 d3 eU_k
  · rw [R6 _ _ (by omega) (by omega)]; exact f8
  · rw [d12]
  · rw [B1]; exact a7
  · rw [B1]; exact a8
  · rw [L1]; exact a9 i hi
  · rw [f12 _ _ (by omega), c4]
    by_cases h0 : c = 0
    · subst h0
      exact hI k
    · rw [(hz _ (by omega)).1]
      rfl
  · rw [B1, (c9 _ (by omega)).2.2.2]
  · rw [L1, (c9 _ (by omega)).2.1]
    rfl
