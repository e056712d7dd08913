/-! constructors of the class: what is made is empty; the tags and references that they lay -/
/-- what lies behind the last cell is empty -/
def zN (σ : Mem) : Prop := ∀ a, gN σ ≤ a → gI σ a = (fun _ => 0) ∧ gL σ a = (fun _ => 0) ∧ gR σ a = (fun _ => none) ∧ gB σ a = (fun _ => false)
theorem zN.I {σ : Mem} (h : zN σ) (t : Nat × Nat) (w : Nat) : gI (nw σ t w) = gI σ := by
  funext a j
  rw [gI_nw]
  split
  · next e => rw [e, (h _ (Nat.le_refl _)).1]
  · rfl
theorem zN.L {σ : Mem} (h : zN σ) (t : Nat × Nat) (w : Nat) : gL (nw σ t w) = gL σ := by
  funext a j
  rw [gL_nw]
  split
  · next e => rw [e, (h _ (Nat.le_refl _)).2.1]
  · rfl
theorem zN.R {σ : Mem} (h : zN σ) (t : Nat × Nat) (w : Nat) : gR (nw σ t w) = gR σ := by
  funext a j
  rw [gR_nw]
  split
  · next e => rw [e, (h _ (Nat.le_refl _)).2.2.1]
  · rfl
theorem zN.B {σ : Mem} (h : zN σ) (t : Nat × Nat) (w : Nat) : gB (nw σ t w) = gB σ := by
  funext a j
  rw [gB_nw]
  split
  · next e => rw [e, (h _ (Nat.le_refl _)).2.2.2]
  · rfl
theorem zN.nw {σ : Mem} (h : zN σ) (t : Nat × Nat) (w : Nat) : zN (nw σ t w) := fun a ha => by
  rw [h.I, h.L, h.R, h.B]
  exact h a (by rw [gN_nw] at ha; omega)
theorem zN.sI {σ : Mem} (h : zN σ) {a k : Nat} {v : Int32} (ha : a < gN σ) : zN (sI σ a k v) := fun b hb => by
  have hb : gN σ ≤ b := hb
  obtain ⟨h1, h2, h3, h4⟩ := h b hb
  refine ⟨?_, h2, h3, h4⟩
  funext j
  rw [gI_sI, if_neg (by omega), h1]
theorem zN.sL {σ : Mem} (h : zN σ) {a k : Nat} {v : Int64} (ha : a < gN σ) : zN (sL σ a k v) := fun b hb => by
  have hb : gN σ ≤ b := hb
  obtain ⟨h1, h2, h3, h4⟩ := h b hb
  refine ⟨h1, ?_, h3, h4⟩
  funext j
  rw [gL_sL, if_neg (by omega), h2]
theorem zN.sR {σ : Mem} (h : zN σ) {a k : Nat} {v : Option Nat} (ha : a < gN σ) : zN (sR σ a k v) := fun b hb => by
  have hb : gN σ ≤ b := hb
  obtain ⟨h1, h2, h3, h4⟩ := h b hb
  refine ⟨h1, h2, ?_, h4⟩
  funext j
  rw [gR_sR, if_neg (by omega), h3]
theorem zN.sB {σ : Mem} (h : zN σ) {a k : Nat} {v : Bool} (ha : a < gN σ) : zN (sB σ a k v) := fun b hb => by
  have hb : gN σ ≤ b := hb
  obtain ⟨h1, h2, h3, h4⟩ := h b hb
  refine ⟨h1, h2, h3, ?_⟩
  funext j
  rw [gB_sB, if_neg (by omega), h4]
theorem zN_mem0 (n : Nat) : zN (mem0 n) := fun _ _ => ⟨rfl, rfl, rfl, rfl⟩
/-- a step of a constructor: n cells more, w slots; the ints, longs and truths as they were -/
def cMore (n w : Nat) (σ σ' : Mem) : Prop := gN σ' = gN σ + n ∧ gU σ' = gU σ + w ∧ (∀ a, a < gN σ → gT σ' a = gT σ a) ∧ gI σ' = gI σ ∧ gL σ' = gL σ ∧ gB σ' = gB σ ∧ zN σ'
theorem lit_nw {σ : Mem} {t n : Nat} (h : n ≤ 2000000) : nwA σ t (@OfNat.ofNat Int32 n _) = some (nw σ (100 + t, n) n) := by rw [nl, nwA_ok h]
theorem Pa_init_ok {σ : Mem} {th : Nat} (hz : zN σ) (ht : (gT σ th).1 = 4) (hlt : th < gN σ) : ∃ σ', Pa_init σ th = some σ' ∧ cMore 3 18 σ σ' ∧ gT σ' (gN σ) = (101, 8) ∧ gT σ' (gN σ + 1) = (100, 8) ∧ gT σ' (gN σ + 2) = (100, 2) ∧ gR σ' th 7 = some (gN σ) ∧ gR σ' th 8 = some (gN σ + 1) ∧ gR σ' th 14 = some (gN σ + 2) ∧ ∀ a j, a ≠ th → gR σ' a j = gR σ a j := by
  unfold Pa_init
  rw [lit_nw (by decide)]
  simp only [Option.bind_some, Nat.reduceAdd, gN_nw, gN_sI, gN_sL, gN_sR, gN_sB]
  rw [stR_ok (by simp only [gT_sI, gT_sL, gT_sR, gT_sB, gN_sI, gN_sL, gN_sR, gN_sB, gU_sI, gU_sL, gU_sR, gU_sB, gI_sL, gI_sR, gI_sB, gL_sI, gL_sR, gL_sB, gR_sI, gR_sL, gR_sB, gB_sI, gB_sL, gB_sR, gI_sI, gL_sL, gR_sR, gB_sB, gT_nw, gN_nw, gU_nw, gI_nw, gL_nw, gR_nw, gB_nw, gT_nwC, gN_nwC, gU_nwC, gI_nwC, gL_nwC, gR_nwC, gB_nwC]; rw [if_neg (by omega)]; exact ht)]
  simp only [Option.bind_some]
  rw [lit_nw (by decide)]
  simp only [Option.bind_some, Nat.reduceAdd, gN_nw, gN_sI, gN_sL, gN_sR, gN_sB]
  rw [stR_ok (by simp only [gT_sI, gT_sL, gT_sR, gT_sB, gN_sI, gN_sL, gN_sR, gN_sB, gU_sI, gU_sL, gU_sR, gU_sB, gI_sL, gI_sR, gI_sB, gL_sI, gL_sR, gL_sB, gR_sI, gR_sL, gR_sB, gB_sI, gB_sL, gB_sR, gI_sI, gL_sL, gR_sR, gB_sB, gT_nw, gN_nw, gU_nw, gI_nw, gL_nw, gR_nw, gB_nw, gT_nwC, gN_nwC, gU_nwC, gI_nwC, gL_nwC, gR_nwC, gB_nwC]; rw [if_neg (by omega), if_neg (by omega)]; exact ht)]
  simp only [Option.bind_some]
  rw [lit_nw (by decide)]
  simp only [Option.bind_some, Nat.reduceAdd, gN_nw, gN_sI, gN_sL, gN_sR, gN_sB]
  rw [stR_ok (by simp only [gT_sI, gT_sL, gT_sR, gT_sB, gN_sI, gN_sL, gN_sR, gN_sB, gU_sI, gU_sL, gU_sR, gU_sB, gI_sL, gI_sR, gI_sB, gL_sI, gL_sR, gL_sB, gR_sI, gR_sL, gR_sB, gB_sI, gB_sL, gB_sR, gI_sI, gL_sL, gR_sR, gB_sB, gT_nw, gN_nw, gU_nw, gI_nw, gL_nw, gR_nw, gB_nw, gT_nwC, gN_nwC, gU_nwC, gI_nwC, gL_nwC, gR_nwC, gB_nwC]; rw [if_neg (by omega), if_neg (by omega), if_neg (by omega)]; exact ht)]
  simp only [Option.bind_some]
  have z1 := hz.nw (101, 8) 8
  have z2 : zN (sR (nw σ (101, 8) 8) th 7 (some (gN σ))) := z1.sR (by simp only [gT_sI, gT_sL, gT_sR, gT_sB, gN_sI, gN_sL, gN_sR, gN_sB, gU_sI, gU_sL, gU_sR, gU_sB, gI_sL, gI_sR, gI_sB, gL_sI, gL_sR, gL_sB, gR_sI, gR_sL, gR_sB, gB_sI, gB_sL, gB_sR, gI_sI, gL_sL, gR_sR, gB_sB, gT_nw, gN_nw, gU_nw, gI_nw, gL_nw, gR_nw, gB_nw, gT_nwC, gN_nwC, gU_nwC, gI_nwC, gL_nwC, gR_nwC, gB_nwC]; omega)
  have z3 := z2.nw (100, 8) 8
  have z4 : zN (sR (nw (sR (nw σ (101, 8) 8) th 7 (some (gN σ))) (100, 8) 8) th 8 (some (gN σ + 1))) := z3.sR (by simp only [gT_sI, gT_sL, gT_sR, gT_sB, gN_sI, gN_sL, gN_sR, gN_sB, gU_sI, gU_sL, gU_sR, gU_sB, gI_sL, gI_sR, gI_sB, gL_sI, gL_sR, gL_sB, gR_sI, gR_sL, gR_sB, gB_sI, gB_sL, gB_sR, gI_sI, gL_sL, gR_sR, gB_sB, gT_nw, gN_nw, gU_nw, gI_nw, gL_nw, gR_nw, gB_nw, gT_nwC, gN_nwC, gU_nwC, gI_nwC, gL_nwC, gR_nwC, gB_nwC]; omega)
  have z5 := z4.nw (100, 2) 2
  refine ⟨_, rfl, ⟨by simp only [gT_sI, gT_sL, gT_sR, gT_sB, gN_sI, gN_sL, gN_sR, gN_sB, gU_sI, gU_sL, gU_sR, gU_sB, gI_sL, gI_sR, gI_sB, gL_sI, gL_sR, gL_sB, gR_sI, gR_sL, gR_sB, gB_sI, gB_sL, gB_sR, gI_sI, gL_sL, gR_sR, gB_sB, gT_nw, gN_nw, gU_nw, gI_nw, gL_nw, gR_nw, gB_nw, gT_nwC, gN_nwC, gU_nwC, gI_nwC, gL_nwC, gR_nwC, gB_nwC], by simp only [gT_sI, gT_sL, gT_sR, gT_sB, gN_sI, gN_sL, gN_sR, gN_sB, gU_sI, gU_sL, gU_sR, gU_sB, gI_sL, gI_sR, gI_sB, gL_sI, gL_sR, gL_sB, gR_sI, gR_sL, gR_sB, gB_sI, gB_sL, gB_sR, gI_sI, gL_sL, gR_sR, gB_sB, gT_nw, gN_nw, gU_nw, gI_nw, gL_nw, gR_nw, gB_nw, gT_nwC, gN_nwC, gU_nwC, gI_nwC, gL_nwC, gR_nwC, gB_nwC], fun a ha => by simp only [gT_sI, gT_sL, gT_sR, gT_sB, gN_sI, gN_sL, gN_sR, gN_sB, gU_sI, gU_sL, gU_sR, gU_sB, gI_sL, gI_sR, gI_sB, gL_sI, gL_sR, gL_sB, gR_sI, gR_sL, gR_sB, gB_sI, gB_sL, gB_sR, gI_sI, gL_sL, gR_sR, gB_sB, gT_nw, gN_nw, gU_nw, gI_nw, gL_nw, gR_nw, gB_nw, gT_nwC, gN_nwC, gU_nwC, gI_nwC, gL_nwC, gR_nwC, gB_nwC]; rw [if_neg (by omega), if_neg (by omega), if_neg (by omega)], ?_, ?_, ?_, ?_⟩, ?_⟩
  · simp only [gI_sR]
    rw [z4.I, gI_sR, z2.I, gI_sR, hz.I]
  · simp only [gL_sR]
    rw [z4.L, gL_sR, z2.L, gL_sR, hz.L]
  · simp only [gB_sR]
    rw [z4.B, gB_sR, z2.B, gB_sR, hz.B]
  · exact z5.sR (by simp only [gT_sI, gT_sL, gT_sR, gT_sB, gN_sI, gN_sL, gN_sR, gN_sB, gU_sI, gU_sL, gU_sR, gU_sB, gI_sL, gI_sR, gI_sB, gL_sI, gL_sR, gL_sB, gR_sI, gR_sL, gR_sB, gB_sI, gB_sL, gB_sR, gI_sI, gL_sL, gR_sR, gB_sB, gT_nw, gN_nw, gU_nw, gI_nw, gL_nw, gR_nw, gB_nw, gT_nwC, gN_nwC, gU_nwC, gI_nwC, gL_nwC, gR_nwC, gB_nwC]; omega)
  · refine ⟨?_, ?_, ?_, ?_, ?_, ?_, ?_⟩
    · simp [gT_sI, gT_sL, gT_sR, gT_sB, gN_sI, gN_sL, gN_sR, gN_sB, gU_sI, gU_sL, gU_sR, gU_sB, gI_sL, gI_sR, gI_sB, gL_sI, gL_sR, gL_sB, gR_sI, gR_sL, gR_sB, gB_sI, gB_sL, gB_sR, gI_sI, gL_sL, gR_sR, gB_sB, gT_nw, gN_nw, gU_nw, gI_nw, gL_nw, gR_nw, gB_nw, gT_nwC, gN_nwC, gU_nwC, gI_nwC, gL_nwC, gR_nwC, gB_nwC]; omega
    · simp [gT_sI, gT_sL, gT_sR, gT_sB, gN_sI, gN_sL, gN_sR, gN_sB, gU_sI, gU_sL, gU_sR, gU_sB, gI_sL, gI_sR, gI_sB, gL_sI, gL_sR, gL_sB, gR_sI, gR_sL, gR_sB, gB_sI, gB_sL, gB_sR, gI_sI, gL_sL, gR_sR, gB_sB, gT_nw, gN_nw, gU_nw, gI_nw, gL_nw, gR_nw, gB_nw, gT_nwC, gN_nwC, gU_nwC, gI_nwC, gL_nwC, gR_nwC, gB_nwC]
    · simp [gT_sI, gT_sL, gT_sR, gT_sB, gN_sI, gN_sL, gN_sR, gN_sB, gU_sI, gU_sL, gU_sR, gU_sB, gI_sL, gI_sR, gI_sB, gL_sI, gL_sR, gL_sB, gR_sI, gR_sL, gR_sB, gB_sI, gB_sL, gB_sR, gI_sI, gL_sL, gR_sR, gB_sB, gT_nw, gN_nw, gU_nw, gI_nw, gL_nw, gR_nw, gB_nw, gT_nwC, gN_nwC, gU_nwC, gI_nwC, gL_nwC, gR_nwC, gB_nwC]
    · simp only [gT_sI, gT_sL, gT_sR, gT_sB, gN_sI, gN_sL, gN_sR, gN_sB, gU_sI, gU_sL, gU_sR, gU_sB, gI_sL, gI_sR, gI_sB, gL_sI, gL_sR, gL_sB, gR_sI, gR_sL, gR_sB, gB_sI, gB_sL, gB_sR, gI_sI, gL_sL, gR_sR, gB_sB, gT_nw, gN_nw, gU_nw, gI_nw, gL_nw, gR_nw, gB_nw, gT_nwC, gN_nwC, gU_nwC, gI_nwC, gL_nwC, gR_nwC, gB_nwC]; simp; omega
    · simp only [gT_sI, gT_sL, gT_sR, gT_sB, gN_sI, gN_sL, gN_sR, gN_sB, gU_sI, gU_sL, gU_sR, gU_sB, gI_sL, gI_sR, gI_sB, gL_sI, gL_sR, gL_sB, gR_sI, gR_sL, gR_sB, gB_sI, gB_sL, gB_sR, gI_sI, gL_sL, gR_sR, gB_sB, gT_nw, gN_nw, gU_nw, gI_nw, gL_nw, gR_nw, gB_nw, gT_nwC, gN_nwC, gU_nwC, gI_nwC, gL_nwC, gR_nwC, gB_nwC]; simp; omega
    · simp [gT_sI, gT_sL, gT_sR, gT_sB, gN_sI, gN_sL, gN_sR, gN_sB, gU_sI, gU_sL, gU_sR, gU_sB, gI_sL, gI_sR, gI_sB, gL_sI, gL_sR, gL_sB, gR_sI, gR_sL, gR_sB, gB_sI, gB_sL, gB_sR, gI_sI, gL_sL, gR_sR, gB_sB, gT_nw, gN_nw, gU_nw, gI_nw, gL_nw, gR_nw, gB_nw, gT_nwC, gN_nwC, gU_nwC, gI_nwC, gL_nwC, gR_nwC, gB_nwC]
    · intro a j ha
      simp only [gR_sR, if_neg (show ¬ (a = th ∧ j = 14) by omega)]
      rw [z4.R, gR_sR, if_neg (by omega), z2.R, gR_sR, if_neg (by omega), hz.R]
