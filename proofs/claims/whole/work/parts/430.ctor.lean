/-! constructors of the class: what is made is empty; the tags and references that they lay -/
/-- what lies behind the last cell is empty -/
def zN (σ : Mem) : Prop := ∀ a, gN σ ≤ a → gI σ a = (fun _ => 0) ∧ gL σ a = (fun _ => 0) ∧ gR σ a = (fun _ => none) ∧ gB σ a = (fun _ => false)
theorem zN.I {σ : Mem} (h : zN σ) (t : Nat × Nat) (w : Nat) : gI (nw σ t w) = gI σ := by
  funext a j
  rw [gI_nw]
  split
  · next e => rw [e, (h _ (Nat.le_refl _)).1]
  · rfl
theorem zN.L {σ : Mem} (h : zN σ) (t : Nat × Nat) (w : Nat) : gL (nw σ t w) = gL σ := by
  funext a j
  rw [gL_nw]
  split
  · next e => rw [e, (h _ (Nat.le_refl _)).2.1]
  · rfl
theorem zN.R {σ : Mem} (h : zN σ) (t : Nat × Nat) (w : Nat) : gR (nw σ t w) = gR σ := by
  funext a j
  rw [gR_nw]
  split
  · next e => rw [e, (h _ (Nat.le_refl _)).2.2.1]
  · rfl
theorem zN.B {σ : Mem} (h : zN σ) (t : Nat × Nat) (w : Nat) : gB (nw σ t w) = gB σ := by
  funext a j
  rw [gB_nw]
  split
  · next e => rw [e, (h _ (Nat.le_refl _)).2.2.2]
  · rfl
theorem zN.nw {σ : Mem} (h : zN σ) (t : Nat × Nat) (w : Nat) : zN (nw σ t w) := fun a ha => by
  rw [h.I, h.L, h.R, h.B]
  exact h a (by rw [gN_nw] at ha; omega)
theorem zN.sI {σ : Mem} (h : zN σ) {a k : Nat} {v : Int32} (ha : a < gN σ) : zN (sI σ a k v) := fun b hb => by
  have hb : gN σ ≤ b := hb
  obtain ⟨h1, h2, h3, h4⟩ := h b hb
  refine ⟨?_, h2, h3, h4⟩
  funext j
  rw [gI_sI, if_neg (by omega), h1]
theorem zN.sL {σ : Mem} (h : zN σ) {a k : Nat} {v : Int64} (ha : a < gN σ) : zN (sL σ a k v) := fun b hb => by
  have hb : gN σ ≤ b := hb
  obtain ⟨h1, h2, h3, h4⟩ := h b hb
  refine ⟨h1, ?_, h3, h4⟩
  funext j
  rw [gL_sL, if_neg (by omega), h2]
theorem zN.sR {σ : Mem} (h : zN σ) {a k : Nat} {v : Option Nat} (ha : a < gN σ) : zN (sR σ a k v) := fun b hb => by
  have hb : gN σ ≤ b := hb
  obtain ⟨h1, h2, h3, h4⟩ := h b hb
  refine ⟨h1, h2, ?_, h4⟩
  funext j
  rw [gR_sR, if_neg (by omega), h3]
theorem zN.sB {σ : Mem} (h : zN σ) {a k : Nat} {v : Bool} (ha : a < gN σ) : zN (sB σ a k v) := fun b hb => by
  have hb : gN σ ≤ b := hb
  obtain ⟨h1, h2, h3, h4⟩ := h b hb
  refine ⟨h1, h2, h3, ?_⟩
  funext j
  rw [gB_sB, if_neg (by omega), h4]
theorem zN_mem0 (n : Nat) : zN (mem0 n) := fun _ _ => ⟨rfl, rfl, rfl, rfl⟩
/-- a step of a constructor: n cells more, w slots; the ints, longs and truths as they were -/
def cMore (n w : Nat) (σ σ' : Mem) : Prop := gN σ' = gN σ + n ∧ gU σ' = gU σ + w ∧ (∀ a, a < gN σ → gT σ' a = gT σ a) ∧ gI σ' = gI σ ∧ gL σ' = gL σ ∧ gB σ' = gB σ ∧ zN σ'
theorem lit_nw {σ : Mem} {t n : Nat} (h : n ≤ 2000000) : nwA σ t (@OfNat.ofNat Int32 n _) = some (nw σ (100 + t, n) n) := by rw [nl, nwA_ok h]
theorem Pa_init_ok {σ : Mem} {th : Nat} (hz : zN σ) (ht : (gT σ th).1 = 4) (hlt : th < gN σ) : ∃ σ', Pa_init σ th = some σ' ∧ cMore 3 18 σ σ' ∧ gT σ' (gN σ) = (101, 8) ∧ gT σ' (gN σ + 1) = (100, 8) ∧ gT σ' (gN σ + 2) = (100, 2) ∧ gR σ' th 7 = some (gN σ) ∧ gR σ' th 8 = some (gN σ + 1) ∧ gR σ' th 14 = some (gN σ + 2) ∧ ∀ a j, a ≠ th → gR σ' a j = gR σ a j := by
  unfold Pa_init
  rw [lit_nw (by decide)]
  simp only [Option.bind_some, Nat.reduceAdd, gN_nw, gN_sI, gN_sL, gN_sR, gN_sB]
  rw [stR_ok (by simp only [gT_sI, gT_sL, gT_sR, gT_sB, gN_sI, gN_sL, gN_sR, gN_sB, gU_sI, gU_sL, gU_sR, gU_sB, gI_sL, gI_sR, gI_sB, gL_sI, gL_sR, gL_sB, gR_sI, gR_sL, gR_sB, gB_sI, gB_sL, gB_sR, gI_sI, gL_sL, gR_sR, gB_sB, gT_nw, gN_nw, gU_nw, gI_nw, gL_nw, gR_nw, gB_nw, gT_nwC, gN_nwC, gU_nwC, gI_nwC, gL_nwC, gR_nwC, gB_nwC]; rw [if_neg (by omega)]; exact ht)]
  simp only [Option.bind_some]
  rw [lit_nw (by decide)]
  simp only [Option.bind_some, Nat.reduceAdd, gN_nw, gN_sI, gN_sL, gN_sR, gN_sB]
  rw [stR_ok (by simp only [gT_sI, gT_sL, gT_sR, gT_sB, gN_sI, gN_sL, gN_sR, gN_sB, gU_sI, gU_sL, gU_sR, gU_sB, gI_sL, gI_sR, gI_sB, gL_sI, gL_sR, gL_sB, gR_sI, gR_sL, gR_sB, gB_sI, gB_sL, gB_sR, gI_sI, gL_sL, gR_sR, gB_sB, gT_nw, gN_nw, gU_nw, gI_nw, gL_nw, gR_nw, gB_nw, gT_nwC, gN_nwC, gU_nwC, gI_nwC, gL_nwC, gR_nwC, gB_nwC]; rw [if_neg (by omega), if_neg (by omega)]; exact ht)]
  simp only [Option.bind_some]
  rw [lit_nw (by decide)]
  simp only [Option.bind_some, Nat.reduceAdd, gN_nw, gN_sI, gN_sL, gN_sR, gN_sB]
  rw [stR_ok (by simp only [gT_sI, gT_sL, gT_sR, gT_sB, gN_sI, gN_sL, gN_sR, gN_sB, gU_sI, gU_sL, gU_sR, gU_sB, gI_sL, gI_sR, gI_sB, gL_sI, gL_sR, gL_sB, gR_sI, gR_sL, gR_sB, gB_sI, gB_sL, gB_sR, gI_sI, gL_sL, gR_sR, gB_sB, gT_nw, gN_nw, gU_nw, gI_nw, gL_nw, gR_nw, gB_nw, gT_nwC, gN_nwC, gU_nwC, gI_nwC, gL_nwC, gR_nwC, gB_nwC]; rw [if_neg (by omega), if_neg (by omega), if_neg (by omega)]; exact ht)]
  simp only [Option.bind_some]
  have z1 := hz.nw (101, 8) 8
  have z2 : zN (sR (nw σ (101, 8) 8) th 7 (some (gN σ))) := z1.sR (by simp only [gT_sI, gT_sL, gT_sR, gT_sB, gN_sI, gN_sL, gN_sR, gN_sB, gU_sI, gU_sL, gU_sR, gU_sB, gI_sL, gI_sR, gI_sB, gL_sI, gL_sR, gL_sB, gR_sI, gR_sL, gR_sB, gB_sI, gB_sL, gB_sR, gI_sI, gL_sL, gR_sR, gB_sB, gT_nw, gN_nw, gU_nw, gI_nw, gL_nw, gR_nw, gB_nw, gT_nwC, gN_nwC, gU_nwC, gI_nwC, gL_nwC, gR_nwC, gB_nwC]; omega)
  have z3 := z2.nw (100, 8) 8
  have z4 : zN (sR (nw (sR (nw σ (101, 8) 8) th 7 (some (gN σ))) (100, 8) 8) th 8 (some (gN σ + 1))) := z3.sR (by simp only [gT_sI, gT_sL, gT_sR, gT_sB, gN_sI, gN_sL, gN_sR, gN_sB, gU_sI, gU_sL, gU_sR, gU_sB, gI_sL, gI_sR, gI_sB, gL_sI, gL_sR, gL_sB, gR_sI, gR_sL, gR_sB, gB_sI, gB_sL, gB_sR, gI_sI, gL_sL, gR_sR, gB_sB, gT_nw, gN_nw, gU_nw, gI_nw, gL_nw, gR_nw, gB_nw, gT_nwC, gN_nwC, gU_nwC, gI_nwC, gL_nwC, gR_nwC, gB_nwC]; omega)
  have z5 := z4.nw (100, 2) 2
  refine ⟨_, rfl, ⟨by simp only [gT_sI, gT_sL, gT_sR, gT_sB, gN_sI, gN_sL, gN_sR, gN_sB, gU_sI, gU_sL, gU_sR, gU_sB, gI_sL, gI_sR, gI_sB, gL_sI, gL_sR, gL_sB, gR_sI, gR_sL, gR_sB, gB_sI, gB_sL, gB_sR, gI_sI, gL_sL, gR_sR, gB_sB, gT_nw, gN_nw, gU_nw, gI_nw, gL_nw, gR_nw, gB_nw, gT_nwC, gN_nwC, gU_nwC, gI_nwC, gL_nwC, gR_nwC, gB_nwC], by simp only [gT_sI, gT_sL, gT_sR, gT_sB, gN_sI, gN_sL, gN_sR, gN_sB, gU_sI, gU_sL, gU_sR, gU_sB, gI_sL, gI_sR, gI_sB, gL_sI, gL_sR, gL_sB, gR_sI, gR_sL, gR_sB, gB_sI, gB_sL, gB_sR, gI_sI, gL_sL, gR_sR, gB_sB, gT_nw, gN_nw, gU_nw, gI_nw, gL_nw, gR_nw, gB_nw, gT_nwC, gN_nwC, gU_nwC, gI_nwC, gL_nwC, gR_nwC, gB_nwC], fun a ha => by simp only [gT_sI, gT_sL, gT_sR, gT_sB, gN_sI, gN_sL, gN_sR, gN_sB, gU_sI, gU_sL, gU_sR, gU_sB, gI_sL, gI_sR, gI_sB, gL_sI, gL_sR, gL_sB, gR_sI, gR_sL, gR_sB, gB_sI, gB_sL, gB_sR, gI_sI, gL_sL, gR_sR, gB_sB, gT_nw, gN_nw, gU_nw, gI_nw, gL_nw, gR_nw, gB_nw, gT_nwC, gN_nwC, gU_nwC, gI_nwC, gL_nwC, gR_nwC, gB_nwC]; rw [if_neg (by omega), if_neg (by omega), if_neg (by omega)], ?_, ?_, ?_, ?_⟩, ?_⟩
  · simp only [gI_sR]
    rw [z4.I, gI_sR, z2.I, gI_sR, hz.I]
  · simp only [gL_sR]
    rw [z4.L, gL_sR, z2.L, gL_sR, hz.L]
  · simp only [gB_sR]
    rw [z4.B, gB_sR, z2.B, gB_sR, hz.B]
  · exact z5.sR (by simp only [gT_sI, gT_sL, gT_sR, gT_sB, gN_sI, gN_sL, gN_sR, gN_sB, gU_sI, gU_sL, gU_sR, gU_sB, gI_sL, gI_sR, gI_sB, gL_sI, gL_sR, gL_sB, gR_sI, gR_sL, gR_sB, gB_sI, gB_sL, gB_sR, gI_sI, gL_sL, gR_sR, gB_sB, gT_nw, gN_nw, gU_nw, gI_nw, gL_nw, gR_nw, gB_nw, gT_nwC, gN_nwC, gU_nwC, gI_nwC, gL_nwC, gR_nwC, gB_nwC]; omega)
  · refine ⟨?_, ?_, ?_, ?_, ?_, ?_, ?_⟩
    · simp [gT_sI, gT_sL, gT_sR, gT_sB, gN_sI, gN_sL, gN_sR, gN_sB, gU_sI, gU_sL, gU_sR, gU_sB, gI_sL, gI_sR, gI_sB, gL_sI, gL_sR, gL_sB, gR_sI, gR_sL, gR_sB, gB_sI, gB_sL, gB_sR, gI_sI, gL_sL, gR_sR, gB_sB, gT_nw, gN_nw, gU_nw, gI_nw, gL_nw, gR_nw, gB_nw, gT_nwC, gN_nwC, gU_nwC, gI_nwC, gL_nwC, gR_nwC, gB_nwC]; omega
    · simp [gT_sI, gT_sL, gT_sR, gT_sB, gN_sI, gN_sL, gN_sR, gN_sB, gU_sI, gU_sL, gU_sR, gU_sB, gI_sL, gI_sR, gI_sB, gL_sI, gL_sR, gL_sB, gR_sI, gR_sL, gR_sB, gB_sI, gB_sL, gB_sR, gI_sI, gL_sL, gR_sR, gB_sB, gT_nw, gN_nw, gU_nw, gI_nw, gL_nw, gR_nw, gB_nw, gT_nwC, gN_nwC, gU_nwC, gI_nwC, gL_nwC, gR_nwC, gB_nwC]
    · simp [gT_sI, gT_sL, gT_sR, gT_sB, gN_sI, gN_sL, gN_sR, gN_sB, gU_sI, gU_sL, gU_sR, gU_sB, gI_sL, gI_sR, gI_sB, gL_sI, gL_sR, gL_sB, gR_sI, gR_sL, gR_sB, gB_sI, gB_sL, gB_sR, gI_sI, gL_sL, gR_sR, gB_sB, gT_nw, gN_nw, gU_nw, gI_nw, gL_nw, gR_nw, gB_nw, gT_nwC, gN_nwC, gU_nwC, gI_nwC, gL_nwC, gR_nwC, gB_nwC]
    · simp only [gT_sI, gT_sL, gT_sR, gT_sB, gN_sI, gN_sL, gN_sR, gN_sB, gU_sI, gU_sL, gU_sR, gU_sB, gI_sL, gI_sR, gI_sB, gL_sI, gL_sR, gL_sB, gR_sI, gR_sL, gR_sB, gB_sI, gB_sL, gB_sR, gI_sI, gL_sL, gR_sR, gB_sB, gT_nw, gN_nw, gU_nw, gI_nw, gL_nw, gR_nw, gB_nw, gT_nwC, gN_nwC, gU_nwC, gI_nwC, gL_nwC, gR_nwC, gB_nwC]; simp; omega
    · simp only [gT_sI, gT_sL, gT_sR, gT_sB, gN_sI, gN_sL, gN_sR, gN_sB, gU_sI, gU_sL, gU_sR, gU_sB, gI_sL, gI_sR, gI_sB, gL_sI, gL_sR, gL_sB, gR_sI, gR_sL, gR_sB, gB_sI, gB_sL, gB_sR, gI_sI, gL_sL, gR_sR, gB_sB, gT_nw, gN_nw, gU_nw, gI_nw, gL_nw, gR_nw, gB_nw, gT_nwC, gN_nwC, gU_nwC, gI_nwC, gL_nwC, gR_nwC, gB_nwC]; simp; omega
    · simp [gT_sI, gT_sL, gT_sR, gT_sB, gN_sI, gN_sL, gN_sR, gN_sB, gU_sI, gU_sL, gU_sR, gU_sB, gI_sL, gI_sR, gI_sB, gL_sI, gL_sR, gL_sB, gR_sI, gR_sL, gR_sB, gB_sI, gB_sL, gB_sR, gI_sI, gL_sL, gR_sR, gB_sB, gT_nw, gN_nw, gU_nw, gI_nw, gL_nw, gR_nw, gB_nw, gT_nwC, gN_nwC, gU_nwC, gI_nwC, gL_nwC, gR_nwC, gB_nwC]
    · intro a j ha
      simp only [gR_sR, if_neg (show ¬ (a = th ∧ j = 14) by omega)]
      rw [z4.R, gR_sR, if_neg (by omega), z2.R, gR_sR, if_neg (by omega), hz.R]
theorem lp_for {α β τ : Type} {f : α → Option (α ⊕ β)} (st : Nat → τ → α) (k : Nat) (I : Nat → τ → Prop) (Q : β → Prop) (hs : ∀ i s, i < k → I i s → (∃ s', f (st i s) = some (.inl (st (i + 1) s')) ∧ I (i + 1) s') ∨ ∃ b, f (st i s) = some (.inr b) ∧ Q b) (he : ∀ s, I k s → ∃ b, f (st k s) = some (.inr b) ∧ Q b) : ∀ n i s, k = i + n → I i s → ∃ b, lp f (st i s) = some b ∧ Q b
  | 0, i, s, h, hI => by
    obtain rfl : k = i := by omega
    obtain ⟨b, h1, h2⟩ := he s hI
    exact ⟨b, lp_out h1, h2⟩
  | n + 1, i, s, h, hI => by
    rcases hs i s (by omega) hI with ⟨s', e, hI'⟩ | ⟨b, h1, h2⟩
    · obtain ⟨b, h1, h2⟩ := lp_for st k I Q hs he n (i + 1) s' (by omega) hI'
      exact ⟨b, by rw [lp_on e]; exact h1, h2⟩
    · exact ⟨b, lp_out h1, h2⟩
theorem ex_bd {α β : Type} {x : Option α} {K : α → Option β} {P : β → Prop} (Q : α → Prop) (h : ∃ a, x = some a ∧ Q a) (h2 : ∀ a, Q a → ∃ b, K a = some b ∧ P b) : ∃ b, x.bind K = some b ∧ P b := by
  obtain ⟨a, rfl, q⟩ := h
  exact h2 a q
theorem cMore.rf {σ : Mem} (h : zN σ) : cMore 0 0 σ σ := ⟨rfl, rfl, fun _ _ => rfl, rfl, rfl, rfl, h⟩
theorem cMore.nw {n w : Nat} {σ m : Mem} (h : cMore n w σ m) (t : Nat × Nat) (v : Nat) : cMore (n + 1) (w + v) σ (nw m t v) := by
  obtain ⟨h1, h2, h3, h4, h5, h6, h7⟩ := h
  refine ⟨by rw [gN_nw, h1]; omega, by rw [gU_nw, h2]; omega, fun a ha => ?_, by rw [h7.I, h4], by rw [h7.L, h5], by rw [h7.B, h6], h7.nw _ _⟩
  rw [gT_nw, if_neg (by omega)]
  exact h3 a ha
theorem cMore.sR {n w : Nat} {σ m : Mem} (h : cMore n w σ m) {a k : Nat} {v : Option Nat} (ha : a < gN m) : cMore n w σ (sR m a k v) := by
  obtain ⟨h1, h2, h3, h4, h5, h6, h7⟩ := h
  exact ⟨h1, h2, h3, h4, h5, h6, h7.sR ha⟩
theorem cMore.tr {n w n' w' : Nat} {σ m m' : Mem} (h : cMore n w σ m) (h' : cMore n' w' m m') : cMore (n + n') (w + w') σ m' := by
  obtain ⟨h1, h2, h3, h4, h5, h6, h7⟩ := h
  obtain ⟨k1, k2, k3, k4, k5, k6, k7⟩ := h'
  exact ⟨by omega, by omega, fun a ha => by rw [k3 a (by omega), h3 a ha], by rw [k4, h4], by rw [k5, h5], by rw [k6, h6], k7⟩
/-- a part of a query at its place: its tags and references -/
def pTg (σ : Mem) (p : Nat) : Prop := gT σ p = (4, 0) ∧ gT σ (p + 1) = (101, 8) ∧ gT σ (p + 2) = (100, 8) ∧ gT σ (p + 3) = (100, 2) ∧ gR σ p 7 = some (p + 1) ∧ gR σ p 8 = some (p + 2) ∧ gR σ p 14 = some (p + 3)
theorem Qu_init_ok {σ : Mem} {th : Nat} (hz : zN σ) (ht : (gT σ th).1 = 5) (hlt : th < gN σ) : ∃ σ', Qu_init σ th = some σ' ∧ cMore 161 1360 σ σ' ∧ gT σ' (gN σ) = (107, 40) ∧ (∀ j, j < 40 → gR σ' (gN σ) j = some (gN σ + (1 + 4 * j)) ∧ pTg σ' (gN σ + (1 + 4 * j))) ∧ gR σ' th 0 = some (gN σ) ∧ ∀ a k, a < gN σ → ¬ (a = th ∧ k = 0) → gR σ' a k = gR σ a k := by
  unfold Qu_init
  rw [lit_nw (by decide)]
  simp only [Option.bind_some, Nat.reduceAdd, gN_nw, gN_sI, gN_sL, gN_sR, gN_sB]
  rw [stR_ok (by simp only [gT_sI, gT_sL, gT_sR, gT_sB, gN_sI, gN_sL, gN_sR, gN_sB, gU_sI, gU_sL, gU_sR, gU_sB, gI_sL, gI_sR, gI_sB, gL_sI, gL_sR, gL_sB, gR_sI, gR_sL, gR_sB, gB_sI, gB_sL, gB_sR, gI_sI, gL_sL, gR_sR, gB_sB, gT_nw, gN_nw, gU_nw, gI_nw, gL_nw, gR_nw, gB_nw, gT_nwC, gN_nwC, gU_nwC, gI_nwC, gL_nwC, gR_nwC, gB_nwC]; rw [if_neg (by omega)]; exact ht)]
  simp only [Option.bind_some, Nat.reduceAdd, gN_nw, gN_sI, gN_sL, gN_sR, gN_sB]
  simp only [nl]
  refine ex_bd (fun m => cMore 161 1360 σ m ∧ gT m (gN σ) = (107, 40) ∧ (∀ j, j < 40 → gR m (gN σ) j = some (gN σ + (1 + 4 * j)) ∧ pTg m (gN σ + (1 + 4 * j))) ∧ gR m th 0 = some (gN σ) ∧ ∀ a k, a < gN σ → ¬ (a = th ∧ k = 0) → gR m a k = gR σ a k) ?_ (fun z hz => ⟨z, rfl, hz⟩)
  refine lp_for (fun i (m : Mem) => (nI i, m)) 40 (fun i m => cMore (1 + 4 * i) (40 + 33 * i) σ m ∧ gT m (gN σ) = (107, 40) ∧ (∀ j, j < i → gR m (gN σ) j = some (gN σ + (1 + 4 * j)) ∧ pTg m (gN σ + (1 + 4 * j))) ∧ gR m th 0 = some (gN σ) ∧ ∀ a k, a < gN σ → ¬ (a = th ∧ k = 0) → gR m a k = gR σ a k) _ ?_ ?_ 40 0 _ rfl ?_
  · rintro i m hi ⟨hm, h1, h2, h3, h4⟩
    left
    have hN := hm.1
    unfold Qu_init_l15
    simp only [nl]
    rw [if_neg (nI_ge hi (by omega)), ldR_ok (by rw [hm.2.2.1 th hlt]; exact ht), h3]
    simp only [Option.bind_some]
    have hm5 : cMore (1 + 4 * i + 1) (40 + 33 * i + 15) σ (nwO m 4) := hm.nw (4, 0) 15
    obtain ⟨m6, e6, c6, t1, t2, t3, r1, r2, r3, rr⟩ := Pa_init_ok (σ := nwO m 4) (th := gN m) hm5.2.2.2.2.2.2 (by rw [nwO, gT_nw, if_pos rfl]) (by rw [nwO, gN_nw]; omega)
    rw [e6]
    simp only [Option.bind_some]
    have hm6 := hm5.tr c6
    have hN5 : gN (nwO m 4) = gN m + 1 := gN_nw _ _ _
    have hT6 : ∀ a, a < gN m → gT m6 a = gT m a := fun a ha => by rw [c6.2.2.1 a (by omega), nwO, gT_nw, if_neg (by omega)]
    have hT6n : gT m6 (gN m) = (4, 0) := by rw [c6.2.2.1 (gN m) (by omega), nwO, gT_nw, if_pos rfl]
    have hR6 : ∀ a k, a ≠ gN m → gR m6 a k = gR m a k := fun a k ha => by rw [rr a k ha, nwO, hm.2.2.2.2.2.2.R]
    rw [waR_ok (N := 40) (by rw [hT6 _ (by omega), h1]) hi (by omega) (by simp [okR, hT6n])]
    simp only [Option.bind_some, nI_add]
    refine ⟨_, rfl, ?_, ?_, ?_, ?_, ?_⟩
    · have := hm6.sR (a := gN σ) (k := i) (v := some (gN m)) (by rw [hm6.1]; omega)
      rw [show 1 + 4 * i + 1 + 3 = 1 + 4 * (i + 1) by omega, show 40 + 33 * i + 15 + 18 = 40 + 33 * (i + 1) by omega] at this
      exact this
    · rw [gT_sR, hT6 _ (by omega), h1]
    · intro j hj
      by_cases hji : j = i
      · subst hji
        rw [show gN σ + (1 + 4 * j) = gN m by omega]
        refine ⟨by rw [gR_sR, if_pos ⟨rfl, rfl⟩], ?_⟩
        rw [hN5] at t1 t2 t3 r1 r2 r3
        unfold pTg
        simp only [gT_sR, gR_sR]
        rw [if_neg (by omega), if_neg (by omega), if_neg (by omega)]
        exact ⟨hT6n, t1, t2, t3, r1, r2, r3⟩
      · obtain ⟨k1, k2⟩ := h2 j (by omega)
        refine ⟨by rw [gR_sR, if_neg (by omega), hR6 _ _ (by omega)]; exact k1, ?_⟩
        unfold pTg at k2 ⊢
        simp only [gT_sR, gR_sR]
        rw [if_neg (by omega), if_neg (by omega), if_neg (by omega), hR6 _ _ (by omega), hR6 _ _ (by omega), hR6 _ _ (by omega), hT6 _ (by omega), hT6 _ (by omega), hT6 _ (by omega), hT6 _ (by omega)]
        exact k2
    · rw [gR_sR, if_neg (by omega), hR6 _ _ (by omega)]
      exact h3
    · intro a k ha hak
      rw [gR_sR, if_neg (by omega), hR6 _ _ (by omega)]
      exact h4 a k ha hak
  · rintro m hm
    exact ⟨m, by unfold Qu_init_l15; rw [if_pos (by simp only [nl]; exact nI_le (Nat.le_refl _) (by omega))], hm⟩
  · refine ⟨?_, ?_, fun j hj => absurd hj (by omega), ?_, ?_⟩
    · exact ((cMore.rf hz).nw (107, 40) 40).sR (by rw [gN_nw]; omega)
    · rw [gT_sR, gT_nw, if_pos rfl]
    · rw [gR_sR, if_pos ⟨rfl, rfl⟩]
    · intro a k ha hak
      rw [gR_sR, if_neg hak, hz.R]
/-- a new row, and its reference put into a field -/
theorem nwst_ok {m : Mem} {th ci k t n : Nat} {β : Type} (K : Mem → Option β) (hz : zN m) (hlt : th < gN m) (ht : (gT m th).1 = ci) (hn : n ≤ 2000000) : ∃ m', (nwA m t (nI n)).bind (fun m1 => (stR m1 ci k (some th) (some (gN m))).bind K) = K m' ∧ cMore 1 n m m' ∧ gT m' (gN m) = (100 + t, n) ∧ gR m' th k = some (gN m) ∧ ∀ a j, ¬ (a = th ∧ j = k) → gR m' a j = gR m a j := by
  refine ⟨sR (nw m (100 + t, n) n) th k (some (gN m)), ?_, ?_, ?_, ?_, ?_⟩
  · rw [nwA_ok hn]
    simp only [Option.bind_some]
    rw [stR_ok (by rw [gT_nw, if_neg (by omega)]; exact ht)]
    rfl
  · have := ((cMore.rf hz).nw (100 + t, n) n).sR (a := th) (k := k) (v := some (gN m)) (by rw [gN_nw]; omega)
    rw [Nat.zero_add, Nat.zero_add] at this
    exact this
  · rw [gT_sR, gT_nw, if_pos rfl]
  · rw [gR_sR, if_pos ⟨rfl, rfl⟩]
  · intro a j h
    rw [gR_sR, if_neg h, hz.R]
theorem cMore.z {n w : Nat} {σ m : Mem} (h : cMore n w σ m) : zN m := h.2.2.2.2.2.2
theorem cMore.n {n w : Nat} {σ m : Mem} (h : cMore n w σ m) : gN m = gN σ + n := h.1
theorem cMore.t {n w : Nat} {σ m : Mem} (h : cMore n w σ m) {a : Nat} (ha : a < gN σ) : gT m a = gT σ a := h.2.2.1 a ha
theorem Vi_init_ok {σ : Mem} {th : Nat} (hz : zN σ) (ht : (gT σ th).1 = 9) (hlt : th < gN σ) : ∃ σ', Vi_init σ th = some σ' ∧ cMore 3 816 σ σ' ∧ gT σ' (gN σ) = (105, 16) ∧ gT σ' (gN σ + 1) = (104, 400) ∧ gT σ' (gN σ + 2) = (103, 400) ∧ gR σ' th 1 = some (gN σ) ∧ gR σ' th 3 = some (gN σ + 1) ∧ gR σ' th 4 = some (gN σ + 2) ∧ ∀ a j, a ≠ th → gR σ' a j = gR σ a j := by
  unfold Vi_init
  simp only [nl]
  obtain ⟨m1, e1, c1, t1, r1, o1⟩ := nwst_ok (k := 1) (t := 5) (n := 16) (fun m2 => (nwA m2 4 (nI 400)).bind fun m3 => (stR m3 9 3 (some th) (some (gN m2))).bind fun m4 => (nwA m4 3 (nI 400)).bind fun m5 => (stR m5 9 4 (some th) (some (gN m4))).bind fun m6 => some m6) hz hlt ht (by omega)
  rw [e1]
  obtain ⟨m2, e2, c2, t2, r2, o2⟩ := nwst_ok (k := 3) (t := 4) (n := 400) (fun m4 => (nwA m4 3 (nI 400)).bind fun m5 => (stR m5 9 4 (some th) (some (gN m4))).bind fun m6 => some m6) c1.z (th := th) (ci := 9) (by rw [c1.n]; omega) (by rw [c1.t hlt, ht]) (by omega)
  rw [e2]
  have c12 := c1.tr c2
  obtain ⟨m3, e3, c3, t3, r3, o3⟩ := nwst_ok (k := 4) (t := 3) (n := 400) (fun m6 => some m6) c2.z (th := th) (ci := 9) (by rw [c12.n]; omega) (by rw [c12.t hlt, ht]) (by omega)
  rw [e3]
  have n1 := c1.n
  have n2 := c12.n
  refine ⟨m3, rfl, c12.tr c3, ?_, ?_, ?_, ?_, ?_, ?_, ?_⟩
  · rw [c3.t (by omega), c2.t (by omega), t1]
  · rw [← n1, c3.t (by omega), t2]
  · rw [show gN σ + 2 = gN m2 by omega, t3]
  · rw [o3 _ _ (by omega), o2 _ _ (by omega), r1]
  · rw [o3 _ _ (by omega), r2, n1]
  · rw [r3, n2]
  · intro a j ha
    rw [o3 _ _ (by omega), o2 _ _ (by omega), o1 _ _ (by omega)]
theorem Ne_init_ok {σ : Mem} {th : Nat} (hz : zN σ) (ht : (gT σ th).1 = 2) (hlt : th < gN σ) : ∃ σ', Ne_init σ th = some σ' ∧ cMore 3 37 σ σ' ∧ gT σ' (gN σ) = (100, 12) ∧ gT σ' (gN σ + 1) = (100, 12) ∧ gT σ' (gN σ + 2) = (100, 13) ∧ gR σ' th 4 = some (gN σ) ∧ gR σ' th 6 = some (gN σ + 1) ∧ gR σ' th 7 = some (gN σ + 2) ∧ ∀ a j, a ≠ th → gR σ' a j = gR σ a j := by
  unfold Ne_init
  simp only [nl]
  obtain ⟨m1, e1, c1, t1, r1, o1⟩ := nwst_ok (k := 4) (t := 0) (n := 12) (fun m2 => (nwA m2 0 (nI 12)).bind fun m3 => (stR m3 2 6 (some th) (some (gN m2))).bind fun m4 => (nwA m4 0 (nI 13)).bind fun m5 => (stR m5 2 7 (some th) (some (gN m4))).bind fun m6 => some m6) hz hlt ht (by omega)
  rw [e1]
  obtain ⟨m2, e2, c2, t2, r2, o2⟩ := nwst_ok (k := 6) (t := 0) (n := 12) (fun m4 => (nwA m4 0 (nI 13)).bind fun m5 => (stR m5 2 7 (some th) (some (gN m4))).bind fun m6 => some m6) c1.z (th := th) (ci := 2) (by rw [c1.n]; omega) (by rw [c1.t hlt, ht]) (by omega)
  rw [e2]
  have c12 := c1.tr c2
  obtain ⟨m3, e3, c3, t3, r3, o3⟩ := nwst_ok (k := 7) (t := 0) (n := 13) (fun m6 => some m6) c2.z (th := th) (ci := 2) (by rw [c12.n]; omega) (by rw [c12.t hlt, ht]) (by omega)
  rw [e3]
  have n1 := c1.n
  have n2 := c12.n
  refine ⟨m3, rfl, c12.tr c3, ?_, ?_, ?_, ?_, ?_, ?_, ?_⟩
  · rw [c3.t (by omega), c2.t (by omega), t1]
  · rw [← n1, c3.t (by omega), t2]
  · rw [show gN σ + 2 = gN m2 by omega, t3]
  · rw [o3 _ _ (by omega), o2 _ _ (by omega), r1]
  · rw [o3 _ _ (by omega), r2, n1]
  · rw [r3, n2]
  · intro a j ha
    rw [o3 _ _ (by omega), o2 _ _ (by omega), o1 _ _ (by omega)]
