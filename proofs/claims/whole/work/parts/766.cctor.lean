/-- the hold of a new engine -/
theorem cH_0 {σ : Mem} {e : Nat} {st sp : Bool} (hT : ∀ c, c < 355 → gT σ (e + c) = fixT c) (hR : fixR σ e) (hQ : fixQ σ e 25) (hst : gB σ (e + 1) 0 = st) (hsp : gB σ (e + 1) 1 = sp) (hL : ∀ i, i < 11 → gL σ (e + 2) i = lN (enc (stopL.getD i []))) (hN : e + 401 ≤ gN σ) (hI : ∀ c k, c < 355 → ¬ (c = 24 ∧ k = 1) → gI σ (e + c) k = nI 0) (hA : gI σ (e + 24) 1 = -1) (hV : ∀ i, i < 4 → gB σ (e + (8 + 4 * i)) 0 = false) (hn : gL σ (e + 351) 0 = lN 0) : cH e (fun _ => 0) σ (fun _ => 0) 0 [] (fun _ => false) 0 [] (fun _ => (false, [], [])) (-1, [], []) none 0 st sp := by
  have h0 : ∀ k, gI σ e k = nI 0 := fun k => hI 0 k (by decide) (by omega)
  refine ⟨⟨hT, hR, hst, hsp, hL, hN⟩, ⟨by omega, h0 2, fun i hi => ⟨by show 0 < 256; decide, ?_⟩⟩, ⟨h0 4, Nat.zero_le _, fun i hi => absurd hi (Nat.not_lt_zero _)⟩, h0 5, ⟨h0 7, Nat.zero_le _, fun i hi => absurd hi (Nat.not_lt_zero _)⟩, fun i hi => ⟨hV i hi, fun h => by cases h⟩, ⟨hA, hI 24 4 (by decide) (by omega), Nat.zero_le _, fun i hi => absurd hi (Nat.not_lt_zero _), 25, hQ, hI 25 1 (by decide) (by omega), Nat.zero_le _, fun i hi => absurd hi (Nat.not_lt_zero _)⟩, hn, h0 8⟩
  rw [hI 3 i (by decide) (by omega)]
  show nI 0 = jb 0
  decide
