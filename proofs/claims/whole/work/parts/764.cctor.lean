/-- the references of a new engine -/
theorem E_refs {σ : Mem} {e : Nat} (h0 : gR σ e 0 = some (e + 1)) (h1 : ∀ j, j < 5 → gR σ e (eL.getD j (0, 0, 0)).1 = some (e + 3 + j)) (h12 : gR σ e 12 = some (e + 24)) (h14 : gR σ e 14 = some (e + 351)) (hs : gR σ (e + 1) 2 = some (e + 2)) (h4 : ∀ i, i < 4 → gR σ (e + 7) i = some (e + 8 + 4 * i) ∧ vTg σ (e + 8 + 4 * i)) (h24a : gR σ (e + 24) 2 = some (e + 187)) (h24b : gR σ (e + 24) 3 = some (e + 188)) (h25 : gR σ (e + 25) 0 = some (e + 26)) (hp : ∀ j, j < 40 → gR σ (e + 26) j = some (e + 25 + (2 + 4 * j)) ∧ pTg σ (e + 25 + (2 + 4 * j))) (h189 : gR σ (e + 189) 0 = some (e + 190)) (hp2 : ∀ j, j < 40 → gR σ (e + 190) j = some (e + 190 + (1 + 4 * j)) ∧ pTg σ (e + 190 + (1 + 4 * j))) (h351 : gR σ (e + 351) 4 = some (e + 352)) (h352 : gR σ (e + 351) 6 = some (e + 353)) (h353 : gR σ (e + 351) 7 = some (e + 354)) : fixR σ e := by
  refine ⟨h0, h1 0 (by decide), h1 1 (by decide), h1 2 (by decide), h1 3 (by decide), h1 4 (by decide), h12, h14, hs, fun i hi => ?_, h24a, h24b, fun q hq => ?_, h351, h352, h353⟩
  · obtain ⟨a, -, -, -, -, b1, b2, b3⟩ := h4 i hi
    have e1 : e + 8 + 4 * i = e + (8 + 4 * i) := by omega
    rw [e1] at a b1 b2 b3
    refine ⟨a, ?_, ?_, ?_⟩
    · rw [b1]; congr 1; omega
    · rw [b2]; congr 1; omega
    · rw [b3]; congr 1; omega
  · rcases hq with rfl | rfl
    · refine ⟨h25, fun j hj => ?_⟩
      obtain ⟨a, -, -, -, -, b1, b2, b3⟩ := hp j hj
      have e1 : e + 25 + (2 + 4 * j) = e + (25 + 2 + 4 * j) := by omega
      rw [e1] at a b1 b2 b3
      refine ⟨a, ?_, ?_, ?_⟩
      · rw [b1]; congr 1; omega
      · rw [b2]; congr 1; omega
      · rw [b3]; congr 1; omega
    · refine ⟨h189, fun j hj => ?_⟩
      obtain ⟨a, -, -, -, -, b1, b2, b3⟩ := hp2 j hj
      have e1 : e + 190 + (1 + 4 * j) = e + (189 + 2 + 4 * j) := by omega
      rw [e1] at a b1 b2 b3
      refine ⟨a, ?_, ?_, ?_⟩
      · rw [b1]; congr 1; omega
      · rw [b2]; congr 1; omega
      · rw [b3]; congr 1; omega
