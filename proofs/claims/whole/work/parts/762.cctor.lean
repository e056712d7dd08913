/-- the types of a new engine's cells -/
theorem E_types {σ : Mem} {e : Nat} (h0 : gT σ e = (11, 0)) (h1 : gT σ (e + 1) = (7, 0)) (h2 : gT σ (e + 2) = (101, 11)) (h3 : ∀ j, j < 5 → gT σ (e + 3 + j) = (100 + (eL.getD j (0, 0, 0)).2.1, (eL.getD j (0, 0, 0)).2.2)) (h4 : ∀ i, i < 4 → vTg σ (e + 8 + 4 * i)) (h24 : gT σ (e + 24) = (0, 0)) (h25 : gT σ (e + 25) = (5, 0)) (h26 : gT σ (e + 26) = (107, 40)) (hp : ∀ j, j < 40 → pTg σ (e + 25 + (2 + 4 * j))) (h187 : gT σ (e + 187) = (104, 400)) (h188 : gT σ (e + 188) = (100, 400)) (h189 : gT σ (e + 189) = (5, 0)) (h190 : gT σ (e + 190) = (107, 40)) (hp2 : ∀ j, j < 40 → pTg σ (e + 190 + (1 + 4 * j))) (h351 : gT σ (e + 351) = (2, 0)) (h352 : gT σ (e + 352) = (100, 12)) (h353 : gT σ (e + 353) = (100, 12)) (h354 : gT σ (e + 354) = (100, 13)) : ∀ c, c < 355 → gT σ (e + c) = fixT c := by
  have f4 : ∀ (L : List (Nat × Nat)) (p : Nat) (k : Nat), (∀ r, r < 4 → gT σ (p + r) = L.getD r (99, 0)) → k < 4 → gT σ (p + k) = L.getD k (99, 0) := fun L p k h hk => h k hk
  intro c hc
  unfold fixT
  by_cases c8 : c < 8
  · rw [if_pos c8]
    have h3' : ∀ j, j < 5 → gT σ (e + (3 + j)) = (100 + (eL.getD j (0, 0, 0)).2.1, (eL.getD j (0, 0, 0)).2.2) := fun j hj => by rw [← Nat.add_assoc]; exact h3 j hj
    have : c = 0 ∨ c = 1 ∨ c = 2 ∨ c = 3 ∨ c = 4 ∨ c = 5 ∨ c = 6 ∨ c = 7 := by omega
    rcases this with rfl | rfl | rfl | rfl | rfl | rfl | rfl | rfl
    · exact h0
    · exact h1
    · exact h2
    · exact h3' 0 (by decide)
    · exact h3' 1 (by decide)
    · exact h3' 2 (by decide)
    · exact h3' 3 (by decide)
    · exact h3' 4 (by decide)
  rw [if_neg c8]
  by_cases c24 : c < 24
  · rw [if_pos c24]
    obtain ⟨a, b, d, f, -⟩ := h4 ((c - 8) / 4) (by omega)
    have hr : c = 8 + 4 * ((c - 8) / 4) + (c - 8) % 4 := by omega
    have hm : (c - 8) % 4 = 0 ∨ (c - 8) % 4 = 1 ∨ (c - 8) % 4 = 2 ∨ (c - 8) % 4 = 3 := by omega
    have he : e + c = e + 8 + 4 * ((c - 8) / 4) + (c - 8) % 4 := by omega
    rw [he]
    rcases hm with m | m | m | m
    · rw [m]; exact a
    · rw [m]; exact b
    · rw [m]; exact d
    · rw [m]; exact f
  rw [if_neg c24]
  by_cases c27 : c < 27
  · rw [if_pos c27]
    have : c = 24 ∨ c = 25 ∨ c = 26 := by omega
    rcases this with rfl | rfl | rfl
    · exact h24
    · exact h25
    · exact h26
  rw [if_neg c27]
  by_cases c187 : c < 187
  · rw [if_pos c187]
    obtain ⟨a, b, d, f, -⟩ := hp ((c - 27) / 4) (by omega)
    have hm : (c - 27) % 4 = 0 ∨ (c - 27) % 4 = 1 ∨ (c - 27) % 4 = 2 ∨ (c - 27) % 4 = 3 := by omega
    have he : e + c = e + 25 + (2 + 4 * ((c - 27) / 4)) + (c - 27) % 4 := by omega
    rw [he]
    rcases hm with m | m | m | m
    · rw [m]; exact a
    · rw [m]; exact b
    · rw [m]; exact d
    · rw [m]; exact f
  rw [if_neg c187]
  by_cases c191 : c < 191
  · rw [if_pos c191]
    have : c = 187 ∨ c = 188 ∨ c = 189 ∨ c = 190 := by omega
    rcases this with rfl | rfl | rfl | rfl
    · exact h187
    · exact h188
    · exact h189
    · exact h190
  rw [if_neg c191]
  by_cases c351 : c < 351
  · rw [if_pos c351]
    obtain ⟨a, b, d, f, -⟩ := hp2 ((c - 191) / 4) (by omega)
    have hm : (c - 191) % 4 = 0 ∨ (c - 191) % 4 = 1 ∨ (c - 191) % 4 = 2 ∨ (c - 191) % 4 = 3 := by omega
    have he : e + c = e + 190 + (1 + 4 * ((c - 191) / 4)) + (c - 191) % 4 := by omega
    rw [he]
    rcases hm with m | m | m | m
    · rw [m]; exact a
    · rw [m]; exact b
    · rw [m]; exact d
    · rw [m]; exact f
  rw [if_neg c351]
  have : c = 351 ∨ c = 352 ∨ c = 353 ∨ c = 354 := by omega
  rcases this with rfl | rfl | rfl | rfl
  · exact h351
  · exact h352
  · exact h353
  · exact h354
