/-- the hold of a new reference -/
theorem rH_0 {R : RS} {st sp : Bool} (hI : ∀ c j, c < 46 → R.1 c j = if c = 0 ∧ (j = 27 ∨ j = 35) then -1 else 0) (hB : ∀ c j, c < 46 → R.2.2 c j = if c = 0 ∧ j = 0 then st else if c = 0 ∧ j = 1 then sp else false) : rH R (fun _ => 0) 0 [] (fun _ => false) 0 [] (fun _ => (false, [], [])) (-1, [], []) none 0 st sp := by
  have z : ∀ c j, c < 46 → ¬ (c = 0 ∧ (j = 27 ∨ j = 35)) → R.1 c j = nI 0 := fun c j hc h => by
    rw [hI c j hc, if_neg h]
    rfl
  have b : ∀ c j, c < 46 → c ≠ 0 → R.2.2 c j = false := fun c j hc h => by rw [hB c j hc, if_neg (fun z => h z.1), if_neg (fun z => h z.1)]
  refine ⟨⟨by omega, z _ _ (by decide) (by decide), fun i hi => ⟨by show 0 < 256; decide, z _ _ (by decide) (by omega)⟩⟩, ⟨z _ _ (by decide) (by decide), fun i hi => absurd hi (Nat.not_lt_zero _), fun i _ => b _ _ (by decide) (by decide), fun i f hi => absurd hi (Nat.not_lt_zero _)⟩, ⟨z _ _ (by decide) (by decide), fun k hk => absurd hk (Nat.not_lt_zero _)⟩, ⟨z _ _ (by decide) (by decide), fun k hk => absurd hk (Nat.not_lt_zero _)⟩, fun i hi => ⟨b _ _ (by decide) (by decide), fun h => by cases h⟩, ⟨?_, z _ _ (by decide) (by decide), fun k hk => absurd hk (Nat.not_lt_zero _), [], z _ _ (by decide) (by decide), Nat.zero_le _, fun k hk => absurd hk (Nat.not_lt_zero _), fun _ _ _ => rfl⟩, ?_, z _ _ (by decide) (by decide), ?_, ?_⟩
  · rw [hI 0 27 (by decide), if_pos ⟨rfl, .inl rfl⟩]
  · show R.1 0 35 = -1
    rw [hI 0 35 (by decide), if_pos ⟨rfl, .inr rfl⟩]
  · rw [hB 0 0 (by decide), if_pos ⟨rfl, rfl⟩]
  · rw [hB 0 1 (by decide), if_neg (by decide), if_pos ⟨rfl, rfl⟩]
