/-! GREATEST BEGINNINGS; the Speller's constructor -/
theorem Sp_greatestBeginning_ok {σ : Mem} {a : Nat} {tp : Nat → Nat} (h : tpA σ a tp) {p k : Nat} (hp : p + k ≤ 600) : Sp_greatestBeginning σ (some a) (nI p) (nI k) = some (lN ((sg (small tp p k) + 1) * 37 ^ (12 - (small tp p k).length) - 1)) := by
  unfold Sp_greatestBeginning
  have e : minI (nI k) 12 = nI (min k 12) := by
    rw [show (12 : Int32) = nI 12 from rfl, iMin (by omega) (by omega)]
  rw [e, Sp_signsOf_ok h (by omega)]
  simp only [Option.bind_some]
  rw [show (1 : Int64) = lN 1 from rfl, lN_add, Sp_padded_ok (by omega)]
  simp only [Option.bind_some]
  have hl : (small tp p k).length = min k 12 := small_len tp p k
  have hpos : 1 ≤ (sg (small tp p k) + 1) * 37 ^ (12 - min k 12) := Nat.mul_pos (by omega) (Nat.pow_pos (by decide))
  rw [hl]
  exact congrArg some (lN_sub hpos)
/-- the signs of the Speller's stop words -/
def spL : List Nat := (jsByt.getD 0 []).map (fun c => sgn c.toNatClampNeg)
def spF (l : List Nat) : Nat × Nat × Nat × List Nat := l.foldl (fun s c => if c = 0 then (if 11 ≤ s.1 then s else (s.1 + 1, 0, 0, s.2.2.2 ++ [s.2.2.1 * 37 ^ (12 - s.2.1)])) else (s.1, s.2.1 + 1, s.2.2.1 * 37 + c, s.2.2.2)) (0, 0, 0, [])
theorem spL_len : sLen 0 = some (nI spL.length) := by decide +kernel
theorem spL_at : ∀ k, k < spL.length → (sCh 0 (nI k)).bind Sp_signOf = some (nI (spL.getD k 0)) := by decide +kernel
theorem spL_ok : ∀ k, k < spL.length + 1 → (spF (spL.take k)).1 ≤ 11 ∧ (spF (spL.take k)).2.1 ≤ 12 ∧ (spF (spL.take k)).2.2.2.length = (spF (spL.take k)).1 := by decide +kernel
theorem spL_end : (spF spL).1 = 11 ∧ ∀ i, i < 11 → (spF spL).2.2.2.getD i 0 = enc (stopL.getD i []) := by decide +kernel
theorem spL_s : ∀ k, k < spL.length → spF (spL.take (k + 1)) = (if spL.getD k 0 = 0 then (if 11 ≤ (spF (spL.take k)).1 then spF (spL.take k) else ((spF (spL.take k)).1 + 1, 0, 0, (spF (spL.take k)).2.2.2 ++ [(spF (spL.take k)).2.2.1 * 37 ^ (12 - (spF (spL.take k)).2.1)])) else ((spF (spL.take k)).1, (spF (spL.take k)).2.1 + 1, (spF (spL.take k)).2.2.1 * 37 + spL.getD k 0, (spF (spL.take k)).2.2.2)) := by decide +kernel
theorem spL_n : spL.length < 1000 ∧ ∀ k, k < spL.length → spL.getD k 0 < 37 := by decide +kernel
