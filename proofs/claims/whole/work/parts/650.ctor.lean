/-! GREATEST BEGINNINGS; the Speller's constructor -/
theorem Sp_greatestBeginning_ok {σ : Mem} {a : Nat} {tp : Nat → Nat} (h : tpA σ a tp) {p k : Nat} (hp : p + k ≤ 600) : Sp_greatestBeginning σ (some a) (nI p) (nI k) = some (lN ((sg (small tp p k) + 1) * 37 ^ (12 - (small tp p k).length) - 1)) := by
  unfold Sp_greatestBeginning
  have e : minI (nI k) 12 = nI (min k 12) := by
    rw [show (12 : Int32) = nI 12 from rfl, iMin (by omega) (by omega)]
  rw [e, Sp_signsOf_ok h (by omega)]
  simp only [Option.bind_some]
  rw [show (1 : Int64) = lN 1 from rfl, lN_add, Sp_padded_ok (by omega)]
  simp only [Option.bind_some]
  have hl : (small tp p k).length = min k 12 := small_len tp p k
  have hpos : 1 ≤ (sg (small tp p k) + 1) * 37 ^ (12 - min k 12) := Nat.mul_pos (by omega) (Nat.pow_pos (by decide))
  rw [hl]
  exact congrArg some (lN_sub hpos)
