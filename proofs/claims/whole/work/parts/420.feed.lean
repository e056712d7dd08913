/-! feed -/
theorem sh_amt : ∀ k, k < 8 → (nI (56 - 8 * k)).toInt64 &&& 63 = Int64.ofNat (56 - 8 * k) ∧ Int64.toUInt64 ((nI (56 - 8 * k)).toInt64) &&& Int64.toUInt64 63 = UInt64.ofNat (56 - 8 * k) := by decide +kernel
theorem sh_s : ∀ k, k < 8 → ((Int64.ofNat (56 - 8 * k)).toBitVec.smod 64).toNat = 56 - 8 * k ∧ ((UInt64.ofNat (56 - 8 * k)).toBitVec % 64).toNat = 56 - 8 * k := by decide +kernel
theorem fd_by (x : Int64) (k : Nat) (hk : k < 8) : (ushrL x (nI (56 - 8 * k))).toInt32.toInt8 = ((shrL x (nI (56 - 8 * k))).toInt32 &&& 255).toInt8 := by
  obtain ⟨h1, h2⟩ := sh_amt k hk
  obtain ⟨h3, h4⟩ := sh_s k hk
  unfold ushrL shrL
  rw [h1, show (nI (56 - 8 * k)).toInt64.toUInt64 &&& Int64.toUInt64 63 = _ from h2]
  apply Int8.toBitVec_inj.mp
  have eA : (x.toUInt64 >>> UInt64.ofNat (56 - 8 * k)).toInt64.toBitVec = x.toBitVec >>> (56 - 8 * k) := by
    show x.toBitVec >>> ((UInt64.ofNat (56 - 8 * k)).toBitVec % 64) = _
    rw [BitVec.ushiftRight_eq', h4]
  have eB : (x >>> Int64.ofNat (56 - 8 * k)).toBitVec = x.toBitVec.sshiftRight (56 - 8 * k) := by
    show x.toBitVec.sshiftRight' ((Int64.ofNat (56 - 8 * k)).toBitVec.smod 64) = _
    rw [BitVec.sshiftRight_eq', h3]
  rw [Int32.toBitVec_toInt8, Int32.toBitVec_toInt8, Int32.toBitVec_and, Int64.toBitVec_toInt32, Int64.toBitVec_toInt32, eA, eB]
  apply BitVec.eq_of_getLsbD_eq
  intro i hi
  have h255 : (Int32.toBitVec 255).getLsbD i = true := by
    match i, hi with
    | 0, _ => decide
    | 1, _ => decide
    | 2, _ => decide
    | 3, _ => decide
    | 4, _ => decide
    | 5, _ => decide
    | 6, _ => decide
    | 7, _ => decide
    | n + 8, h => exact absurd h (by omega)
  simp only [BitVec.getLsbD_signExtend, BitVec.getLsbD_and, BitVec.getLsbD_sshiftRight, BitVec.getLsbD_ushiftRight, h255, Bool.and_true]
  simp [show i < 32 by omega, show i < 64 by omega, show 56 - 8 * k + i < 64 by omega, hi]
theorem and255 (x : Int32) : ∃ b, b < 256 ∧ x &&& 255 = nI b := by
  refine ⟨(x.toBitVec &&& 255#32).toNat, ?_, ?_⟩
  · rw [BitVec.toNat_and]
    exact Nat.lt_of_le_of_lt Nat.and_le_right (by decide)
  · apply Int32.toBitVec_inj.mp
    rw [Int32.toBitVec_and]
    show x.toBitVec &&& _ = BitVec.ofNat 32 _
    rw [BitVec.ofNat_toNat]
    simp
/-- byte k of a long, the highest first; of the sixteen of two -/
def bt (x : Int64) (k : Nat) : Nat := ((shrL x (nI (56 - 8 * k))).toInt32 &&& 255).toBitVec.toNat
def fby (a b : Int64) (k : Nat) : Nat := if k < 8 then bt a k else bt b (k - 8)
theorem bt_lt (x : Int64) (k : Nat) : bt x k < 256 := by
  obtain ⟨b, h1, h2⟩ := and255 (shrL x (nI (56 - 8 * k))).toInt32
  unfold bt
  rw [h2]
  show (BitVec.ofNat 32 b).toNat < 256
  rw [BitVec.toNat_ofNat]
  omega
theorem bt_nI (x : Int64) (k : Nat) : (shrL x (nI (56 - 8 * k))).toInt32 &&& 255 = nI (bt x k) := by
  unfold bt
  apply Int32.toBitVec_inj.mp
  show _ = BitVec.ofNat 32 _
  rw [BitVec.ofNat_toNat]
  simp
theorem fby_lt (a b : Int64) (k : Nat) : fby a b k < 256 := by
  unfold fby
  split <;> exact bt_lt _ _
def tpF (tp : Nat → Nat) (n : Nat) (a b : Int64) (k : Nat) : Nat → Nat := fun j => if n ≤ j ∧ j < n + k then fby a b (j - n) else tp j
/-- the reference's state but for some places -/
def rKeep (P : Nat → Nat → Prop) (R R' : RS) : Prop := R'.2 = R.2 ∧ ∀ c j, ¬ P c j → R'.1 c j = R.1 c j
theorem M_in_ok (x a b : Int32) : M_in x a b = some (decide (a ≤ x ∧ x ≤ b)) := by
  unfold M_in
  by_cases h1 : x < a
  · rw [if_pos h1]
    simp [Int32.not_le.mpr h1]
  · rw [if_neg h1]
    by_cases h2 : b < x
    · rw [if_pos h2]
      simp [Int32.not_le.mpr h2]
    · rw [if_neg h2]
      simp [Int32.not_lt.mp h1, Int32.not_lt.mp h2]
theorem M_feed_ok {R : RS} {tp : Nat → Nat} {n : Nat} {a b : Int64} (h : rTape R tp n) {k : Nat} (h1 : 1 ≤ k) (h2 : k ≤ 16) (h3 : n + k ≤ 600) : ∃ R', M_feed R a b (nI k) = some (nI (n + k), R') ∧ rTape R' (tpF tp n a b k) (n + k) ∧ rKeep (fun c j => c = 1 ∨ (c = 0 ∧ j = 3)) R R' := by
  obtain ⟨hn, hs, ht⟩ := h
  have hl : ∃ z, lp (fun q : Int32 × RS => M_feed_l33 q.2 a b (nI k) q.1) (nI 0, R) = some z ∧ (rTape z (tpF tp n a b k) (n + k) ∧ rKeep (fun c j => c = 1 ∨ (c = 0 ∧ j = 3)) R z) := by
    refine lp_inv (fun q => ∃ i, i ≤ k ∧ q.1 = nI i ∧ rTape q.2 (tpF tp n a b i) (n + i) ∧ rKeep (fun c j => c = 1 ∨ (c = 0 ∧ j = 3)) R q.2) (fun q => k - q.1.toNatClampNeg) _ ?_ _ ⟨0, by omega, rfl, ⟨by omega, by rw [Nat.add_zero]; exact hs, fun i hi => by simp [tpF]; rw [if_neg (by omega)]; exact ht i hi⟩, rfl, fun _ _ _ => rfl⟩
    rintro ⟨x, Q⟩ ⟨i, hi, rfl, ⟨-, hQs, hQt⟩, hQk⟩
    simp only at hQs hQt hQk ⊢
    unfold M_feed_l33
    by_cases hik : i = k
    · subst hik
      right
      exact ⟨Q, by rw [if_pos (nI_le (Nat.le_refl _) (by omega))], ⟨by omega, hQs, hQt⟩, hQk⟩
    · left
      have hlt : i < k := by omega
      rw [if_neg (nI_ge hlt (by omega))]
      obtain ⟨y, hy, hyb⟩ : ∃ y : Int64, (if (8 : Int32) ≤ nI i then some (shrL b ((120 : Int32) - (8 : Int32) * nI i)) else some (shrL a ((56 : Int32) - (8 : Int32) * nI i))) = some y ∧ y.toInt32 &&& 255 = nI (fby a b i) := by
        simp only [nl, nI_mul]
        by_cases h8 : 8 ≤ i
        · refine ⟨_, if_pos (nI_le h8 (by omega)), ?_⟩
          rw [nI_sub (by omega), show 120 - 8 * i = 56 - 8 * (i - 8) by omega]
          unfold fby
          rw [if_neg (by omega)]
          exact bt_nI b (i - 8)
        · refine ⟨_, if_neg (nI_ge (by omega) (by omega)), ?_⟩
          rw [nI_sub (by omega)]
          unfold fby
          rw [if_pos (by omega)]
          exact bt_nI a i
      rw [hy]
      simp only [Option.bind_some, hyb, hQs]
      rw [wrI_ok (by omega) (by omega)]
      simp only [Option.bind_some]
      refine ⟨_, rfl, ⟨i + 1, by omega, by simp only [nl, nI_add], ⟨by omega, ?_, ?_⟩, ?_⟩, ?_⟩
      · simp [pI, up2, hQs, nl, nI_add]
        rw [Nat.add_assoc]
      · intro j hj
        have hj' := hQt j hj
        refine ⟨?_, ?_⟩
        · unfold tpF
          split
          · exact fby_lt _ _ _
          · exact (ht j hj).1
        · simp only [pI, up2]
          by_cases hji : j = n + i
          · subst hji
            simp [tpF]
          · simp only [hji, and_false, if_false, Nat.one_ne_zero, false_and]
            rw [hj'.2]
            simp only [tpF]
            by_cases hlt2 : n ≤ j ∧ j < n + i
            · rw [if_pos hlt2, if_pos (by omega)]
            · rw [if_neg hlt2, if_neg (by omega)]
      · refine ⟨hQk.1, fun c j hcj => ?_⟩
        rw [← hQk.2 c j hcj]
        simp only [pI, up2]
        simp only [not_or, not_and] at hcj
        rw [if_neg (by omega), if_neg (by omega)]
      · simp only [nl, nI_add]
        rw [nI_clamp (by omega), nI_clamp (by omega)]
        omega
  obtain ⟨z, hz, hzt, hzk⟩ := hl
  refine ⟨z, ?_, hzt, hzk⟩
  unfold M_feed
  rw [M_in_ok]
  simp only [nl, nI_leI (show 1 < 2 ^ 31 by omega) (show k < 2 ^ 31 by omega), nI_leI (show k < 2 ^ 31 by omega) (show 16 < 2 ^ 31 by omega), Option.bind_some, hs, nI_add]
  rw [if_pos (by simp; omega), if_pos (nI_le (by omega) (by omega)), hz]
  simp only [Option.bind_some, hzt.2.1]
