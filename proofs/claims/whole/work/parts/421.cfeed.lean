/-! feed of the class -/
/-- only ints at some places change -/
def iKeep (P : Nat → Nat → Prop) (σ σ' : Mem) : Prop := gT σ' = gT σ ∧ gL σ' = gL σ ∧ gR σ' = gR σ ∧ gB σ' = gB σ ∧ gN σ' = gN σ ∧ gU σ' = gU σ ∧ ∀ a j, ¬ P a j → gI σ' a j = gI σ a j
theorem iKeep.rf {P : Nat → Nat → Prop} {σ : Mem} : iKeep P σ σ := ⟨rfl, rfl, rfl, rfl, rfl, rfl, fun _ _ _ => rfl⟩
theorem iKeep.sI {P : Nat → Nat → Prop} {σ σ' : Mem} {a k : Nat} {v : Int32} (h : iKeep P σ σ') (hP : P a k) : iKeep P σ (sI σ' a k v) :=
  ⟨h.1, h.2.1, h.2.2.1, h.2.2.2.1, h.2.2.2.2.1, h.2.2.2.2.2.1, fun b j hb => by rw [gI_sI, if_neg (fun q => hb (by rw [q.1, q.2]; exact hP))]; exact h.2.2.2.2.2.2 b j hb⟩
theorem cFix.ik {e : Nat} {σ σ' : Mem} {st sp : Bool} {P : Nat → Nat → Prop} (h : cFix e σ st sp) (hk : iKeep P σ σ') : cFix e σ' st sp := by
  obtain ⟨h1, h2, h3, h4, h5, h6⟩ := hk
  unfold cFix fixR at *
  rw [h1, h2, h3, h4, h5]
  exact h
theorem cFix.t {e : Nat} {σ : Mem} {st sp : Bool} (h : cFix e σ st sp) (c : Nat) (t : Nat × Nat) (hc : c < 355) (ht : fixT c = t) : gT σ (e + c) = t := by rw [← ht]; exact h.1 c hc
theorem cFix.t0 {e : Nat} {σ : Mem} {st sp : Bool} (h : cFix e σ st sp) : gT σ e = (11, 0) := h.t 0 _ (by omega) rfl
theorem E_feed_ok {σ : Mem} {e : Nat} {st sp : Bool} {tp : Nat → Nat} {n : Nat} {a b : Int64} (hF : cFix e σ st sp) (h : cTape e σ tp n) {k : Nat} (h1 : 1 ≤ k) (h2 : k ≤ 16) (h3 : n + k ≤ 600) : ∃ σ', E_feed σ e a b (nI k) = some (nI (n + k), σ') ∧ cTape e σ' (tpF tp n a b k) (n + k) ∧ iKeep (fun c j => c = e + 3 ∨ (c = e ∧ j = 2)) σ σ' := by
  obtain ⟨hn, hs, ht⟩ := h
  have hl : ∃ z, lp (fun q : Int32 × Mem => E_feed_l35 q.2 e a b (nI k) q.1) (nI 0, σ) = some z ∧ (cTape e z (tpF tp n a b k) (n + k) ∧ iKeep (fun c j => c = e + 3 ∨ (c = e ∧ j = 2)) σ z) := by
    refine lp_inv (fun q => ∃ i, i ≤ k ∧ q.1 = nI i ∧ cTape e q.2 (tpF tp n a b i) (n + i) ∧ iKeep (fun c j => c = e + 3 ∨ (c = e ∧ j = 2)) σ q.2) (fun q => k - q.1.toNatClampNeg) _ ?_ _ ⟨0, by omega, rfl, ⟨by omega, by rw [Nat.add_zero]; exact hs, fun i hi => by simp [tpF]; rw [if_neg (by omega)]; exact ht i hi⟩, iKeep.rf⟩
    rintro ⟨x, Q⟩ ⟨i, hi, rfl, ⟨-, hQs, hQt⟩, hQk⟩
    simp only at hQs hQt hQk ⊢
    have hFQ := hF.ik hQk
    unfold E_feed_l35
    by_cases hik : i = k
    · subst hik
      right
      exact ⟨Q, by rw [if_pos (nI_le (Nat.le_refl _) (by omega))], ⟨by omega, hQs, hQt⟩, hQk⟩
    · left
      have hlt : i < k := by omega
      rw [if_neg (nI_ge hlt (by omega))]
      obtain ⟨y, hy, hyb⟩ : ∃ y : Int64, (if (8 : Int32) ≤ nI i then some b else some a) = some y ∧ ((ushrL y ((56 : Int32) - (8 : Int32) * (nI i &&& (7 : Int32)))).toInt32.toInt8.toInt32).toInt8.toInt32 = jb (fby a b i) := by
        have h7 : ∀ i, i < 16 → nI i &&& 7 = nI (i % 8) := by decide +kernel
        rw [h7 i (by omega)]
        simp only [nl, nI_mul]
        rw [nI_sub (by omega)]
        have key : ∀ (x : Int64) (m : Nat), m < 8 → ((ushrL x (nI (56 - 8 * m))).toInt32.toInt8.toInt32).toInt8.toInt32 = jb (bt x m) := fun x m hm => by
          rw [fd_by x m hm, bt_nI]
          unfold jb
          simp
        by_cases h8 : 8 ≤ i
        · refine ⟨_, if_pos (nI_le h8 (by omega)), ?_⟩
          unfold fby
          rw [if_neg (by omega), show i % 8 = i - 8 by omega]
          exact key b _ (by omega)
        · refine ⟨_, if_neg (nI_ge (by omega) (by omega)), ?_⟩
          unfold fby
          rw [if_pos (by omega), show i % 8 = i by omega]
          exact key a _ (by omega)
      rw [hy]
      simp only [Option.bind_some, hyb]
      have t0 : (gT Q e).1 = 11 := by rw [hFQ.t0]
      have t3 : gT Q (e + 3) = (100 + 2, 600) := hFQ.t 3 _ (by omega) rfl
      rw [ldR_ok t0, hFQ.2.1.2.1]
      simp only [Option.bind_some]
      rw [ldI_ok t0, hQs]
      simp only [Option.bind_some]
      rw [waI_ok t3 (by omega) (by omega)]
      simp only [Option.bind_some]
      rw [ldI_ok (by rw [gT_sI]; exact t0), gI_sI, if_neg (by omega), hQs]
      simp only [Option.bind_some]
      rw [stI_ok (by rw [gT_sI]; exact t0)]
      simp only [Option.bind_some]
      refine ⟨_, rfl, ⟨i + 1, by omega, by simp only [nl, nI_add], ⟨by omega, ?_, ?_⟩, ?_⟩, ?_⟩
      · simp [gI_sI, nl, nI_add]
        rw [Nat.add_assoc]
      · intro j hj
        have hj' := hQt j hj
        refine ⟨?_, ?_⟩
        · unfold tpF
          split
          · exact fby_lt _ _ _
          · exact (ht j hj).1
        · rw [gI_sI, if_neg (by omega), gI_sI]
          by_cases hji : j = n + i
          · subst hji
            simp [tpF]
          · rw [if_neg (by omega), hj'.2]
            simp only [tpF]
            by_cases hlt2 : n ≤ j ∧ j < n + i
            · rw [if_pos hlt2, if_pos (by omega)]
            · rw [if_neg hlt2, if_neg (by omega)]
      · exact (hQk.sI (Or.inl rfl)).sI (Or.inr ⟨rfl, rfl⟩)
      · simp only [nl, nI_add]
        rw [nI_clamp (by omega), nI_clamp (by omega)]
        omega
  obtain ⟨z, hz, hzt, hzk⟩ := hl
  refine ⟨z, ?_, hzt, hzk⟩
  have t0 : (gT σ e).1 = 11 := by rw [hF.t0]
  have t0z : (gT z e).1 = 11 := by rw [(hF.ik hzk).t0]
  unfold E_feed
  simp only [nl]
  rw [if_neg (nI_nlt (by omega) (by omega)), if_pos (nI_le h2 (by omega)), ldI_ok t0, hs]
  simp only [Option.bind_some, nI_add]
  rw [if_pos (nI_le h3 (by omega)), hz]
  simp only [Option.bind_some]
  rw [ldI_ok t0z, hzt.2.1]
  rfl
