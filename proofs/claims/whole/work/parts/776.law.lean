/-! the law's steps -/
theorem scX_ok {b L i : Nat} {xs : Nat → Int32} (hi : i < L) (hL : L ≤ 385) : scX (b, L, xs) (nI i) = some (xs i) := by
  unfold scX
  rw [if_pos (nI_ix (N := L) hi (by omega)), nI_clamp (by omega)]
theorem bind_of {o : Option Mem} {s : Mem} {x y : Int32} (h : o = some s) (hx : x = y) : (o.bind fun q => some (Sum.inl (x, q))) = (some (Sum.inl (y, s)) : Option ((Int32 × Mem) ⊕ Mem)) := by rw [h, hx, Option.bind_some]
theorem ite_bool (a : Int32) : (if a = 0 then some false else some true) = some (!decide (a = 0)) := by
  by_cases h : a = 0
  · rw [if_pos h, decide_eq_true h]; rfl
  · rw [if_neg h, decide_eq_false h]; rfl
theorem law_step {u e c b L : Nat} {xs : Nat → Int32} {st sp : Bool} {σ : Mem} (hS : Sim u e c st sp σ) (hc : c < 64) (hL : L ≤ 385) (hl : 6 * c + 7 ≤ L) : ∃ σ', LW_law_l28 σ (b, L, xs) (some e) (some (e + 355)) (nI (6 * c + 1)) = some (.inl (nI (6 * (c + 1) + 1), σ')) ∧ Sim u e (c + 1) st sp σ' := by
  have h0 := scX_ok (b := b) (xs := xs) (i := 6 * c + 1) (L := L) (by omega) hL
  have ha : ∀ k, k < 6 → nI (6 * c + 1) + nI k = nI (6 * c + 1 + k) := fun k _ => nI_add _ _
  have h1 : scX (b, L, xs) (nI (6 * c + 1) + 1) = some (xs (6 * c + 1 + 1)) := by
    rw [show (1 : Int32) = nI 1 from rfl, ha 1 (by omega)]
    exact scX_ok (by omega) hL
  have h2 : scX (b, L, xs) (nI (6 * c + 1) + 2) = some (xs (6 * c + 1 + 2)) := by
    rw [show (2 : Int32) = nI 2 from rfl, ha 2 (by omega)]
    exact scX_ok (by omega) hL
  have h3 : scX (b, L, xs) (nI (6 * c + 1) + 3) = some (xs (6 * c + 1 + 3)) := by
    rw [show (3 : Int32) = nI 3 from rfl, ha 3 (by omega)]
    exact scX_ok (by omega) hL
  have h4 : scX (b, L, xs) (nI (6 * c + 1) + 4) = some (xs (6 * c + 1 + 4)) := by
    rw [show (4 : Int32) = nI 4 from rfl, ha 4 (by omega)]
    exact scX_ok (by omega) hL
  have h5 : scX (b, L, xs) (nI (6 * c + 1) + 5) = some (xs (6 * c + 1 + 5)) := by
    rw [show (5 : Int32) = nI 5 from rfl, ha 5 (by omega)]
    exact scX_ok (by omega) hL
  have h6 : nI (6 * c + 1) + 6 = nI (6 * (c + 1) + 1) := by
    rw [show (6 : Int32) = nI 6 from rfl, nI_add]
    congr 1
  have hq : ¬ (Int32.ofNat (b, L, xs).2.1 - 6 < nI (6 * c + 1)) := by
    show ¬ (nI L - nI 6 < nI (6 * c + 1))
    rw [nI_sub (by omega), iLt (by omega) (by omega)]
    omega
  unfold LW_law_l28
  rw [if_neg hq, h0, Option.bind_some]
  generalize xs (6 * c + 1) = v
  generalize xs (6 * c + 1 + 1) = a1 at *
  generalize xs (6 * c + 1 + 2) = a2 at *
  generalize xs (6 * c + 1 + 3) = a3 at *
  generalize xs (6 * c + 1 + 4) = a4 at *
  generalize xs (6 * c + 1 + 5) = a5 at *
  generalize nI (6 * c + 1) = x at *
  by_cases c0 : v &&& 31 = 0
  · rw [if_pos c0]
    simp only [h1, h2, h3, h4, h5, ite_bool, Option.bind_some]
    obtain ⟨σ1, e1, S1⟩ := op_feed hS (shlL a1.toInt64 32 ||| a2.toInt64 &&& 4294967295) (shlL a3.toInt64 32 ||| a4.toInt64 &&& 4294967295) a5
    exact ⟨σ1, bind_of e1 h6, S1⟩
  rw [if_neg c0]
  by_cases c1 : v &&& 31 = 1
  · rw [if_pos c1]
    simp only [h1, h2, h3, h4, h5, ite_bool, Option.bind_some]
    obtain ⟨σ1, e1, S1⟩ := op_add hS hc (shlL a1.toInt64 32 ||| a2.toInt64 &&& 4294967295) a3 a4
    exact ⟨σ1, bind_of e1 h6, S1⟩
  rw [if_neg c1]
  by_cases c2 : v &&& 31 = 2
  · rw [if_pos c2]
    simp only [h1, h2, h3, h4, h5, ite_bool, Option.bind_some]
    obtain ⟨σ1, e1, S1⟩ := op_delete hS hc (shlL a1.toInt64 32 ||| a2.toInt64 &&& 4294967295)
    exact ⟨σ1, bind_of e1 h6, S1⟩
  rw [if_neg c2]
  by_cases c3 : v &&& 31 = 3
  · rw [if_pos c3]
    obtain ⟨σ1, e1, S1⟩ := op_refresh hS hc
    exact ⟨σ1, bind_of e1 h6, S1⟩
  rw [if_neg c3]
  by_cases c4 : v &&& 31 = 4
  · rw [if_pos c4]
    obtain ⟨σ1, e1, S1⟩ := op_open hS hc
    exact ⟨σ1, bind_of e1 h6, S1⟩
  rw [if_neg c4]
  by_cases c5 : v &&& 31 = 5
  · rw [if_pos c5]
    simp only [h1, h2, h3, h4, h5, ite_bool, Option.bind_some]
    obtain ⟨σ1, e1, S1⟩ := op_close hS a1
    exact ⟨σ1, bind_of e1 h6, S1⟩
  rw [if_neg c5]
  by_cases c6 : v &&& 31 = 6
  · rw [if_pos c6]
    simp only [h1, h2, h3, h4, h5, ite_bool, Option.bind_some]
    obtain ⟨σ1, e1, S1⟩ := op_search hS hc a1
    exact ⟨σ1, bind_of e1 h6, S1⟩
  rw [if_neg c6]
  by_cases c7 : v &&& 31 = 7
  · rw [if_pos c7]
    simp only [h1, h2, h3, h4, h5, ite_bool, Option.bind_some]
    exact ⟨σ, bind_of (op_key hS hc a1) h6, hS.up⟩
  rw [if_neg c7]
  by_cases c8 : v &&& 31 = 8
  · rw [if_pos c8]
    simp only [h1, h2, h3, h4, h5, ite_bool, Option.bind_some]
    exact ⟨σ, bind_of (op_hit hS hc a1 a2) h6, hS.up⟩
  rw [if_neg c8]
  by_cases c9 : v &&& 31 = 9
  · rw [if_pos c9]
    simp only [h1, h2, h3, h4, h5, ite_bool, Option.bind_some]
    exact ⟨σ, bind_of (op_bucket hS hc a1 a2 a3) h6, hS.up⟩
  rw [if_neg c9]
  by_cases c10 : v &&& 31 = 10
  · rw [if_pos c10]
    simp only [h1, h2, h3, h4, h5, ite_bool, Option.bind_some]
    exact ⟨σ, bind_of (op_over hS hc a1 a2) h6, hS.up⟩
  rw [if_neg c10]
  by_cases c11 : v &&& 31 = 11
  · rw [if_pos c11]
    simp only [h1, h2, h3, h4, h5, ite_bool, Option.bind_some]
    exact ⟨σ, bind_of (op_mark hS hc a1 a2 (!decide (a3 = 0))) h6, hS.up⟩
  rw [if_neg c11]
  by_cases c12 : v &&& 31 = 12
  · rw [if_pos c12]
    simp only [h1, h2, h3, h4, h5, ite_bool, Option.bind_some]
    obtain ⟨σ1, e1, S1⟩ := op_near hS hc a1
    exact ⟨σ1, bind_of e1 h6, S1⟩
  rw [if_neg c12]
  by_cases c13 : v &&& 31 = 13
  · rw [if_pos c13]
    simp only [h1, h2, h3, h4, h5, ite_bool, Option.bind_some]
    obtain ⟨σ1, e1, S1⟩ := op_nearByte hS a1
    exact ⟨σ1, bind_of e1 h6, S1⟩
  rw [if_neg c13]
  by_cases c14 : v &&& 31 = 14
  · rw [if_pos c14]
    simp only [h1, h2, h3, h4, h5, ite_bool, Option.bind_some]
    exact ⟨σ, bind_of (op_segment hS hc a1 a2) h6, hS.up⟩
  rw [if_neg c14]
  by_cases c15 : v &&& 31 = 15
  · rw [if_pos c15]
    simp only [h1, h2, h3, h4, h5, ite_bool, Option.bind_some]
    exact ⟨σ, bind_of (op_view hS a1 a2) h6, hS.up⟩
  rw [if_neg c15]
  by_cases c16 : v &&& 31 = 16
  · rw [if_pos c16]
    simp only [h1, h2, h3, h4, h5, ite_bool, Option.bind_some]
    obtain ⟨σ1, e1, S1⟩ := op_frequency hS hc a1 a2
    exact ⟨σ1, bind_of e1 h6, S1⟩
  rw [if_neg c16]
  by_cases c17 : v &&& 31 = 17
  · rw [if_pos c17]
    simp only [h1, h2, h3, h4, h5, ite_bool, Option.bind_some]
    exact ⟨σ, bind_of (op_told hS hc a1) h6, hS.up⟩
  rw [if_neg c17]
  exact ⟨σ, bind_of rfl h6, hS.up⟩
theorem law_out {e b L c : Nat} {xs : Nat → Int32} {σ : Mem} (hL : L ≤ 385) (hl : L < 6 * c + 7) (hc : c ≤ 64) : LW_law_l28 σ (b, L, xs) (some e) (some (e + 355)) (nI (6 * c + 1)) = some (.inr σ) := by
  have hq : Int32.ofNat (b, L, xs).2.1 - 6 < nI (6 * c + 1) := by
    show nI L - nI 6 < nI (6 * c + 1)
    by_cases h : 6 ≤ L
    · rw [nI_sub h, iLt (by omega) (by omega)]
      omega
    · have h : ∀ L, L < 6 → nI L - nI 6 < nI 0 := by decide
      have h1 := h L (by omega)
      by_cases hz : 6 * c + 1 = 0
      · omega
      · exact Int32.lt_trans h1 (by rw [iLt (by omega) (by omega)]; omega)
  unfold LW_law_l28
  rw [if_pos hq]
theorem law_loop {u e b L : Nat} {xs : Nat → Int32} {st sp : Bool} {σ : Mem} (hS : Sim u e 0 st sp σ) (hL : L ≤ 385) : ∃ σ', lp (fun q : Int32 × Mem => LW_law_l28 q.2 (b, L, xs) (some e) (some (e + 355)) q.1) (1, σ) = some σ' ∧ Sim u e ((L - 1) / 6) st sp σ' :=
  lp_for (f := fun q : Int32 × Mem => LW_law_l28 q.2 (b, L, xs) (some e) (some (e + 355)) q.1) (fun c (s : Mem) => (nI (6 * c + 1), s)) ((L - 1) / 6) (fun c s => Sim u e c st sp s) (fun s => Sim u e ((L - 1) / 6) st sp s) (fun c s hc hI => by
    obtain ⟨s', h1, h2⟩ := law_step (b := b) (xs := xs) hI (by omega) hL (by omega)
    exact .inl ⟨s', h1, h2⟩) (fun s hI => ⟨s, law_out hL (by omega) (by omega), hI⟩) ((L - 1) / 6) 0 σ (by omega) hS
