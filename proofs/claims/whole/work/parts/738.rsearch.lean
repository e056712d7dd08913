/-! the reference: marks are copied -/
def wMc : Nat → Nat → Nat → Prop := fun t c _ => t = 0 ∧ 22 ≤ c ∧ c ≤ 25
def mgA (M : List MrT) (k : Nat) : MrT := M.getD k (0, none, 0)
theorem mk_bytes {R : RS} {k w len : Nat} {x1 : Int32} (hk : k < 320) (hw : w < 320) (hl : len ≤ 12) (h24 : R.1 24 k = nI len) (h41 : R.1 41 k = nI w) : ∃ R', lp (fun q : Int32 × RS => M_search_l128 q.2 x1 (nI k) q.1) (0, R) = some R' ∧ Rp (fun t c j => t = 0 ∧ c = 25 ∧ 12 * k ≤ j ∧ j < 12 * k + 12) R R' ∧ ∀ i, i < len → R'.1 25 (12 * k + i) = R.1 34 (12 * w + i) := by
  let W : Nat → Nat → Nat → Prop := fun t c j => t = 0 ∧ c = 25 ∧ 12 * k ≤ j ∧ j < 12 * k + 12
  let I : Nat → RS → Prop := fun i τ => Rp W R τ ∧ ∀ i', i' < i → τ.1 25 (12 * k + i') = R.1 34 (12 * w + i')
  show ∃ R', lp (fun q : Int32 × RS => M_search_l128 q.2 x1 (nI k) q.1) (nI 0, R) = some R' ∧ I len R'
  refine lp_for (f := fun q : Int32 × RS => M_search_l128 q.2 x1 (nI k) q.1) (fun i τ => (nI i, τ)) len I (I len) (fun i τ hi hI => Or.inl ?_) (fun τ hI => ⟨τ, ?_, hI⟩) len 0 R (by omega) ⟨Rp.rf, fun i hi => absurd hi (Nat.not_lt_zero _)⟩
  · obtain ⟨g, hb⟩ := hI
    have g24 : τ.1 24 k = nI len := by rw [g.I (by decide) (by show ¬ (_ ∧ _); omega)]; exact h24
    have g41 : τ.1 41 k = nI w := by rw [g.I (by decide) (by show ¬ (_ ∧ _); omega)]; exact h41
    have g34 : τ.1 34 (12 * w + i) = R.1 34 (12 * w + i) := g.I (by decide) (by show ¬ (_ ∧ _); omega)
    show ∃ s', M_search_l128 τ x1 (nI k) (nI i) = some (.inl (nI (i + 1), s')) ∧ I (i + 1) s'
    unfold M_search_l128
    rw [rdI_ok (by omega) (by decide), g24]
    simp only [Option.bind_some]
    rw [if_neg (by rw [iLe (by omega) (by omega)]; omega), rdI_ok (by omega) (by decide), g41]
    simp only [Option.bind_some]
    rw [show (12 : Int32) = nI 12 from rfl, nI_mul, nI_add, rdI_ok (by omega) (by decide)]
    simp only [Option.bind_some]
    rw [nI_mul, nI_add, wrI_ok (by omega) (by decide)]
    simp only [Option.bind_some]
    rw [show (1 : Int32) = nI 1 from rfl, nI_add]
    refine ⟨_, rfl, Rp.tr (W' := W) g (Rp.wI (show _ ∧ _ from ⟨rfl, rfl, by omega, by omega⟩)) (fun _ _ _ z => z), fun i' hi' => ?_⟩
    by_cases c : i' = i
    · subst c
      show up2 τ.1 25 (12 * k + i') _ 25 (12 * k + i') = _
      rw [up2_s, g34]
    · show up2 τ.1 25 (12 * k + i) _ 25 (12 * k + i') = _
      rw [up2_ne (by omega)]
      exact hb i' (by omega)
  · obtain ⟨g, hb⟩ := hI
    have g24 : τ.1 24 k = nI len := by rw [g.I (by decide) (by show ¬ (_ ∧ _); omega)]; exact h24
    show M_search_l128 τ x1 (nI k) (nI len) = _
    unfold M_search_l128
    rw [rdI_ok (by omega) (by decide), g24]
    simp only [Option.bind_some]
    rw [if_pos (by rw [iLe (by omega) (by omega)]; omega)]
theorem mk_copy {R : RS} {W : List (List Nat × Nat)} {M : List MrT} {x1 : Int32} (hM : rM R M) (hW : rW R W) (hl : M.length ≤ 320) (hWl : W.length ≤ 320) (hm : ∀ k, k < M.length → (mgA M k).2.2 < W.length) : ∃ R', lp (fun q : Int32 × RS => M_search_l69 q.2 x1 q.1) (0, R) = some R' ∧ Rp wMc R R' ∧ ∀ k, k < M.length → R'.1 22 k = nI (mgA M k).1 ∧ R'.1 23 k = fI (mgA M k).2.1 ∧ R'.1 24 k = nI (qwA W (mgA M k).2.2).1.length ∧ ∀ i, i < (qwA W (mgA M k).2.2).1.length → R'.1 25 (12 * k + i) = nI ((qwA W (mgA M k).2.2).1.getD i 0) := by
  let I : Nat → RS → Prop := fun k τ => Rp wMc R τ ∧ ∀ k', k' < k → τ.1 22 k' = nI (mgA M k').1 ∧ τ.1 23 k' = fI (mgA M k').2.1 ∧ τ.1 24 k' = nI (qwA W (mgA M k').2.2).1.length ∧ ∀ i, i < (qwA W (mgA M k').2.2).1.length → τ.1 25 (12 * k' + i) = nI ((qwA W (mgA M k').2.2).1.getD i 0)
  show ∃ R', lp (fun q : Int32 × RS => M_search_l69 q.2 x1 q.1) (nI 0, R) = some R' ∧ I M.length R'
  refine lp_for (f := fun q : Int32 × RS => M_search_l69 q.2 x1 q.1) (fun k τ => (nI k, τ)) M.length I (I M.length) (fun k τ hk hI => Or.inl ?_) (fun τ hI => ⟨τ, ?_, hI⟩) M.length 0 R (by omega) ⟨Rp.rf, fun i hi => absurd hi (Nat.not_lt_zero _)⟩
  · obtain ⟨g, hb⟩ := hI
    have hwk := hm k hk
    obtain ⟨m1, m2, m3⟩ := hM.2 k hk
    have m2 : R.1 40 k = fI (mgA M k).2.1 := m2
    have m3 : R.1 41 k = nI (mgA M k).2.2 := m3
    obtain ⟨w1, w2, -, w4⟩ := hW.2 _ hwk
    have keep : ∀ {τ' : RS} {c j : Nat}, Rp wMc R τ' → c < 46 → ¬ (22 ≤ c ∧ c ≤ 25) → τ'.1 c j = R.1 c j := fun g' hc hn => g'.I hc (by unfold wMc; omega)
    have g30 : τ.1 0 30 = nI M.length := (keep g (by decide) (by omega)).trans hM.1
    have g39 : τ.1 39 k = nI (mgA M k).1 := (keep g (by decide) (by omega)).trans m1
    show ∃ s', M_search_l69 τ x1 (nI k) = some (.inl (nI (k + 1), s')) ∧ I (k + 1) s'
    unfold M_search_l69
    rw [g30, if_neg (by rw [iLe (by omega) (by omega)]; omega), rdI_ok (by omega) (by decide), g39]
    simp only [Option.bind_some]
    rw [wrI_ok (by omega) (by decide)]
    simp only [Option.bind_some]
    have ga : Rp wMc R (up2 τ.1 22 k (nI (mgA M k).1), τ.2) := Rp.tr (W' := wMc) g (Rp.wI (by unfold wMc; omega)) (fun _ _ _ z => z)
    rw [rdI_ok (by omega) (by decide), keep ga (by decide) (by omega), m2]
    simp only [Option.bind_some]
    rw [wrI_ok (by omega) (by decide)]
    simp only [Option.bind_some]
    have gb : Rp wMc R (up2 (up2 τ.1 22 k (nI (mgA M k).1)) 23 k (fI (mgA M k).2.1), τ.2) := Rp.tr (W' := wMc) ga (Rp.wI (by unfold wMc; omega)) (fun _ _ _ z => z)
    show ∃ s', ((rdI (up2 (up2 τ.1 22 k (nI (mgA M k).1)) 23 k (fI (mgA M k).2.1), τ.2) 41 400 (nI k)).bind _) = _ ∧ _
    rw [rdI_ok (by omega) (by decide), keep gb (by decide) (by omega), m3]
    simp only [Option.bind_some]
    rw [rdI_ok (by omega) (by decide), keep gb (by decide) (by omega), w2]
    simp only [Option.bind_some]
    rw [wrI_ok (by omega) (by decide)]
    simp only [Option.bind_some]
    have gc : Rp wMc R (up2 (up2 (up2 τ.1 22 k (nI (mgA M k).1)) 23 k (fI (mgA M k).2.1)) 24 k (nI (qwA W (mgA M k).2.2).1.length), τ.2) := Rp.tr (W' := wMc) gb (Rp.wI (by unfold wMc; omega)) (fun _ _ _ z => z)
    have c22 : (up2 (up2 (up2 τ.1 22 k (nI (mgA M k).1)) 23 k (fI (mgA M k).2.1)) 24 k (nI (qwA W (mgA M k).2.2).1.length)) 22 k = nI (mgA M k).1 := by rw [up2_ne (by omega), up2_ne (by omega), up2_s]
    have c23 : (up2 (up2 (up2 τ.1 22 k (nI (mgA M k).1)) 23 k (fI (mgA M k).2.1)) 24 k (nI (qwA W (mgA M k).2.2).1.length)) 23 k = fI (mgA M k).2.1 := by rw [up2_ne (by omega), up2_s]
    have c24 : (up2 (up2 (up2 τ.1 22 k (nI (mgA M k).1)) 23 k (fI (mgA M k).2.1)) 24 k (nI (qwA W (mgA M k).2.2).1.length)) 24 k = nI (qwA W (mgA M k).2.2).1.length := up2_s _ _ _ _
    have co : ∀ c j, ¬ (c = 22 ∧ j = k) → ¬ (c = 23 ∧ j = k) → ¬ (c = 24 ∧ j = k) → (up2 (up2 (up2 τ.1 22 k (nI (mgA M k).1)) 23 k (fI (mgA M k).2.1)) 24 k (nI (qwA W (mgA M k).2.2).1.length)) c j = τ.1 c j := fun c j a b d => by rw [up2_ne d, up2_ne b, up2_ne a]
    generalize up2 (up2 (up2 τ.1 22 k (nI (mgA M k).1)) 23 k (fI (mgA M k).2.1)) 24 k (nI (qwA W (mgA M k).2.2).1.length) = T at *
    obtain ⟨R', l1, l2, l3⟩ := mk_bytes (R := (T, τ.2)) (x1 := x1) (w := (mgA M k).2.2) (show k < 320 by omega) (by omega) w1 c24 ((keep gc (by decide) (by omega)).trans m3)
    show ∃ s', ((lp (fun q : Int32 × RS => M_search_l128 q.2 x1 (nI k) q.1) (0, (T, τ.2))).bind _) = _ ∧ _
    rw [l1]
    simp only [Option.bind_some]
    rw [show (1 : Int32) = nI 1 from rfl, nI_add]
    refine ⟨R', rfl, Rp.tr (W' := fun t c j => t = 0 ∧ c = 25 ∧ 12 * k ≤ j ∧ j < 12 * k + 12) gc l2 (fun t c j z => by unfold wMc; omega), fun k' hk' => ?_⟩
    by_cases c : k' = k
    · subst c
      refine ⟨?_, ?_, ?_, fun i hi => ?_⟩
      · rw [l2.I (by decide) (by omega)]; exact c22
      · rw [l2.I (by decide) (by omega)]; exact c23
      · rw [l2.I (by decide) (by omega)]; exact c24
      · rw [l3 i hi]
        show T 34 _ = _
        rw [co _ _ (by omega) (by omega) (by omega), keep g (by decide) (by omega)]
        exact w4 i hi
    · obtain ⟨z1, z2, z3, z4⟩ := hb k' (by omega)
      obtain ⟨y1, -⟩ := hW.2 _ (hm k' (by omega))
      refine ⟨?_, ?_, ?_, fun i hi => ?_⟩
      · rw [l2.I (by decide) (by omega)]; exact (co _ _ (by omega) (by omega) (by omega)).trans z1
      · rw [l2.I (by decide) (by omega)]; exact (co _ _ (by omega) (by omega) (by omega)).trans z2
      · rw [l2.I (by decide) (by omega)]; exact (co _ _ (by omega) (by omega) (by omega)).trans z3
      · rw [l2.I (by decide) (by omega)]; exact (co _ _ (by omega) (by omega) (by omega)).trans (z4 i hi)
  · obtain ⟨g, hb⟩ := hI
    have g30 : τ.1 0 30 = nI M.length := (g.I (by decide) (by unfold wMc; omega)).trans hM.1
    show M_search_l69 τ x1 (nI M.length) = _
    unfold M_search_l69
    rw [g30, if_pos (by rw [iLe (by omega) (by omega)]; omega)]
theorem mk_marks {R : RS} {Y : QSt} (h30 : R.1 0 30 = nI Y.2.2.2.length) (hl : Y.2.2.2.length ≤ 320) (hI : mkI Y) (hw : ∀ k, k < Y.2.2.1.length → isTerm (qwA Y.2.2.1 k).1) (h : ∀ k, k < Y.2.2.2.length → R.1 22 k = nI (mgA Y.2.2.2 k).1 ∧ R.1 23 k = fI (mgA Y.2.2.2 k).2.1 ∧ R.1 24 k = nI (qwA Y.2.2.1 (mgA Y.2.2.2 k).2.2).1.length ∧ ∀ i, i < (qwA Y.2.2.1 (mgA Y.2.2.2 k).2.2).1.length → R.1 25 (12 * k + i) = nI ((qwA Y.2.2.1 (mgA Y.2.2.2 k).2.2).1.getD i 0)) : rMarks R Y.1 := by
  have hlen : (Y.2.2.2.map (fun m => ((m.1, m.2.1, (qwA Y.2.2.1 m.2.2).1) : MkT))).length = Y.2.2.2.length := List.length_map _
  have eg : ∀ k, k < Y.2.2.2.length → mkA (Y.2.2.2.map (fun m => ((m.1, m.2.1, (qwA Y.2.2.1 m.2.2).1) : MkT))) k = ((mgA Y.2.2.2 k).1, (mgA Y.2.2.2 k).2.1, (qwA Y.2.2.1 (mgA Y.2.2.2 k).2.2).1) := fun k hk => by
    unfold mkA mgA
    rw [List.getD_eq_getElem?_getD, List.getElem?_map, List.getD_eq_getElem?_getD, List.getElem?_eq_getElem hk]
    rfl
  have hmem : ∀ k, k < Y.2.2.2.length → mgA Y.2.2.2 k ∈ Y.2.2.2 := fun k hk => by
    unfold mgA
    rw [List.getD_eq_getElem?_getD, List.getElem?_eq_getElem hk]
    exact List.getElem_mem _
  refine ⟨_, by rw [hlen]; exact h30, by omega, fun k hk => ?_, fun t f ht => ?_⟩
  · have hk : k < Y.2.2.2.length := by omega
    obtain ⟨a1, a2, a3⟩ := hI.1 _ (hmem k hk)
    obtain ⟨b1, b2, b3, b4⟩ := h k hk
    have hwt := hw _ a3
    rw [eg k hk]
    exact ⟨a1, ⟨hwt.1, a2, hwt⟩, b1, b2, b3, b4⟩
  · rw [List.any_map]
    exact hI.2 t f ht
