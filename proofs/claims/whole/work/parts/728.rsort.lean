/-! the reference: hits put in order -/
def wIn : Nat → Nat → Nat → Prop := fun t c j => t = 0 ∧ (c = 20 ∨ c = 21 ∨ (c = 0 ∧ j = 26))
def rKy (R : RS) (D : List DocT) : Prop := ∀ d, d < D.length → R.2.1 2 d = dKey (dA D d)
theorem M_isBefore_ok {R : RS} {D : List DocT} {i : Nat} {x y : Nat × Nat} (h : rKy R D) (hx : okH D x) (hy : okH D y) (hi : i < 400) (hr : R.1 20 i = nI y.1 ∧ R.1 21 i = nI y.2) : M_isBefore R (nI x.1) (nI x.2) (nI i) = some (decide (hcode D x < hcode D y)) := by
  have hx3 := hx.2.2
  have hy3 := hy.2.2
  have hx1 := hx.1
  have hy1 := hy.1
  have hD := hx.2.1
  have hlt := hc_lt hx hy
  have e21 : rdI R 21 400 (nI i) = some (nI y.2) := by rw [rdI_ok hi (by omega), hr.2]
  have e20 : rdI R 20 400 (nI i) = some (nI y.1) := by rw [rdI_ok hi (by omega), hr.1]
  have e2x : rdL R 2 400 (nI x.1) = some (dKey (dA D x.1)) := by rw [rdL_ok (by omega) (by omega), h _ hx1]
  have e2y : rdL R 2 400 (nI y.1) = some (dKey (dA D y.1)) := by rw [rdL_ok (by omega) (by omega), h _ hy1]
  unfold M_isBefore
  simp only [e21, e20, e2x, e2y, Option.bind_some]
  have q1 : (nI x.2 = nI y.2) = (x.2 = y.2) := iEq (by omega) (by omega)
  have q2 : (nI y.1 ≤ nI x.1) = (y.1 ≤ x.1) := iLe (by omega) (by omega)
  have q3 : (nI x.2 ≤ nI y.2) = (x.2 ≤ y.2) := iLe (by omega) (by omega)
  have q4 : (dKey (dA D y.1) ≤ dKey (dA D x.1)) = ¬ (dKey (dA D x.1) < dKey (dA D y.1)) := by rw [i64le, eq_iff_iff]; exact ⟨fun z w => w z, fun z => Classical.byContradiction z⟩
  simp only [q1, q2, q3, q4]
  by_cases c : x.2 = y.2
  · rw [if_pos c]
    by_cases k : dKey (dA D x.1) = dKey (dA D y.1)
    · rw [if_pos k]
      by_cases m : y.1 ≤ x.1
      · rw [if_pos m, decide_eq_false (fun z => by
          rcases hlt.mp z with z | ⟨-, z | ⟨-, z⟩⟩
          · omega
          · rw [k] at z; exact Int64.lt_irrefl z
          · omega)]
      · rw [if_neg m, decide_eq_true (hlt.mpr (.inr ⟨c, .inr ⟨k, by omega⟩⟩))]
    · rw [if_neg k]
      by_cases m : dKey (dA D x.1) < dKey (dA D y.1)
      · rw [if_neg (fun z => z m), decide_eq_true (hlt.mpr (.inr ⟨c, .inl m⟩))]
      · rw [if_pos m, decide_eq_false (fun z => by
          rcases hlt.mp z with z | ⟨-, z | ⟨z, -⟩⟩
          · omega
          · exact m z
          · exact k z)]
  · rw [if_neg c]
    by_cases m : x.2 ≤ y.2
    · rw [if_pos m, decide_eq_false (fun z => by
        rcases hlt.mp z with z | ⟨z, -⟩
        · omega
        · exact c z)]
    · rw [if_neg m, decide_eq_true (hlt.mpr (.inl (by omega)))]
def rHt (R : RS) (k : Nat) (x : Nat × Nat) : Prop := R.1 20 k = nI x.1 ∧ R.1 21 k = nI x.2
theorem M_insert_ok {R : RS} {D : List DocT} {n : Nat} {u : Nat → Nat × Nat} {x : Nat × Nat} {cd : Nat × Nat → Nat} (hbf : ∀ (m : RS) (i : Nat) (y : Nat × Nat), rKy m D → okH D y → i < 400 → rHt m i y → M_isBefore m (nI x.1) (nI x.2) (nI i) = some (decide (cd x < cd y))) (hK : rKy R D) (hn : n < 400) (h26 : R.1 0 26 = nI n) (hw : ∀ k, k < n → rHt R k (u k)) (hb : ∀ k, k < n → okH D (u k)) (hx : okH D x) (hs : srt (fun k => cd (u k)) n) : ∃ R' v, M_insert R (nI x.1) (nI x.2) = some R' ∧ Rp wIn R R' ∧ R'.1 0 26 = nI (n + 1) ∧ (∀ k, k < n + 1 → rHt R' k (v k)) ∧ prm (n + 1) v (wu u n x) ∧ srt (fun k => cd (v k)) (n + 1) ∧ ∀ k, k < n + 1 → okH D (v k) := by
  have := lp_inv (f := fun q : Int32 × RS => M_insert_l5 q.2 (nI x.1) (nI x.2) q.1) (fun q => ∃ a v, q.1 = nI a ∧ a ≤ n ∧ Rp (fun t c j => t = 0 ∧ (c = 20 ∨ c = 21)) R q.2 ∧ (∀ k, k < n + 1 → k ≠ a → rHt q.2 k (v k)) ∧ v a = x ∧ prm (n + 1) v (wu u n x) ∧ (∀ k, k < n + 1 → okH D (v k)) ∧ srtH (fun k => cd (v k)) (cd x) a (n + 1)) (fun q => q.1.toNatClampNeg) (fun z => ∃ a v, z.1 = nI a ∧ a ≤ n ∧ Rp (fun t c j => t = 0 ∧ (c = 20 ∨ c = 21)) R z.2 ∧ (∀ k, k < n + 1 → k ≠ a → rHt z.2 k (v k)) ∧ v a = x ∧ prm (n + 1) v (wu u n x) ∧ (∀ k, k < n + 1 → okH D (v k)) ∧ srt (fun k => cd (v k)) (n + 1)) ?_ (nI n, R) ⟨n, wu u n x, rfl, Nat.le_refl _, Rp.rf, fun k hk hkn => by rw [wu_n hkn]; exact hw k (by omega), wu_s _ _ _, prm.rf, fun k hk => ?_, ⟨fun a b h1 h2 h3 h4 => by show cd (wu u n x a) ≤ cd (wu u n x b); rw [wu_n h3, wu_n h4]; exact hs a b h1 (by omega), fun k h1 h2 => by omega⟩⟩
  · obtain ⟨z, hz, a, v, e1, ha, g1, hv, hva, hp, hvb, hsr⟩ := this
    have hz : lp (fun q : Int32 × RS => M_insert_l5 q.2 (nI x.1) (nI x.2) q.1) (R.1 0 26, R) = some z := by rw [h26]; exact hz
    unfold M_insert
    rw [hz]
    simp only [Option.bind_some]
    rw [e1, wrI_ok (by omega) (by omega)]
    simp only [Option.bind_some]
    rw [wrI_ok (by omega) (by omega)]
    simp only [Option.bind_some]
    refine ⟨_, v, rfl, ?_, ?_, fun k hk => ?_, hp, hsr, hvb⟩
    · refine Rp.tr (W' := wIn) (R' := (up2 (up2 z.2.1 20 a (nI x.1)) 21 a (nI x.2), z.2.2)) ?_ (Rp.pI (by unfold wIn; omega)) (fun _ _ _ z => z)
      refine Rp.tr (W' := wIn) (R' := (up2 z.2.1 20 a (nI x.1), z.2.2)) ?_ (Rp.wI (by unfold wIn; omega)) (fun _ _ _ z => z)
      exact Rp.tr (W' := wIn) (R' := z.2) (g1.mono (fun t c j y => by unfold wIn; omega)) (Rp.wI (by unfold wIn; omega)) (fun _ _ _ z => z)
    · simp (disch := omega) only [pI, pL, pB, up2_s, up2_ne]
      rw [g1.I (by decide) (by omega), h26, show (1 : Int32) = nI 1 from rfl, nI_add]
    · by_cases c : k = a
      · subst c
        rw [hva]
        refine ⟨?_, ?_⟩ <;> simp (disch := omega) only [pI, pL, pB, up2_s, up2_ne]
      · obtain ⟨d1, d2⟩ := hv k hk c
        refine ⟨?_, ?_⟩
        · simp (disch := omega) only [pI, pL, pB, up2_s, up2_ne]; exact d1
        · simp (disch := omega) only [pI, pL, pB, up2_s, up2_ne]; exact d2
  · rintro ⟨q1, Q⟩ ⟨a, v, rfl, ha, g1, hv, hva, hp, hvb, s1, s2⟩
    unfold M_insert_l5
    have e0 : (nI a ≤ 0) = (a ≤ 0) := iLe (b := 0) (by omega) (by omega)
    simp only [e0]
    by_cases c : a ≤ 0
    · right
      rw [if_pos c]
      refine ⟨_, rfl, a, v, rfl, ha, g1, hv, hva, hp, hvb, ?_⟩
      intro p q hpq hq
      by_cases e1 : p = a
      · subst e1; show cd (v p) ≤ _; rw [hva]; exact s2 q hpq hq
      · by_cases e2 : q = a
        · omega
        · exact s1 p q hpq hq e1 e2
    · rw [if_neg c]
      have hvg := hv (a - 1) (by omega) (by omega)
      have hvgb := hvb (a - 1) (by omega)
      have hKQ : rKy Q D := fun d hd => by rw [g1.L (by decide) (by omega)]; exact hK d hd
      have hst := hbf Q (a - 1) (v (a - 1)) hKQ hvgb (by omega) hvg
      rw [show (1 : Int32) = nI 1 from rfl, iSub (by omega), hst]
      simp only [Option.bind_some]
      by_cases c2 : cd x < cd (v (a - 1))
      · left
        rw [if_pos (decide_eq_true c2), rdI_ok (by omega) (by omega), hvg.1]
        simp only [Option.bind_some]
        rw [wrI_ok (by omega) (by omega)]
        simp only [Option.bind_some]
        rw [rdI_ok (by omega) (by omega)]
        simp (disch := omega) only [Option.bind_some, pI, pL, pB, up2_s, up2_ne]
        rw [hvg.2, wrI_ok (by omega) (by omega)]
        simp only [Option.bind_some]
        rw [iAddN (by omega)]
        refine ⟨_, rfl, ⟨a - 1, wu (wu v a (v (a - 1))) (a - 1) (v a), rfl, by omega, ?_, fun k hk hka => ?_, ?_, ?_, fun k hk => ?_, ⟨fun p q hpq hq h3 h4 => ?_, fun k h3 h4 => ?_⟩⟩, ?_⟩
        · refine Rp.tr (R' := (up2 Q.1 20 a (nI (v (a - 1)).1), Q.2)) ?_ (Rp.wI ⟨rfl, .inr rfl⟩) (fun _ _ _ z => z)
          exact g1.tr (Rp.wI ⟨rfl, .inl rfl⟩) (fun _ _ _ z => z)
        · rw [wu_n hka]
          by_cases e1 : k = a
          · subst e1
            rw [wu_s]
            refine ⟨?_, ?_⟩ <;> simp (disch := omega) only [pI, pL, pB, up2_s, up2_ne]
          · rw [wu_n e1]
            obtain ⟨d1, d2⟩ := hv k hk e1
            refine ⟨?_, ?_⟩
            · simp (disch := omega) only [pI, pL, pB, up2_s, up2_ne]; exact d1
            · simp (disch := omega) only [pI, pL, pB, up2_s, up2_ne]; exact d2
        · rw [wu_s]; exact hva
        · exact (prm.swap (by omega) (by omega)).tr hp
        · unfold wu
          split
          · exact hvb _ (by omega)
          · split
            · exact hvb _ (by omega)
            · exact hvb _ hk
        · show cd (wu (wu v a (v (a - 1))) (a - 1) (v a) p) ≤ cd (wu (wu v a (v (a - 1))) (a - 1) (v a) q)
          rw [wu_n h3, wu_n h4]
          by_cases e1 : p = a
          · subst e1
            rw [wu_s, wu_n (by omega)]
            exact s1 _ q (by omega) hq (by omega) (by omega)
          · rw [wu_n e1]
            by_cases e2 : q = a
            · subst e2
              rw [wu_s]
              exact s1 p _ (by omega) (by omega) e1 (by omega)
            · rw [wu_n e2]
              exact s1 p q hpq hq e1 e2
        · show _ ≤ cd (wu (wu v a (v (a - 1))) (a - 1) (v a) k)
          rw [wu_n (by omega)]
          by_cases e1 : k = a
          · subst e1; rw [wu_s]; omega
          · rw [wu_n e1]; exact s2 k (by omega) h4
        · show (nI (a - 1)).toNatClampNeg < (nI a).toNatClampNeg
          rw [nI_clamp (by omega), nI_clamp (by omega)]
          omega
      · right
        rw [if_neg (fun z => c2 (of_decide_eq_true z))]
        have c2 : cd (v (a - 1)) ≤ cd x := by omega
        refine ⟨_, rfl, a, v, rfl, ha, g1, hv, hva, hp, hvb, ?_⟩
        intro p q hpq hq
        by_cases e1 : p = a
        · subst e1; show cd (v p) ≤ _; rw [hva]; exact s2 q hpq hq
        · by_cases e2 : q = a
          · subst e2
            show _ ≤ cd (v q)
            rw [hva]
            by_cases e3 : p = q - 1
            · rw [e3]; exact c2
            · exact Nat.le_trans (s1 p (q - 1) (by omega) (by omega) (by omega) (by omega)) c2
          · exact s1 p q hpq hq e1 e2
  · unfold wu
    split
    · exact hx
    · exact hb k (by omega)
