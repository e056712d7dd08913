/-! NEAR: edits, the best; the class's spelling -/
def ed (w t : List Nat) : Nat → Nat → Nat
  | 0, m => m
  | i + 1, 0 => i + 1
  | i + 1, m + 1 => min (ed w t i m + if w.getD i 0 = t.getD m 0 then 0 else 1) (1 + min (ed w t i (m + 1)) (ed w t (i + 1) m))
theorem ed_0 (w t : List Nat) (m : Nat) : ed w t 0 m = m := by unfold ed; rfl
theorem ed_z (w t : List Nat) (i : Nat) : ed w t i 0 = i := by cases i <;> unfold ed <;> rfl
theorem ed_s (w t : List Nat) (i m : Nat) : ed w t (i + 1) (m + 1) = min (ed w t i m + if w.getD i 0 = t.getD m 0 then 0 else 1) (1 + min (ed w t i (m + 1)) (ed w t (i + 1) m)) := by rw [ed]
theorem ed_ge (w t : List Nat) : ∀ i m, i ≤ ed w t i m + m ∧ m ≤ ed w t i m + i
  | 0, m => by rw [ed_0]; omega
  | i + 1, 0 => by rw [ed_z]; omega
  | i + 1, m + 1 => by
    have h1 := ed_ge w t i m
    have h2 := ed_ge w t i (m + 1)
    have h3 := ed_ge w t (i + 1) m
    rw [ed_s]
    split <;> omega
theorem ed_le (w t : List Nat) : ∀ i m, ed w t i m ≤ i + m
  | 0, m => by rw [ed_0]; omega
  | i + 1, 0 => by rw [ed_z]; omega
  | i + 1, m + 1 => by
    have h2 := ed_le w t i (m + 1)
    rw [ed_s]
    omega
def edT (w t : List Nat) : Nat := ed w t w.length t.length
/-- of two terms: is the first nearer; df tells how many documents have it -/
def nrT (w : List Nat) (df : Nat → Nat) (t u : List Nat) : Prop := edT w t < edT w u ∨ (edT w t = edT w u ∧ (df (enc u) < df (enc t) ∨ (df (enc u) = df (enc t) ∧ enc t < enc u)))
/-- the best of some terms -/
def nB (w : List Nat) (df : Nat → Nat) (S : List Nat → Prop) (b : Option (List Nat)) : Prop := match b with
  | none => ∀ t, S t → ¬ edT w t ≤ 2
  | some b => S b ∧ isTerm b ∧ b ≠ [] ∧ edT w b ≤ 2 ∧ ∀ t, S t → edT w t ≤ 2 → ¬ nrT w df t b
def nbOk (w : List Nat) (df : Nat → Nat) (t : List Nat) (b : Option (List Nat)) : Prop := edT w t ≤ 2 ∧ ∀ u, b = some u → nrT w df t u
theorem nrT_tr {w : List Nat} {df : Nat → Nat} {a b c : List Nat} (h : nrT w df a b) (g : nrT w df b c) : nrT w df a c := by
  unfold nrT at *
  omega
theorem nrT_ir {w : List Nat} {df : Nat → Nat} {a : List Nat} : ¬ nrT w df a a := by
  unfold nrT
  omega
theorem nB_y {w : List Nat} {df : Nat → Nat} {S S' : List Nat → Prop} {b : Option (List Nat)} {t : List Nat} (h : nB w df S b) (ht : isTerm t) (hn : t ≠ []) (hs : ∀ u, S' u ↔ S u ∨ u = t) (ho : nbOk w df t b) : nB w df S' (some t) := by
  refine ⟨(hs t).mpr (.inr rfl), ht, hn, ho.1, fun u hu hu2 q => ?_⟩
  rcases (hs u).mp hu with z | rfl
  · cases b with
    | none => exact h u z hu2
    | some b => exact h.2.2.2.2 u z hu2 (nrT_tr q (ho.2 b rfl))
  · exact nrT_ir q
theorem nB_n {w : List Nat} {df : Nat → Nat} {S S' : List Nat → Prop} {b : Option (List Nat)} {t : List Nat} (h : nB w df S b) (hs : ∀ u, S' u ↔ S u ∨ u = t) (ho : ¬ nbOk w df t b) : nB w df S' b := by
  cases b with
  | none =>
    intro u hu q
    rcases (hs u).mp hu with z | rfl
    · exact h u z q
    · exact ho ⟨q, fun _ z => by cases z⟩
  | some b =>
    refine ⟨(hs b).mpr (.inl h.1), h.2.1, h.2.2.1, h.2.2.2.1, fun u hu q r => ?_⟩
    rcases (hs u).mp hu with z | rfl
    · exact h.2.2.2.2 u z q r
    · exact ho ⟨q, fun v e => by cases e; exact r⟩
theorem nB_S {w : List Nat} {df : Nat → Nat} {S S' : List Nat → Prop} {b : Option (List Nat)} (h : nB w df S b) (hs : ∀ u, S' u ↔ S u) : nB w df S' b := by
  have : S' = S := funext fun u => propext (hs u)
  rw [this]
  exact h
theorem nB_1 {w : List Nat} {df : Nat → Nat} {S : List Nat → Prop} {a b : Option (List Nat)} (h : nB w df S a) (g : nB w df S b) : a = b := by
  cases a with
  | none =>
    cases b with
    | none => rfl
    | some b => exact absurd g.2.2.2.1 (h b g.1)
  | some a =>
    cases b with
    | none => exact absurd h.2.2.2.1 (g a h.1)
    | some b =>
      have h1 := h.2.2.2.2 b g.1 g.2.2.2.1
      have h2 := g.2.2.2.2 a h.1 h.2.2.2.1
      have : enc a = enc b := by unfold nrT at h1 h2; omega
      rw [enc_inj h.2.1 g.2.1 this]
/-! a term's signs -/
theorem cN_ge (m : Nat) : ∀ n, cN (fun k => decide (m ≤ k)) n = n - m
  | 0 => by simp [cN, sN]
  | n + 1 => by
    rw [cN_s, cN_ge m n]
    by_cases c : m ≤ n
    · rw [if_pos (decide_eq_true c)]; omega
    · rw [if_neg (by simpa using c)]; omega
/-- how many signs behind a place are there -/
def spC (t : List Nat) (i : Nat) : Nat := cN (fun k => decide (0 < dg t (11 - k))) i
theorem spC_12 {t : List Nat} (h : isTerm t) : spC t 12 = t.length := by
  have hl := h.1
  unfold spC
  rw [cN_congr (q := fun k => decide (12 - t.length ≤ k)) 12 (fun k hk => by
    rw [decide_eq_decide, dg_pos h]
    omega), cN_ge]
  omega
def dnI (i : Nat) : Int32 := if i < 12 then nI (11 - i) else -nI 1
theorem dnI_s {i : Nat} (h : i < 12) : nI (11 - i) + -nI 1 = dnI (i + 1) := by
  unfold dnI
  by_cases c : i + 1 < 12
  · rw [if_pos c, iAddN (by omega)]
    rfl
  · rw [if_neg c, show 11 - i = 0 by omega]
    decide
theorem Ne_spell_ok {σ : Mem} {a : Nat} {t : List Nat} (ha : gT σ a = (100, 12)) (hN : a < gN σ) (ht : isTerm t) : ∃ σ', Ne_spell σ (lN (enc t)) (some a) = some (nI t.length, σ') ∧ Kp (fun c b _ => c = 0 ∧ b = a) σ σ' ∧ gN σ' = gN σ ∧ gU σ' = gU σ ∧ ∀ k, k < 12 → gI σ' a k = nI (dg t k) := by
  have ta : (gT σ a).1 = 100 + 0 ∧ (gT σ a).2 = 12 := by rw [ha]; exact ⟨rfl, rfl⟩
  obtain ⟨ta, tb⟩ := ta
  obtain ⟨z, hz, q1, q2, q3, q4, q5⟩ : ∃ z, lp (fun q : Int64 × Int32 × Int32 × Mem => Ne_spell_l16 q.2.2.2 (some a) q.1 q.2.1 q.2.2.1) (lN (v37 (dg t) (12 - 0)), nI (spC t 0), dnI 0, σ) = some z ∧ (z.1 = nI (spC t 12) ∧ Kp (fun c b _ => c = 0 ∧ b = a) σ z.2 ∧ gN z.2 = gN σ ∧ gU z.2 = gU σ ∧ ∀ k, k < 12 → gI z.2 a k = nI (dg t k)) := by
    refine lp_for (fun i (s : Mem) => (lN (v37 (dg t) (12 - i)), nI (spC t i), dnI i, s)) 12 (fun i s => Kp (fun c b _ => c = 0 ∧ b = a) σ s ∧ gN s = gN σ ∧ gU s = gU σ ∧ ∀ k, 12 ≤ k + i → k < 12 → gI s a k = nI (dg t k)) _ (fun i s hi hI => ?_) (fun s hI => ?_) 12 0 _ (by omega) ⟨Kp.rf, rfl, rfl, fun k h1 h2 => absurd h1 (by omega)⟩
    · left
      obtain ⟨y1, y2, y3, y4⟩ := hI
      have ts : (gT s a).1 = 100 + 0 := by rw [y1.T hN]; exact ta
      have tt : (gT s a).2 = 12 := by rw [y1.T hN]; exact tb
      have hv : v37 (dg t) (12 - i) = v37 (dg t) (12 - (i + 1)) * 37 + dg t (11 - i) := by
        rw [show 12 - i = (12 - (i + 1)) + 1 by omega, v37, show 12 - (i + 1) = 11 - i by omega]
      have hdl := dg_lt t (11 - i)
      have hvl : v37 (dg t) (12 - i) < 37 ^ (12 - i) := v37_lt _ (fun k _ => dg_lt t k)
      have hpw : (37 : Nat) ^ (12 - i) ≤ 37 ^ 12 := Nat.pow_le_pow_right (by omega) (by omega)
      have h12 : (37 : Nat) ^ 12 = 6582952005840035281 := by decide
      have hm : v37 (dg t) (12 - i) % 37 = dg t (11 - i) := by rw [hv]; omega
      have hd : v37 (dg t) (12 - i) / 37 = v37 (dg t) (12 - (i + 1)) := by rw [hv]; omega
      have hneg : ¬ dnI i < 0 := by
        unfold dnI
        rw [if_pos hi]
        have : (nI (11 - i) < 0) = (11 - i < 0) := iLt (b := 0) (by omega) (by omega)
        rw [this]
        omega
      have e1 : remL (lN (v37 (dg t) (12 - i))) 37 = lN (dg t (11 - i)) := by
        rw [show (37 : Int64) = lN 37 from rfl, lRem (by omega) (by omega), hm]
      have e2 : lN (v37 (dg t) (12 - i)) / 37 = lN (v37 (dg t) (12 - (i + 1))) := by
        rw [show (37 : Int64) = lN 37 from rfl, lDiv (by omega) (by omega), hd]
      have e3 : dnI i = nI (11 - i) := if_pos hi
      unfold Ne_spell_l16
      rw [if_neg hneg, e1, e2, lN_i, e3]
      simp (disch := first | assumption | omega | (simp only [gT_sI, gT_sL, gT_sR, gT_sB]; first | assumption | omega)) only [Option.bind_some, ldI_ok, ldL_ok, ldR_ok, ldB_ok, stI_ok, stL_ok, stR_ok, stB_ok, chk_ok, raI_k, raL_k, raR_k, raB_k, waI_k, waL_k, waB_k, waR_k, alen_k, gT_sI, gT_sL, gT_sR, gT_sB, gN_sI, gN_sL, gN_sR, gN_sB, gI_sL, gI_sR, gI_sB, gL_sI, gL_sR, gL_sB, gR_sI, gR_sL, gR_sB, gB_sI, gB_sL, gB_sR, gI_sIs, gL_sLs, gR_sRs, gB_sBs, gI_sIn, gL_sLn, gR_sRn, gB_sBn, rdI_ok, rdL_ok, rdB_ok, wrI_ok, wrL_ok, wrB_ok]
      refine ⟨sI s a (11 - i) (nI (dg t (11 - i))), ?_, Kp.tr y1 (Kp.sI ⟨rfl, rfl⟩) (fun _ _ _ _ q => q), y2, y3, fun k h1 h2 => ?_⟩
      · have e4 : (nI (dg t (11 - i)) = 0) = (dg t (11 - i) = 0) := iEq (b := 0) (by omega) (by omega)
        simp only [e4]
        rw [show (-1 : Int32) = -nI 1 from rfl, dnI_s hi]
        by_cases c : dg t (11 - i) = 0
        · rw [if_pos c]
          have : spC t (i + 1) = spC t i := by
            unfold spC
            rw [cN_s, if_neg (by simp [c])]
            rfl
          rw [this]
          rfl
        · rw [if_neg c]
          have : spC t (i + 1) = spC t i + 1 := by
            unfold spC
            rw [cN_s, if_pos (by simp; omega)]
          rw [this, show (1 : Int32) = nI 1 from rfl, nI_add]
          rfl
      · by_cases c : k = 11 - i
        · subst c; rw [gI_sIs]
        · rw [gI_sIn (by omega)]
          exact y4 k (by omega) h2
    · obtain ⟨y1, y2, y3, y4⟩ := hI
      refine ⟨(nI (spC t 12), s), ?_, rfl, y1, y2, y3, fun k hk => y4 k (by omega) hk⟩
      unfold Ne_spell_l16
      rw [if_pos (show dnI 12 < 0 by decide)]
  obtain ⟨z1, z2⟩ := z
  unfold Ne_spell
  rw [alen_k ta, tb]
  simp only [Option.bind_some]
  have e : minI (nI 12) 12 - 1 = dnI 0 := by decide
  rw [e, enc_v ht.1]
  have hz : lp (fun q : Int64 × Int32 × Int32 × Mem => Ne_spell_l16 q.2.2.2 (some a) q.1 q.2.1 q.2.2.1) (lN (v37 (dg t) 12), 0, dnI 0, σ) = some (z1, z2) := hz
  rw [hz]
  have q1 : z1 = nI (spC t 12) := q1
  rw [spC_12 ht] at q1
  exact ⟨z2, by rw [q1]; rfl, q2, q3, q4, q5⟩
