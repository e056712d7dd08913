/-! feed, the whole, of both -/
noncomputable def feedS (tp : Nat → Nat) (n : Nat) (a b : Int64) (x : Int32) : Int32 × (Nat → Nat) × Nat := if 1 ≤ x ∧ x ≤ 16 then (if n + x.toNatClampNeg ≤ 600 then (nI (n + x.toNatClampNeg), tpF tp n a b x.toNatClampNeg, n + x.toNatClampNeg) else (-3, tp, n)) else (-2, tp, n)
theorem feedS_out {tp : Nat → Nat} {n : Nat} {a b : Int64} {x : Int32} (h : ¬ (1 ≤ x ∧ x ≤ 16)) : feedS tp n a b x = (-2, tp, n) := by unfold feedS; rw [if_neg h]
theorem feedS_in {tp : Nat → Nat} {n : Nat} {a b : Int64} {k : Nat} (h1 : 1 ≤ k) (h2 : k ≤ 16) : feedS tp n a b (nI k) = if n + k ≤ 600 then (nI (n + k), tpF tp n a b k, n + k) else (-3, tp, n) := by
  unfold feedS
  have hk : nI 1 ≤ nI k ∧ nI k ≤ nI 16 := ⟨nI_le h1 (by omega), nI_le h2 (by omega)⟩
  have hk : 1 ≤ nI k ∧ nI k ≤ 16 := hk
  rw [if_pos hk, nI_clamp (by omega)]
theorem feed_x (x : Int32) : (∃ k, 1 ≤ k ∧ k ≤ 16 ∧ x = nI k) ∨ (x < 1 ∧ ¬ (1 ≤ x ∧ x ≤ 16)) ∨ (¬ x < 1 ∧ ¬ x ≤ 16) := by
  by_cases h1 : x < 1
  · exact .inr (.inl ⟨h1, fun z => absurd h1 (Int32.not_lt.mpr z.1)⟩)
  · by_cases h2 : x ≤ 16
    · rcases i32_cases x with z | ⟨j, hj, rfl⟩
      · exact absurd (Int32.lt_trans z (by decide)) h1
      · left
        refine ⟨j, ?_, ?_, rfl⟩
        · apply Nat.le_of_not_lt
          intro q
          apply h1
          rw [show (1 : Int32) = nI 1 from rfl, iLt (by omega) (by omega)]
          exact q
        · rw [show (16 : Int32) = nI 16 from rfl, iLe (by omega) (by omega)] at h2
          exact h2
    · exact .inr (.inr ⟨h1, h2⟩)
theorem E_feed_all {e : Nat} {da : Nat → Nat} {σ : Mem} {tp : Nat → Nat} {n : Nat} {D : List DocT} {dl : Nat → Bool} {bs : Nat} {G : List SegT} {V : Nat → VwT} {A : AnT} {nr : Option (List Nat)} {mg : Nat} {st sp : Bool} (h : cH e da σ tp n D dl bs G V A nr mg st sp) (a b : Int64) (x : Int32) : ∃ σ', E_feed σ e a b x = some ((feedS tp n a b x).1, σ') ∧ ke e σ σ' ∧ gN σ' = gN σ ∧ gU σ' = gU σ ∧ cH e da σ' (feedS tp n a b x).2.1 (feedS tp n a b x).2.2 D dl bs G V A nr mg st sp := by
  have h0 := h
  obtain ⟨hF, hT, hD, hb, hG, hV, hA, hn, hm⟩ := h
  have hN := hF.N
  have hn6 := hT.1
  have t0 : (gT σ e).1 = 11 := by rw [hF.t0]
  rcases feed_x x with ⟨k, h1, h2, rfl⟩ | ⟨h1, h2⟩ | ⟨h1, h2⟩
  · rw [feedS_in h1 h2]
    by_cases c : n + k ≤ 600
    · rw [if_pos c]
      obtain ⟨σ', e1, T1, k1⟩ := E_feed_ok (a := a) (b := b) hF hT h1 h2 c
      obtain ⟨z1, z2, z3, z4, z5, z6, z7⟩ := k1
      have K : Kp (fun t c j => t = 0 ∧ (c = e + 3 ∨ (c = e ∧ j = 2))) σ σ' := ⟨by omega, fun b _ => by rw [z1], fun b j _ => ⟨fun q => z7 b j (fun z => q ⟨rfl, z⟩), fun _ => by rw [z2], fun _ => by rw [z3], fun _ => by rw [z4]⟩⟩
      have hw : Wh (e + 401) σ (fun t c j => t = 0 ∧ (c = e + 3 ∨ (c = e ∧ j = 2))) := fun t a k h1 h2 h3 => by omega
      refine ⟨σ', e1, ke.of K (fun t a k _ q => by omega), z5, z6, hF.kp K (fun c k hc => ⟨fun q => by omega, fun q => by omega, fun q => by omega⟩), T1, hD.kp K hN hw (by omega) (fun k => by omega) (fun j hj q => by omega), ?_, hG.kp K hN hw (by omega) (fun k => by omega), fun j hj => (hV j hj).kp K hN hw hj (fun t c k _ _ => by omega), hA.kp K hN (by omega) (fun t c k _ _ => by omega), hn.kp K hN (by omega), ?_⟩
      · rw [K.I (by omega) (by omega)]; exact hb
      · rw [K.I (by omega) (by omega)]; exact hm
    · rw [if_neg c]
      refine ⟨σ, ?_, ke.rf, rfl, rfl, h0⟩
      unfold E_feed
      simp only [nl]
      rw [if_neg (nI_nlt (by omega) (by omega)), if_pos (nI_le h2 (by omega)), ldI_ok t0, hT.2.1]
      simp only [Option.bind_some, nI_add]
      rw [if_neg (nI_ge (by omega) (by omega))]
  · rw [feedS_out h2]
    refine ⟨σ, ?_, ke.rf, rfl, rfl, h0⟩
    unfold E_feed
    rw [if_pos h1]
  · rw [feedS_out (fun z => h2 z.2)]
    refine ⟨σ, ?_, ke.rf, rfl, rfl, h0⟩
    unfold E_feed
    rw [if_neg h1, if_neg h2]
theorem M_feed_all {R : RS} {tp : Nat → Nat} {n : Nat} {D : List DocT} {dl : Nat → Bool} {bs : Nat} {G : List SegT} {V : Nat → VwT} {A : AnT} {nr : Option (List Nat)} {mg : Nat} {st sp : Bool} (h : rH R tp n D dl bs G V A nr mg st sp) (a b : Int64) (x : Int32) : ∃ R', M_feed R a b x = some ((feedS tp n a b x).1, R') ∧ rH R' (feedS tp n a b x).2.1 (feedS tp n a b x).2.2 D dl bs G V A nr mg st sp := by
  have h0 := h
  obtain ⟨h1, h2, h3, h4, h5, h6, h7, h8, h9, h10⟩ := h
  have hn6 := h1.1
  rcases feed_x x with ⟨k, q1, q2, rfl⟩ | ⟨q1, q2⟩ | ⟨q1, q2⟩
  · rw [feedS_in q1 q2]
    by_cases c : n + k ≤ 600
    · rw [if_pos c]
      obtain ⟨R', e1, T1, k1⟩ := M_feed_ok (a := a) (b := b) h1 q1 q2 c
      have K : Rp (fun t c j => t = 0 ∧ (c = 1 ∨ (c = 0 ∧ j = 3))) R R' := fun c j _ => ⟨fun q => k1.2 c j (fun z => q ⟨rfl, z⟩), fun _ => by rw [k1.1], fun _ => by rw [k1.1]⟩
      refine ⟨R', e1, T1, h2.rp K (by omega) (fun _ _ _ _ _ => by omega), h3.rp K (by omega) (fun _ => by omega), h4.rp K (by omega) (fun _ _ _ _ => by omega), fun i hi => (h5 i hi).rp K (fun _ _ _ _ _ => by omega), h6.rp K ⟨by omega, by omega, by omega⟩ (fun _ _ _ _ => by omega), h7.rp K (by omega) (fun _ => by omega), ?_, by rw [k1.1]; exact h9, by rw [k1.1]; exact h10⟩
      rw [K.I (by decide) (by omega)]; exact h8
    · rw [if_neg c]
      refine ⟨R, ?_, h0⟩
      unfold M_feed
      rw [M_in_ok]
      simp only [nl, nI_leI (show 1 < 2 ^ 31 by omega) (show k < 2 ^ 31 by omega), nI_leI (show k < 2 ^ 31 by omega) (show 16 < 2 ^ 31 by omega), Option.bind_some, h1.2.1, nI_add]
      rw [if_pos (by simp; omega), if_neg (nI_ge (by omega) (by omega))]
  · rw [feedS_out q2]
    refine ⟨R, ?_, h0⟩
    unfold M_feed
    rw [M_in_ok]
    simp only [Option.bind_some, q2, decide_false, Bool.false_eq_true, if_false]
  · rw [feedS_out (fun z => q2 z.2)]
    refine ⟨R, ?_, h0⟩
    unfold M_feed
    rw [M_in_ok]
    simp only [Option.bind_some, q2, and_false, decide_false, Bool.false_eq_true, if_false]
