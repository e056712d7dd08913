/-! GREATEST BEGINNINGS; the Speller's constructor -/
theorem Sp_greatestBeginning_ok {σ : Mem} {a : Nat} {tp : Nat → Nat} (h : tpA σ a tp) {p k : Nat} (hp : p + k ≤ 600) : Sp_greatestBeginning σ (some a) (nI p) (nI k) = some (lN ((sg (small tp p k) + 1) * 37 ^ (12 - (small tp p k).length) - 1)) := by
  unfold Sp_greatestBeginning
  have e : minI (nI k) 12 = nI (min k 12) := by
    rw [show (12 : Int32) = nI 12 from rfl, iMin (by omega) (by omega)]
  rw [e, Sp_signsOf_ok h (by omega)]
  simp only [Option.bind_some]
  rw [show (1 : Int64) = lN 1 from rfl, lN_add, Sp_padded_ok (by omega)]
  simp only [Option.bind_some]
  have hl : (small tp p k).length = min k 12 := small_len tp p k
  have hpos : 1 ≤ (sg (small tp p k) + 1) * 37 ^ (12 - min k 12) := Nat.mul_pos (by omega) (Nat.pow_pos (by decide))
  rw [hl]
  exact congrArg some (lN_sub hpos)
/-- the signs of the Speller's stop words -/
def spL : List Nat := (jsByt.getD 0 []).map (fun c => sgn c.toNatClampNeg)
def spF (l : List Nat) : Nat × Nat × Nat × List Nat := l.foldl (fun s c => if c = 0 then (if 11 ≤ s.1 then s else (s.1 + 1, 0, 0, s.2.2.2 ++ [s.2.2.1 * 37 ^ (12 - s.2.1)])) else (s.1, s.2.1 + 1, s.2.2.1 * 37 + c, s.2.2.2)) (0, 0, 0, [])
theorem spL_len : sLen 0 = some (nI spL.length) := by decide +kernel
theorem spL_at : ∀ k, k < spL.length → (sCh 0 (nI k)).bind Sp_signOf = some (nI (spL.getD k 0)) := by decide +kernel
theorem spL_ok : ∀ k, k < spL.length + 1 → (spF (spL.take k)).1 ≤ 11 ∧ (spF (spL.take k)).2.1 ≤ 12 ∧ (spF (spL.take k)).2.2.2.length = (spF (spL.take k)).1 := by decide +kernel
theorem spL_end : (spF spL).1 = 11 ∧ ∀ i, i < 11 → (spF spL).2.2.2.getD i 0 = enc (stopL.getD i []) := by decide +kernel
theorem spL_s : ∀ k, k < spL.length → spF (spL.take (k + 1)) = (if spL.getD k 0 = 0 then (if 11 ≤ (spF (spL.take k)).1 then spF (spL.take k) else ((spF (spL.take k)).1 + 1, 0, 0, (spF (spL.take k)).2.2.2 ++ [(spF (spL.take k)).2.2.1 * 37 ^ (12 - (spF (spL.take k)).2.1)])) else ((spF (spL.take k)).1, (spF (spL.take k)).2.1 + 1, (spF (spL.take k)).2.2.1 * 37 + spL.getD k 0, (spF (spL.take k)).2.2.2)) := by decide +kernel
theorem spL_n : spL.length < 1000 ∧ ∀ k, k < spL.length → spL.getD k 0 < 37 := by decide +kernel
theorem i37 : ∀ c, c < 37 → (nI c).toInt64 = lN c := by decide +kernel
theorem Sp_init_ok {σ : Mem} {th : Nat} (hz : zN σ) (ht : (gT σ th).1 = 7) (hlt : th < gN σ) (b1 b2 : Bool) : ∃ σ', Sp_init σ th b1 b2 = some σ' ∧ gN σ' = gN σ + 1 ∧ gU σ' = gU σ + 11 ∧ zN σ' ∧ (∀ a, a < gN σ → gT σ' a = gT σ a) ∧ gT σ' (gN σ) = (101, 11) ∧ gR σ' th 2 = some (gN σ) ∧ gB σ' th 0 = b1 ∧ gB σ' th 1 = b2 ∧ (∀ i, i < 11 → gL σ' (gN σ) i = lN (enc (stopL.getD i []))) ∧ gI σ' = gI σ ∧ (∀ a, a ≠ gN σ → gL σ' a = gL σ a) ∧ (∀ a k, ¬ (a = th ∧ k = 2) → gR σ' a k = gR σ a k) ∧ ∀ a k, a ≠ th → gB σ' a k = gB σ a k := by
  unfold Sp_init
  rw [stB_ok ht]
  simp only [Option.bind_some]
  rw [stB_ok (show (gT (sB σ th 0 b1) th).1 = 7 from ht)]
  simp only [Option.bind_some]
  have hz2 : zN (sB (sB σ th 0 b1) th 1 b2) := (hz.sB hlt).sB hlt
  have h0 : gB (sB (sB σ th 0 b1) th 1 b2) th 0 = b1 := by rw [gB_sBn (by omega), gB_sBs]
  have h1 : gB (sB (sB σ th 0 b1) th 1 b2) th 1 = b2 := gB_sBs _ _ _ _
  have h2 : ∀ a k, a ≠ th → gB (sB (sB σ th 0 b1) th 1 b2) a k = gB σ a k := fun a k q => by rw [gB_sBn (by omega), gB_sBn (by omega)]
  obtain ⟨m, hm1, hm2, hm3, hm4, hm5, hm6, hm7⟩ : ∃ m, sB (sB σ th 0 b1) th 1 b2 = m ∧ gN m = gN σ ∧ gU m = gU σ ∧ gT m = gT σ ∧ gI m = gI σ ∧ gL m = gL σ ∧ gR m = gR σ := ⟨_, rfl, rfl, rfl, rfl, rfl, rfl, rfl⟩
  rw [hm1] at hz2 h0 h1 h2 ⊢
  rw [show (11 : Int32) = nI 11 from rfl]
  obtain ⟨m', e1, c1, t1, r1, r2⟩ := nwst_ok (k := 2) (ci := 7) (t := 1) (n := 11) (fun m4 => (lp (fun q : Int32 × Int32 × Int64 × Int32 × Mem => Sp_init_l33 q.2.2.2.2 th q.1 q.2.1 q.2.2.1 q.2.2.2.1) (0, 0, (0 : Int64), 0, m4)).bind fun z16 => some z16) hz2 (show th < gN m by omega) (show (gT m th).1 = 7 by rw [hm4]; exact ht) (by omega)
  rw [e1]
  obtain ⟨c2, c3, c4, c5, c6, c7, c8⟩ := c1
  have tr : (gT m' (gN m)).1 = 100 + 1 ∧ (gT m' (gN m)).2 = 11 := by rw [t1]; exact ⟨rfl, rfl⟩
  have tth : (gT m' th).1 = 7 := by rw [c4 th (by omega), hm4]; exact ht
  obtain ⟨z, hz, q1, q2, q3, q4, q5, q6, q7, q8⟩ : ∃ z, lp (fun q : Int32 × Int32 × Int64 × Int32 × Mem => Sp_init_l33 q.2.2.2.2 th q.1 q.2.1 q.2.2.1 q.2.2.2.1) ((fun (k : Nat) (s : Mem) => (nI (spF (spL.take k)).1, nI (spF (spL.take k)).2.1, lN (spF (spL.take k)).2.2.1, nI k, s)) 0 m') = some z ∧ (gN z = gN m' ∧ gU z = gU m' ∧ gT z = gT m' ∧ gI z = gI m' ∧ gR z = gR m' ∧ gB z = gB m' ∧ (∀ a, a ≠ gN m → gL z a = gL m' a) ∧ ∀ i, i < 11 → gL z (gN m) i = lN ((spF spL).2.2.2.getD i 0)) := by
    refine lp_for (fun (k : Nat) (s : Mem) => (nI (spF (spL.take k)).1, nI (spF (spL.take k)).2.1, lN (spF (spL.take k)).2.2.1, nI k, s)) spL.length (fun k z => gN z = gN m' ∧ gU z = gU m' ∧ gT z = gT m' ∧ gI z = gI m' ∧ gR z = gR m' ∧ gB z = gB m' ∧ (∀ a, a ≠ gN m → gL z a = gL m' a) ∧ ∀ i, i < (spF (spL.take k)).1 → gL z (gN m) i = lN ((spF (spL.take k)).2.2.2.getD i 0)) _ (fun k s hk hI => ?_) (fun s hI => ?_) spL.length 0 _ (by omega) ⟨rfl, rfl, rfl, rfl, rfl, rfl, fun _ _ => rfl, fun i hi => absurd hi (Nat.not_lt_zero i)⟩
    · left
      obtain ⟨y1, y2, y3, y4, y5, y6, y7, y8⟩ := hI
      obtain ⟨o1, o2, o3⟩ := spL_ok k (by omega)
      have hs := spL_s k hk
      have hL := spL_n
      have hc := hL.2 k hk
      have ha := spL_at k hk
      unfold Sp_init_l33
      simp only
      rw [spL_len]
      simp only [Option.bind_some]
      rw [if_neg (by rw [iLe (by omega) (by omega)]; omega), ← Option.bind_assoc, ha, hs]
      generalize spF (spL.take k) = f at *
      obtain ⟨c, l, v, out⟩ := f
      simp only at o1 o2 o3 y8 ⊢
      simp only [Option.bind_some]
      have e0 : (nI (spL.getD k 0) = 0) = (spL.getD k 0 = 0) := iEq (b := 0) (by omega) (by omega)
      have e11 : ((11 : Int32) ≤ nI c) = (11 ≤ c) := iLe (a := 11) (by omega) (by omega)
      simp only [e0, e11]
      have ek : nI k + 1 = nI (k + 1) := nI_add k 1
      by_cases d : spL.getD k 0 = 0
      · simp only [d, if_true]
        by_cases d2 : 11 ≤ c
        · simp only [d2, if_true]
          exact ⟨s, by simp only [Option.bind_some, ek], y1, y2, y3, y4, y5, y6, y7, y8⟩
        · simp only [d2, if_false]
          have ts : (gT s th).1 = 7 := by rw [y3]; exact tth
          have tr1 : (gT s (gN m)).1 = 100 + 1 := by rw [y3]; exact tr.1
          have tr2 : (gT s (gN m)).2 = 11 := by rw [y3]; exact tr.2
          have rs : gR s th 2 = some (gN m) := by rw [y5]; exact r1
          rw [ldR_ok ts, rs, Sp_padded_ok o2]
          simp only [Option.bind_some]
          rw [waL_k tr1 (by omega) (by omega)]
          simp only [Option.bind_some]
          refine ⟨sL s (gN m) c (lN (v * 37 ^ (12 - l))), ?_, y1, y2, y3, y4, y5, y6, fun a ha => ?_, fun i hi => ?_⟩
          · rw [ek, show nI c + 1 = nI (c + 1) from nI_add c 1]
            rfl
          · rw [← y7 a ha]
            funext j
            rw [gL_sLn (by omega)]
          · by_cases z : i = c
            · subst z
              rw [gL_sLs, List.getD_eq_getElem?_getD, List.getElem?_append_right (by omega), o3]
              simp
            · rw [gL_sLn (by omega), y8 i (by omega), List.getD_eq_getElem?_getD, List.getD_eq_getElem?_getD, List.getElem?_append_left (by omega)]
      · simp only [d, if_false, Option.bind_some]
        refine ⟨s, ?_, y1, y2, y3, y4, y5, y6, y7, y8⟩
        rw [ek, show nI l + 1 = nI (l + 1) from nI_add l 1, i37 _ hc, show (37 : Int64) = lN 37 from rfl, lN_mul, lN_add]
    · obtain ⟨y1, y2, y3, y4, y5, y6, y7, y8⟩ := hI
      have hL := spL_n
      have ht' : spL.take spL.length = spL := List.take_length
      rw [ht', spL_end.1] at y8
      refine ⟨s, ?_, y1, y2, y3, y4, y5, y6, y7, y8⟩
      unfold Sp_init_l33
      simp only
      rw [spL_len]
      simp only [Option.bind_some]
      rw [if_pos (by rw [iLe (by omega) (by omega)]; exact Nat.le_refl _)]
  have hz : lp (fun q : Int32 × Int32 × Int64 × Int32 × Mem => Sp_init_l33 q.2.2.2.2 th q.1 q.2.1 q.2.2.1 q.2.2.2.1) (0, 0, (0 : Int64), 0, m') = some z := hz
  rw [hz]
  refine ⟨z, rfl, by omega, by omega, fun a ha => ?_, fun a ha => ?_, ?_, ?_, ?_, ?_, fun i hi => ?_, ?_, fun a ha => ?_, fun a k ha => ?_, fun a k ha => ?_⟩
  · obtain ⟨g1, g2, g3, g4⟩ := c8 a (by omega)
    rw [q4, q5, q6, q7 a (by omega)]
    exact ⟨g1, g2, g3, g4⟩
  · rw [q3, c4 a (by omega), hm4]
  · rw [q3, ← hm2]; exact t1
  · rw [q5, ← hm2]; exact r1
  · rw [q6, c7]; exact h0
  · rw [q6, c7]; exact h1
  · rw [← hm2, q8 i hi, spL_end.2 i hi]
  · rw [q4, c5]; exact hm5
  · rw [q7 a (by omega), c6, hm6]
  · rw [q5, r2 a k ha, hm7]
  · rw [q6, c7]; exact h2 a k ha
