/-- the reference made: its cells stand in a row, and its numbers are those of the start -/
theorem M_init_ok {σ : Mem} {th : Nat} {x1 : Int32} {st sp : Bool} (hz : zN σ) (ht : gT σ th = (12, 0)) (hth : gN σ = th + 1) (hI : ∀ k, gI σ th k = 0) (hB : ∀ k, gB σ th k = false) (hs : bitP x1 1 = some st) (hp : bitP x1 2 = some sp) : ∃ σ', M_init σ th x1 = some σ' ∧ gN σ' = th + 46 ∧ gU σ' = gU σ + (mkW rL1 + mkW rL2 + mkW rL3) ∧ RB σ' th ∧ (∀ a, a < th → gT σ' a = gT σ a ∧ gI σ' a = gI σ a ∧ gL σ' a = gL σ a ∧ gR σ' a = gR σ a ∧ gB σ' a = gB σ a) ∧ (∀ c j, c < 46 → gI σ' (th + c) j = if c = 0 ∧ (j = 27 ∨ j = 35) then -1 else 0) ∧ (∀ c j, c < 46 → gB σ' (th + c) j = if c = 0 ∧ j = 0 then st else if c = 0 ∧ j = 1 then sp else false) := by
  obtain ⟨nd1, nd2, nd3, q1, q2, q3, b1, b2, b3, b4⟩ := rL_n
  have hT := rL_t
  have hR := rL_r
  have l1 : rL1.length = 19 := rfl
  have l2 : rL2.length = 6 := rfl
  have l3 : rL3.length = 20 := rfl
  rw [M_init_mk]
  generalize rL1 = L1 at *
  generalize rL2 = L2 at *
  generalize rL3 = L3 at *
  have hlt : th < gN σ := by omega
  obtain ⟨m1, e1, c1, f1, o1⟩ := mkL_ok (th := th) (ci := 12) (fun m38 => (stI m38 12 27 (some th) (-1)).bind fun m39 => mkL th 12 L2 (fun m51 => (stI m51 12 35 (some th) (-1)).bind fun m52 => mkL th 12 L3 (fun m92 => (bitP x1 1).bind fun q93 => (stB m92 12 0 (some th) q93).bind fun m95 => (bitP x1 2).bind fun q96 => (stB m95 12 1 (some th) q96).bind fun m98 => some m98) m52) m39) L1 σ hz hlt (by rw [ht]) q1 nd1
  rw [e1]
  have n1 : gN m1 = gN σ + 19 := by rw [← l1]; exact c1.n
  have t1 : (gT m1 th).1 = 12 := by rw [c1.t hlt, ht]
  rw [stI_ok t1]
  rw [Option.bind_some]
  have z1 : zN (sI m1 th 27 (-1)) := c1.z.sI (by omega)
  obtain ⟨m2, e2, c2, f2, o2⟩ := mkL_ok (th := th) (ci := 12) (fun m51 => (stI m51 12 35 (some th) (-1)).bind fun m52 => mkL th 12 L3 (fun m92 => (bitP x1 1).bind fun q93 => (stB m92 12 0 (some th) q93).bind fun m95 => (bitP x1 2).bind fun q96 => (stB m95 12 1 (some th) q96).bind fun m98 => some m98) m52) L2 (sI m1 th 27 (-1)) z1 (by rw [gN_sI]; omega) (by rw [gT_sI]; exact t1) q2 nd2
  rw [e2]
  have n2 : gN m2 = gN m1 + 6 := by rw [← l2]; exact c2.n
  have t2 : (gT m2 th).1 = 12 := by rw [c2.t (by rw [gN_sI]; omega), gT_sI]; exact t1
  rw [stI_ok t2]
  rw [Option.bind_some]
  have z2 : zN (sI m2 th 35 (-1)) := c2.z.sI (by omega)
  obtain ⟨m3, e3, c3, f3, o3⟩ := mkL_ok (th := th) (ci := 12) (fun m92 => (bitP x1 1).bind fun q93 => (stB m92 12 0 (some th) q93).bind fun m95 => (bitP x1 2).bind fun q96 => (stB m95 12 1 (some th) q96).bind fun m98 => some m98) L3 (sI m2 th 35 (-1)) z2 (by rw [gN_sI]; omega) (by rw [gT_sI]; exact t2) q3 nd3
  rw [e3]
  have n3 : gN m3 = gN m2 + 20 := by rw [← l3]; exact c3.n
  have t3 : (gT m3 th).1 = 12 := by rw [c3.t (by rw [gN_sI]; omega), gT_sI]; exact t2
  rw [hs]
  rw [Option.bind_some]
  rw [stB_ok t3]
  rw [Option.bind_some]
  rw [hp]
  rw [Option.bind_some]
  rw [stB_ok (by rw [gT_sB]; exact t3)]
  rw [Option.bind_some]
  rw [gN_sI] at f2 f3
  have u1 : gU m1 = gU σ + mkW L1 := c1.2.1
  have u2 : gU m2 = gU m1 + mkW L2 := c2.2.1
  have u3 : gU m3 = gU m2 + mkW L3 := c3.2.1
  have tt1 : ∀ a, a < gN σ → gT m1 a = gT σ a := fun a ha => c1.t ha
  have tt2 : ∀ a, a < gN m1 → gT m2 a = gT m1 a := fun a ha => by rw [c2.t (by rw [gN_sI]; exact ha), gT_sI]
  have tt3 : ∀ a, a < gN m2 → gT m3 a = gT m2 a := fun a ha => by rw [c3.t (by rw [gN_sI]; exact ha), gT_sI]
  have rr2 : ∀ a k, ¬ (a = th ∧ k ∈ L2.map (fun x => x.1)) → gR m2 a k = gR m1 a k := fun a k h => by rw [o2 a k h, gR_sI]
  have rr3 : ∀ a k, ¬ (a = th ∧ k ∈ L3.map (fun x => x.1)) → gR m3 a k = gR m2 a k := fun a k h => by rw [o3 a k h, gR_sI]
  have iI1 : gI m1 = gI σ := c1.2.2.2.1
  have iI2 : gI m2 = gI (sI m1 th 27 (-1)) := c2.2.2.2.1
  have iI3 : gI m3 = gI (sI m2 th 35 (-1)) := c3.2.2.2.1
  have iL : gL m3 = gL σ := c3.2.2.2.2.1.trans (c2.2.2.2.2.1.trans c1.2.2.2.2.1)
  have iB : gB m3 = gB σ := c3.2.2.2.2.2.1.trans (c2.2.2.2.2.2.1.trans c1.2.2.2.2.2.1)
  have hmem2 : ∀ k, k ∈ L2.map (fun x => x.1) → 27 < k ∧ k < 35 := fun k hk => by
    obtain ⟨x, hx, rfl⟩ := List.mem_map.mp hk
    exact b3 x hx
  have hmem3 : ∀ k, k ∈ L3.map (fun x => x.1) → 35 < k := fun k hk => by
    obtain ⟨x, hx, rfl⟩ := List.mem_map.mp hk
    exact b4 x hx
  have hgI : ∀ a j, gI m3 a j = if a = th ∧ j = 35 then -1 else if a = th ∧ j = 27 then -1 else gI σ a j := fun a j => by
    rw [iI3, gI_sI, iI2, gI_sI, iI1]
  refine ⟨_, rfl, ?_, ?_, ⟨fun c hc => ?_, fun k hk hk0 => ?_⟩, fun a ha => ⟨?_, ?_, ?_, ?_, ?_⟩, fun c j hc => ?_, fun c j hc => ?_⟩
  · show gN m3 = _
    omega
  · show gU m3 = _
    omega
  · show gT m3 _ = _
    have hc : c < 46 := hc
    by_cases h0 : c = 0
    · subst h0
      rw [Nat.add_zero, tt3 _ (by omega), tt2 _ (by omega), tt1 _ (by omega), ht]
      rfl
    · by_cases h1 : c < 20
      · have := (f1 (c - 1) (by omega)).1
        rw [hT.1 _ (by omega), show gN σ + (c - 1) = th + c by omega, show 1 + (c - 1) = c by omega] at this
        rw [tt3 _ (by omega), tt2 _ (by omega)]
        exact this
      · by_cases h2 : c < 26
        · have := (f2 (c - 20) (by omega)).1
          rw [hT.2.1 _ (by omega), show gN m1 + (c - 20) = th + c by omega, show 20 + (c - 20) = c by omega] at this
          rw [tt3 _ (by omega)]
          exact this
        · have h46 : c < 46 := hc
          have := (f3 (c - 26) (by omega)).1
          rw [hT.2.2 _ (by omega), show gN m2 + (c - 26) = th + c by omega, show 26 + (c - 26) = c by omega] at this
          exact this
  · show gR m3 th k = _
    rcases hR k hk hk0 with ⟨a1, a2⟩ | ⟨a1, a2, a3⟩ | ⟨a1, a2, a3⟩
    · generalize refC.getD k 0 = c at *
      have := (f1 (c - 1) (by omega)).2
      have hk26 := b1 (c - 1) (by omega)
      rw [a2] at this hk26
      rw [rr3 _ _ (fun z => by have := hmem3 k z.2; omega), rr2 _ _ (fun z => by have := hmem2 k z.2; omega), this]
      congr 1
      omega
    · generalize refC.getD k 0 = c at *
      have := (f2 (c - 20) (by omega)).2
      have hk26 := b2 (c - 20) (by omega)
      rw [a3] at this hk26
      rw [rr3 _ _ (fun z => by have := hmem3 k z.2; omega), this]
      congr 1
      omega
    · generalize refC.getD k 0 = c at *
      have := (f3 (c - 26) (by omega)).2
      rw [a3] at this
      rw [this]
      congr 1
      omega
  · show gT m3 a = _
    rw [tt3 _ (by omega), tt2 _ (by omega), tt1 _ (by omega)]
  · show gI m3 a = _
    funext j
    rw [hgI, if_neg (by omega), if_neg (by omega)]
  · show gL m3 a = _
    rw [iL]
  · show gR m3 a = _
    funext k
    rw [rr3 _ _ (by omega), rr2 _ _ (by omega), o1 _ _ (by omega)]
  · funext k
    rw [gB_sB, if_neg (by omega), gB_sB, if_neg (by omega), iB]
  · show gI m3 (th + c) j = _
    rw [hgI]
    by_cases h0 : c = 0
    · subst h0
      by_cases h1 : j = 35
      · rw [if_pos ⟨rfl, h1⟩, if_pos ⟨rfl, .inr h1⟩]
      · rw [if_neg (fun z => h1 z.2)]
        by_cases h2 : j = 27
        · rw [if_pos ⟨rfl, h2⟩, if_pos ⟨rfl, .inl h2⟩]
        · rw [if_neg (fun z => h2 z.2), if_neg (by omega), Nat.add_zero, hI]
    · rw [if_neg (by omega), if_neg (by omega), if_neg (by omega), (hz _ (by omega)).1]
  · rw [gB_sB, gB_sB, iB]
    by_cases h0 : c = 0
    · subst h0
      rw [Nat.add_zero]
      by_cases h1 : j = 1
      · rw [if_pos ⟨rfl, h1⟩, if_neg (by omega), if_pos ⟨rfl, h1⟩]
      · rw [if_neg (by omega)]
        by_cases h2 : j = 0
        · rw [if_pos ⟨rfl, h2⟩, if_pos ⟨rfl, h2⟩]
        · rw [if_neg (by omega), if_neg (by omega), if_neg (by omega), hB]
    · rw [if_neg (by omega), if_neg (by omega), if_neg (by omega), if_neg (by omega), (hz _ (by omega)).2.2.2]
