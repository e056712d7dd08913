/-! the start of both, and the pure theorem -/
theorem bits (x : Int32) {k : Nat} (hk : k < 256) : ∃ b, b ≤ k ∧ x &&& nI k = nI b := by
  refine ⟨(x.toBitVec &&& BitVec.ofNat 32 k).toNat, ?_, ?_⟩
  · rw [BitVec.toNat_and]
    refine Nat.le_trans Nat.and_le_right ?_
    rw [BitVec.toNat_ofNat]
    exact Nat.mod_le _ _
  · apply Int32.toBitVec_inj.mp
    rw [Int32.toBitVec_and]
    show x.toBitVec &&& _ = BitVec.ofNat 32 _
    rw [BitVec.ofNat_toNat]
    simp
    rfl
theorem bit_ok (x : Int32) {k : Nat} (hk : k < 256) : ∃ t, bitE x (nI k) = some t ∧ bitP x (nI k) = some t := by
  obtain ⟨b, hb, e⟩ := bits x hk
  unfold bitE bitP
  rw [e, show (0 : Int32) = nI 0 from rfl]
  by_cases c : b = 0
  · subst c
    exact ⟨false, by rw [if_pos rfl], by rw [if_pos (nI_le (Nat.le_refl 0) (by omega))]⟩
  · exact ⟨true, by rw [if_neg (by rw [iEq (by omega) (by omega)]; omega)], by rw [if_neg (nI_ge (by omega) (by omega))]⟩
theorem LW_cell_ok {b L : Nat} {xs : Nat → Int32} (hL : L ≤ 385) : ∃ x, LW_cell (b, L, xs) 0 = some x := by
  unfold LW_cell
  by_cases c : Int32.ofNat (b, L, xs).2.1 ≤ 0
  · rw [if_pos c]
    exact ⟨_, rfl⟩
  · rw [if_neg c]
    have hl : 0 < L := by
      apply Nat.pos_of_ne_zero
      intro h
      subst h
      exact c (show Int32.ofNat 0 ≤ 0 by decide)
    have := scX_ok (b := b) (xs := xs) hl hL
    rw [show (0 : Int32) = nI 0 from rfl, this]
    exact ⟨_, rfl⟩
theorem fixR_of {σ σ' : Mem} {e : Nat} (h : fixR σ e) (r : ∀ c k, c < 355 → gR σ' (e + c) k = gR σ (e + c) k) : fixR σ' e := by
  obtain ⟨a1, a2, a3, a4, a5, a6, a7, a8, a9, b, a10, a11, q, a12, a13, a14⟩ := h
  have r0 : ∀ k, gR σ' e k = gR σ e k := fun k => r 0 k (by omega)
  refine ⟨?_, ?_, ?_, ?_, ?_, ?_, ?_, ?_, ?_, fun i hi => ?_, ?_, ?_, fun j hj => ?_, ?_, ?_, ?_⟩
  · rw [r0]; exact a1
  · rw [r0]; exact a2
  · rw [r0]; exact a3
  · rw [r0]; exact a4
  · rw [r0]; exact a5
  · rw [r0]; exact a6
  · rw [r0]; exact a7
  · rw [r0]; exact a8
  · rw [r _ _ (by omega)]; exact a9
  · obtain ⟨c1, c2, c3, c4⟩ := b i hi
    refine ⟨?_, ?_, ?_, ?_⟩
    · rw [r _ _ (by omega)]; exact c1
    · rw [r _ _ (by omega)]; exact c2
    · rw [r _ _ (by omega)]; exact c3
    · rw [r _ _ (by omega)]; exact c4
  · rw [r _ _ (by omega)]; exact a10
  · rw [r _ _ (by omega)]; exact a11
  · obtain ⟨d1, d2⟩ := q j hj
    refine ⟨by rw [r _ _ (by omega)]; exact d1, fun k hk => ?_⟩
    obtain ⟨c1, c2, c3, c4⟩ := d2 k hk
    refine ⟨?_, ?_, ?_, ?_⟩
    · rw [r _ _ (by omega)]; exact c1
    · rw [r _ _ (by omega)]; exact c2
    · rw [r _ _ (by omega)]; exact c3
    · rw [r _ _ (by omega)]; exact c4
  · rw [r _ _ (by omega)]; exact a12
  · rw [r _ _ (by omega)]; exact a13
  · rw [r _ _ (by omega)]; exact a14
theorem uN : fN 11 + 9000 + fN 12 + (mkW rL1 + mkW rL2 + mkW rL3) ≤ 1800000 := by decide
theorem Sim_0 {n : Nat} {x : Int32} {st sp : Bool} (hs : bitE x 1 = some st) (hp : bitE x 2 = some sp) (hs2 : bitP x 1 = some st) (hp2 : bitP x 2 = some sp) : ∃ s σ, E_init (nwO (mem0 n) 11) n x = some s ∧ gN s = n + 355 ∧ M_init (nwO s 12) (n + 355) x = some σ ∧ Sim 1800000 n 0 st sp σ := by
  obtain ⟨z0, n0, u0, t0, k0, i0, l0, b0⟩ := nwO_made 11 (zN_mem0 n)
  have g0 : gN (mem0 n) = n := rfl
  rw [g0] at n0 t0
  have uu0 : gU (mem0 n) = 0 := rfl
  rw [uu0] at u0
  have hI0 : ∀ k, gI (nwO (mem0 n) 11) n k = 0 := fun k => by rw [i0]; rfl
  generalize nwO (mem0 n) 11 = s0 at *
  obtain ⟨s, e1, n1, u1, z1, T1, R1, Q1, B1, B2, L1, I1, I2, B3, L2⟩ := E_init_ok z0 t0 n0 hI0 hs hp
  obtain ⟨z2, n2, u2, t2, k2, i2, l2, b2⟩ := nwO_made 12 z1
  rw [n1] at n2 t2
  generalize hs2' : nwO s 12 = s2 at *
  obtain ⟨σ, e3, n3, u3, RB3, K3, I3, B4⟩ := M_init_ok (th := n + 355) z2 t2 n2 (fun k => by rw [i2, (z1 _ (by omega)).1]) (fun k => by rw [b2, (z1 _ (by omega)).2.2.2]) hs2 hp2
  have fT : ∀ c, c < 355 → gT σ (n + c) = gT s (n + c) := fun c hc => by rw [(K3 _ (by omega)).1, k2.T (by omega)]
  have fI : ∀ c k, c < 355 → gI σ (n + c) k = gI s (n + c) k := fun c k hc => by rw [(K3 _ (by omega)).2.1, i2]
  have fL : ∀ c k, c < 355 → gL σ (n + c) k = gL s (n + c) k := fun c k hc => by rw [(K3 _ (by omega)).2.2.1, l2]
  have fR : ∀ c k, c < 355 → gR σ (n + c) k = gR s (n + c) k := fun c k hc => by rw [(K3 _ (by omega)).2.2.2.1, k2.R (by omega) (fun q => q)]
  have fB : ∀ c k, c < 355 → gB σ (n + c) k = gB s (n + c) k := fun c k hc => by rw [(K3 _ (by omega)).2.2.2.2, b2]
  refine ⟨s, σ, e1, n1, by rw [hs2']; exact e3, fun _ => 0, fun _ => 0, 0, [], fun _ => false, 0, [], fun _ => (false, [], []), (-1, [], []), none, 0, ?_, rH_0 I3 B4, RB3, okS_0 _ (fun i hi => rfl), by omega, ?_⟩
  · refine cH_0 (fun c hc => by rw [fT c hc]; exact T1 c hc) (fixR_of R1 fR) ⟨Q1.1, by rw [fR _ _ (by omega)]; exact Q1.2.1, by rw [show n = n + 0 from rfl, fR 0 _ (by omega)]; exact Q1.2.2⟩ (by rw [fB _ _ (by omega)]; exact B1) (by rw [fB _ _ (by omega)]; exact B2) (fun i hi => by rw [fL _ _ (by omega)]; exact L1 i hi) (by omega) (fun c k hc hk => by rw [fI _ _ hc]; exact I1 c k hc hk) (by rw [fI _ _ (by omega)]; exact I2) (fun i hi => by rw [fB _ _ (by omega)]; exact B3 i hi) (by rw [fL _ _ (by omega)]; exact L2)
  · have := uN
    omega
theorem room_ok : 1800000 + 54087 * 64 + 48072 * 22 ≤ room_1.slots := by decide
theorem pure_law (n b L : Nat) (xs : Nat → Int32) (hL : L ≤ 385) : ∃ σ' : Mem, LW_law (mem0 n) (b, L, xs) = some σ' ∧ gN σ' ≤ n + 600000 ∧ gU σ' ≤ room_1.slots := by
  obtain ⟨x, hx⟩ := LW_cell_ok (b := b) (xs := xs) hL
  obtain ⟨st, hs, hs2⟩ := bit_ok x (show 1 < 256 by decide)
  obtain ⟨sp, hp, hp2⟩ := bit_ok x (show 2 < 256 by decide)
  obtain ⟨s, σ, e1, n1, e2, hS⟩ := Sim_0 (n := n) hs hp hs2 hp2
  obtain ⟨σ', e3, da, tp, n', D, dl, bs, G, V, A, nr, mg, H, Rr, hB, ok, b1, b2⟩ := law_loop (b := b) (L := L) (xs := xs) hS hL
  have hm := ok.1.2.2.2.2.1
  have hr := room_ok
  refine ⟨σ', ?_, by omega, by omega⟩
  have g0 : gN (mem0 n) = n := rfl
  unfold LW_law
  rw [Option.bind_some, hx, Option.bind_some, g0, e1, Option.bind_some, Option.bind_some, Option.bind_some, n1, e2, Option.bind_some, e3, Option.bind_some]
