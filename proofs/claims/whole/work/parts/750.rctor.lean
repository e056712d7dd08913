/-! rows made one after another; the reference's constructor -/
def mkL (th ci : Nat) : List (Nat × Nat × Nat) → (Mem → Option Mem) → Mem → Option Mem
  | [], K => K
  | x :: L, K => fun m => (nwA m x.2.1 (nI x.2.2)).bind fun m1 => (stR m1 ci x.1 (some th) (some (gN m))).bind fun m2 => mkL th ci L K m2
def mkW (L : List (Nat × Nat × Nat)) : Nat := (L.map (fun x => x.2.2)).sum
theorem mkL_ok {th ci : Nat} (K : Mem → Option Mem) : ∀ (L : List (Nat × Nat × Nat)) (m : Mem), zN m → th < gN m → (gT m th).1 = ci → (∀ x, x ∈ L → x.2.2 ≤ 2000000) → (L.map (fun x => x.1)).Nodup → ∃ m', mkL th ci L K m = K m' ∧ cMore L.length (mkW L) m m' ∧ (∀ j, j < L.length → gT m' (gN m + j) = (100 + (L.getD j (0, 0, 0)).2.1, (L.getD j (0, 0, 0)).2.2) ∧ gR m' th (L.getD j (0, 0, 0)).1 = some (gN m + j)) ∧ ∀ a k, ¬ (a = th ∧ k ∈ L.map (fun x => x.1)) → gR m' a k = gR m a k
  | [], m, hz, _, _, _, _ => ⟨m, rfl, cMore.rf hz, fun j hj => absurd hj (Nat.not_lt_zero _), fun _ _ _ => rfl⟩
  | x :: L, m, hz, hlt, ht, hn, hd => by
    have hd' := List.nodup_cons.mp hd
    obtain ⟨m1, e1, c1, t1, r1, o1⟩ := nwst_ok (k := x.1) (t := x.2.1) (n := x.2.2) (fun m2 => mkL th ci L K m2) hz hlt ht (hn x (List.mem_cons_self))
    have n1 := c1.n
    obtain ⟨m', e2, c2, f2, o2⟩ := mkL_ok (th := th) (ci := ci) K L m1 c1.z (by omega) (by rw [c1.t hlt]; exact ht) (fun y hy => hn y (List.mem_cons_of_mem _ hy)) hd'.2
    refine ⟨m', e1.trans e2, ?_, fun j hj => ?_, fun a k h => ?_⟩
    · have := c1.tr c2
      rw [show (x :: L).length = 1 + L.length by rw [List.length_cons]; omega, show mkW (x :: L) = x.2.2 + mkW L by unfold mkW; rw [List.map_cons, List.sum_cons]]
      exact this
    · cases j with
      | zero =>
        refine ⟨?_, ?_⟩
        · rw [Nat.add_zero, c2.t (by omega)]; exact t1
        · show gR m' th x.1 = _
          rw [o2 _ _ (fun z => hd'.1 z.2)]
          exact r1
      | succ j =>
        have hj : j < L.length := by rw [List.length_cons] at hj; omega
        obtain ⟨g1, g2⟩ := f2 j hj
        rw [n1] at g1 g2
        rw [show gN m + (j + 1) = gN m + 1 + j by omega]
        exact ⟨g1, g2⟩
    · have h1 : ¬ (a = th ∧ k = x.1) := fun z => h ⟨z.1, by rw [List.map_cons, z.2]; exact List.mem_cons_self⟩
      have h2 : ¬ (a = th ∧ k ∈ L.map (fun x => x.1)) := fun z => h ⟨z.1, by rw [List.map_cons]; exact List.mem_cons_of_mem _ z.2⟩
      rw [o2 a k h2, o1 a k h1]
def rL1 : List (Nat × Nat × Nat) := [(2, 0, 600), (5, 1, 400), (6, 0, 400), (7, 0, 400), (8, 3, 400), (9, 0, 800), (10, 0, 100000), (11, 0, 100000), (12, 0, 100000), (13, 0, 1200000), (14, 0, 400), (17, 0, 420), (18, 0, 420), (19, 0, 168000), (21, 3, 4), (22, 0, 4), (23, 0, 4), (24, 0, 1600), (25, 3, 1600)]
def rL2 : List (Nat × Nat × Nat) := [(28, 0, 400), (29, 0, 400), (31, 0, 400), (32, 0, 400), (33, 0, 400), (34, 0, 4800)]
def rL3 : List (Nat × Nat × Nat) := [(36, 0, 12), (37, 0, 12), (39, 0, 400), (46, 0, 400), (47, 0, 400), (48, 0, 400), (49, 0, 400), (52, 0, 400), (53, 0, 4800), (54, 0, 400), (55, 0, 10), (56, 0, 10), (57, 3, 10), (60, 0, 400), (61, 0, 400), (62, 0, 400), (66, 3, 420), (67, 0, 420), (69, 0, 14), (70, 0, 14)]
def bitP (x k : Int32) : Option Bool := if (x &&& k) ≤ 0 then some false else some true
theorem M_init_mk (σ : Mem) (th : Nat) (x1 : Int32) : M_init σ th x1 = mkL th 12 rL1 (fun m38 => (stI m38 12 27 (some th) (-1)).bind fun m39 => mkL th 12 rL2 (fun m51 => (stI m51 12 35 (some th) (-1)).bind fun m52 => mkL th 12 rL3 (fun m92 => (bitP x1 1).bind fun q93 => (stB m92 12 0 (some th) q93).bind fun m95 => (bitP x1 2).bind fun q96 => (stB m95 12 1 (some th) q96).bind fun m98 => some m98) m52) m39) σ := rfl
theorem rL_t : (∀ j, j < 19 → (100 + (rL1.getD j (0, 0, 0)).2.1, (rL1.getD j (0, 0, 0)).2.2) = arC.getD (1 + j) (99, 0)) ∧ (∀ j, j < 6 → (100 + (rL2.getD j (0, 0, 0)).2.1, (rL2.getD j (0, 0, 0)).2.2) = arC.getD (20 + j) (99, 0)) ∧ ∀ j, j < 20 → (100 + (rL3.getD j (0, 0, 0)).2.1, (rL3.getD j (0, 0, 0)).2.2) = arC.getD (26 + j) (99, 0) := by decide
theorem rL_r : ∀ k, k < 71 → refC.getD k 0 ≠ 0 → (refC.getD k 0 < 20 ∧ (rL1.getD (refC.getD k 0 - 1) (0, 0, 0)).1 = k) ∨ (20 ≤ refC.getD k 0 ∧ refC.getD k 0 < 26 ∧ (rL2.getD (refC.getD k 0 - 20) (0, 0, 0)).1 = k) ∨ (26 ≤ refC.getD k 0 ∧ refC.getD k 0 < 46 ∧ (rL3.getD (refC.getD k 0 - 26) (0, 0, 0)).1 = k) := by decide
theorem rL_n : (rL1.map (fun x => x.1)).Nodup ∧ (rL2.map (fun x => x.1)).Nodup ∧ (rL3.map (fun x => x.1)).Nodup ∧ (∀ x, x ∈ rL1 → x.2.2 ≤ 2000000) ∧ (∀ x, x ∈ rL2 → x.2.2 ≤ 2000000) ∧ (∀ x, x ∈ rL3 → x.2.2 ≤ 2000000) ∧ (∀ j, j < 19 → (rL1.getD j (0, 0, 0)).1 < 26) ∧ (∀ j, j < 6 → 26 < (rL2.getD j (0, 0, 0)).1 ∧ (rL2.getD j (0, 0, 0)).1 < 36) ∧ (∀ x, x ∈ rL2 → 27 < x.1 ∧ x.1 < 35) ∧ ∀ x, x ∈ rL3 → 35 < x.1 := by decide
