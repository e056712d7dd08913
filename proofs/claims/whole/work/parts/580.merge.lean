/-! FLUSH AND MERGE, in lists -/
def liv (dl : Nat → Bool) (ds : List Nat) : List Nat := ds.filter (fun d => !dl d)
/-- taken, kept, place, gathered -/
abbrev MgT : Type := Nat × List SegT × Nat × List Nat
def mgStep (dl : Nat → Bool) (l : Nat) (M : MgT) (s : SegT) : MgT := if s.1 = l ∧ M.1 < 4 then (M.1 + 1, (if M.1 = 0 then M.2.1 ++ [s] else M.2.1), (if M.1 = 0 then M.2.1.length else M.2.2.1), M.2.2.2 ++ liv dl s.2) else (M.1, M.2.1 ++ [s], M.2.2.1, M.2.2.2)
def mgI (dl : Nat → Bool) (l : Nat) (G : List SegT) : Nat → MgT
  | 0 => (0, [], 0, [])
  | i + 1 => mgStep dl l (mgI dl l G i) (gA G i)
def mgS (dl : Nat → Bool) (l : Nat) (G : List SegT) : List SegT := if (mgI dl l G G.length).2.2.2 = [] then (mgI dl l G G.length).2.1.eraseIdx (mgI dl l G G.length).2.2.1 else (mgI dl l G G.length).2.1.set (mgI dl l G G.length).2.2.1 (l + 1, (mgI dl l G G.length).2.2.2)
/-- how many segments have a level -/
def lvc (G : List SegT) (l i : Nat) : Nat := cN (fun k => decide ((gA G k).1 = l)) i
def four (G : List SegT) : Nat := run (fun l => decide (lvc G l G.length < 4)) 6 0
def mgL (dl : Nat → Bool) : Nat → List SegT → Nat → List SegT × Nat
  | 0, G, mg => (G, mg)
  | f + 1, G, mg => if four G < 6 then mgL dl f (mgS dl (four G) G) (mg + 1) else (G, mg)
def bufL (dl : Nat → Bool) (bs n : Nat) : List Nat := liv dl (List.range' bs (n - bs))
def flG (dl : Nat → Bool) (bs n : Nat) (G : List SegT) : List SegT := if bufL dl bs n = [] then G else G ++ [(0, bufL dl bs n)]
def flS (dl : Nat → Bool) (bs n : Nat) (G : List SegT) (mg : Nat) : List SegT × Nat := mgL dl 20 (flG dl bs n G) mg
/-- sums over segments -/
def sm (f : SegT → Nat) (G : List SegT) : Nat := (G.map f).sum
theorem sm_app (f : SegT → Nat) (G H : List SegT) : sm f (G ++ H) = sm f G + sm f H := by simp [sm]
theorem sm_one (f : SegT → Nat) (s : SegT) : sm f [s] = f s := by simp [sm]
theorem sm_set (f : SegT → Nat) (x : SegT) : ∀ (G : List SegT) (p : Nat), p < G.length → sm f (G.set p x) + f (gA G p) = sm f G + f x
  | [], p, h => absurd h (by simp)
  | s :: G, 0, _ => by simp [sm, gA]; omega
  | s :: G, p + 1, h => by
    have := sm_set f x G p (by simpa using h)
    simp [sm, gA] at this ⊢
    omega
theorem sm_erase (f : SegT → Nat) : ∀ (G : List SegT) (p : Nat), p < G.length → sm f (G.eraseIdx p) + f (gA G p) = sm f G
  | [], p, h => absurd h (by simp)
  | s :: G, 0, _ => by simp [sm, gA]; omega
  | s :: G, p + 1, h => by
    have := sm_erase f G p (by simpa using h)
    simp [sm, gA] at this ⊢
    omega
theorem gA_app {G : List SegT} {s : SegT} {k : Nat} : gA (G ++ [s]) k = if k < G.length then gA G k else if k = G.length then s else (0, []) := getD_app
theorem gA_mem {G : List SegT} {k : Nat} (h : k < G.length) : gA G k ∈ G := getD_mem h
theorem sm_take (f : SegT → Nat) (G : List SegT) {i : Nat} (h : i < G.length) : sm f (G.take (i + 1)) = sm f (G.take i) + f (gA G i) := by
  rw [List.take_add_one, List.getElem?_eq_getElem h, Option.toList_some, sm_app, sm_one]
  congr 2
  unfold gA
  rw [List.getD_eq_getElem?_getD, List.getElem?_eq_getElem h]
  rfl
def tot (G : List SegT) : Nat := sm (fun s => s.2.length) G
def mass (G : List SegT) : Nat := sm (fun s => 4 ^ s.1) G
theorem liv_len (dl : Nat → Bool) (ds : List Nat) : (liv dl ds).length ≤ ds.length := List.length_filter_le _ _
/-- what the pass over the segments has, after i of them -/
theorem mgI_ok (dl : Nat → Bool) (l : Nat) (G : List SegT) : ∀ i, i ≤ G.length →
    (mgI dl l G i).1 = min 4 (lvc G l i) ∧ (mgI dl l G i).2.1.length + (mgI dl l G i).1 = i + (if (mgI dl l G i).1 = 0 then 0 else 1) ∧
    ((mgI dl l G i).1 = 0 → (∀ k, k < i → gA (mgI dl l G i).2.1 k = gA G k) ∧ (mgI dl l G i).2.2.2 = []) ∧ ((mgI dl l G i).1 ≠ 0 → (mgI dl l G i).2.2.1 < (mgI dl l G i).2.1.length ∧ (gA (mgI dl l G i).2.1 (mgI dl l G i).2.2.1).1 = l) ∧
    (∀ s, s ∈ (mgI dl l G i).2.1 → s ∈ G) ∧ (∀ d, d ∈ (mgI dl l G i).2.2.2 → ∃ s, s ∈ G ∧ d ∈ s.2) ∧
    mass (mgI dl l G i).2.1 + (mgI dl l G i).1 * 4 ^ l = mass (G.take i) + (if (mgI dl l G i).1 = 0 then 0 else 4 ^ l) ∧
    tot (mgI dl l G i).2.1 + (mgI dl l G i).2.2.2.length ≤ tot (G.take i) + (if (mgI dl l G i).1 = 0 then 0 else (gA (mgI dl l G i).2.1 (mgI dl l G i).2.2.1).2.length)
  | 0, _ => by simp [mgI, lvc, cN, sN, mass, tot, sm]
  | i + 1, h => by
    obtain ⟨a1, a2, a3, a4, a5, a6, a7, a8⟩ := mgI_ok dl l G i (by omega)
    have hm := sm_take (fun s => 4 ^ s.1) G (show i < G.length by omega)
    have ht := sm_take (fun s => s.2.length) G (show i < G.length by omega)
    have hmem := gA_mem (G := G) (show i < G.length by omega)
    have hcs := cN_s (fun k => decide ((gA G k).1 = l)) i
    have hlv : lvc G l (i + 1) = lvc G l i + (if (gA G i).1 = l then 1 else 0) := by
      unfold lvc
      rw [hcs]
      by_cases q : (gA G i).1 = l
      · simp [q]
      · simp [q]
    have hll := liv_len dl (gA G i).2
    have e : mgI dl l G (i + 1) = mgStep dl l (mgI dl l G i) (gA G i) := rfl
    unfold mass tot at *
    generalize mgI dl l G i = M at *
    obtain ⟨m, K, p, g⟩ := M
    simp only at a1 a2 a3 a4 a5 a6 a7 a8
    by_cases c : (gA G i).1 = l ∧ m < 4
    · obtain ⟨c1, c2⟩ := c
      rw [if_pos c1] at hlv
      by_cases m0 : m = 0
      · subst m0
        have e : mgI dl l G (i + 1) = (1, K ++ [gA G i], K.length, g ++ liv dl (gA G i).2) := by
          rw [e]
          unfold mgStep
          simp only
          rw [if_pos ⟨c1, by omega⟩]
          simp
        rw [e]
        obtain ⟨b1, b2⟩ := a3 rfl
        subst b2
        simp only [List.length_append, List.length_singleton, sm_app, sm_one, List.nil_append]
        refine ⟨by omega, by simp at a2 ⊢; omega, fun q => absurd q (by omega), fun _ => ⟨by omega, ?_⟩, fun s hs => ?_, fun d hd => ?_, ?_, ?_⟩
        · rw [gA_app, if_neg (by omega), if_pos rfl]
          exact c1
        · rcases List.mem_append.mp hs with q | q
          · exact a5 s q
          · rw [List.mem_singleton.mp q]
            exact hmem
        · exact ⟨_, hmem, (List.mem_filter.mp hd).1⟩
        · simp at a7 ⊢
          rw [hm, c1]
          omega
        · rw [gA_app, if_neg (by omega), if_pos rfl, ht]
          simp at a8 ⊢
          omega
      · have e : mgI dl l G (i + 1) = (m + 1, K, p, g ++ liv dl (gA G i).2) := by
          rw [e]
          unfold mgStep
          simp only
          rw [if_pos ⟨c1, c2⟩, if_neg m0, if_neg m0]
        rw [e]
        obtain ⟨b1, b2⟩ := a4 m0
        rw [if_neg m0] at a2 a7 a8
        simp only [List.length_append]
        rw [if_neg (by omega), if_neg (by omega), if_neg (by omega)]
        refine ⟨by omega, by omega, fun q => absurd q (by omega), fun _ => ⟨b1, b2⟩, a5, fun d hd => ?_, ?_, by omega⟩
        · rcases List.mem_append.mp hd with q | q
          · exact a6 d q
          · exact ⟨_, hmem, (List.mem_filter.mp q).1⟩
        · rw [hm, c1, Nat.succ_mul]
          omega
    · have e : mgI dl l G (i + 1) = (m, K ++ [gA G i], p, g) := by
        rw [e]
        unfold mgStep
        simp only
        rw [if_neg c]
      rw [e]
      simp only [List.length_append, List.length_singleton, sm_app, sm_one]
      refine ⟨?_, by omega, fun q => ⟨fun k hk => ?_, (a3 q).2⟩, fun q => ⟨by have := (a4 q).1; omega, ?_⟩, fun s hs => ?_, a6, ?_, ?_⟩
      · by_cases q : (gA G i).1 = l
        · have : ¬ m < 4 := fun z => c ⟨q, z⟩
          rw [if_pos q] at hlv
          omega
        · rw [if_neg q] at hlv
          omega
      · have hK : K.length = i := by rw [if_pos q] at a2; omega
        rw [gA_app]
        by_cases z : k < i
        · rw [if_pos (by omega)]
          exact (a3 q).1 k z
        · rw [if_neg (by omega), if_pos (by omega), show k = i by omega]
      · rw [gA_app, if_pos (a4 q).1]
        exact (a4 q).2
      · rcases List.mem_append.mp hs with q | q
        · exact a5 s q
        · rw [List.mem_singleton.mp q]
          exact hmem
      · rw [hm]; omega
      · rw [ht]
        by_cases q : m = 0
        · rw [if_pos q] at a8 ⊢; omega
        · rw [if_neg q] at a8 ⊢
          rw [gA_app, if_pos (a4 q).1]
          omega
theorem mgS_ok (dl : Nat → Bool) {l : Nat} {G : List SegT} (h : 4 ≤ lvc G l G.length) : (mgS dl l G).length + 3 ≤ G.length ∧ (∀ s, s ∈ mgS dl l G → ∀ d, d ∈ s.2 → ∃ s', s' ∈ G ∧ d ∈ s'.2) ∧ mass (mgS dl l G) ≤ mass G ∧ tot (mgS dl l G) ≤ tot G := by
  obtain ⟨a1, a2, a3, a4, a5, a6, a7, a8⟩ := mgI_ok dl l G G.length (Nat.le_refl _)
  rw [List.take_length] at a7 a8
  unfold mgS
  unfold mass tot at *
  generalize mgI dl l G G.length = M at *
  obtain ⟨m, K, p, g⟩ := M
  simp only at a1 a2 a3 a4 a5 a6 a7 a8 ⊢
  have m4 : m = 4 := by omega
  subst m4
  obtain ⟨b1, b2⟩ := a4 (by omega)
  rw [if_neg (by omega)] at a2 a7 a8
  by_cases c : g = []
  · rw [if_pos c]
    have h1 := sm_erase (fun s => 4 ^ s.1) K p b1
    have h2 := sm_erase (fun s => s.2.length) K p b1
    rw [b2] at h1
    refine ⟨?_, fun s hs d hd => ⟨s, a5 s (List.mem_of_mem_eraseIdx hs), hd⟩, ?_, ?_⟩
    · rw [List.length_eraseIdx, if_pos b1]
      omega
    · omega
    · omega
  · rw [if_neg c]
    have h1 := sm_set (fun s => 4 ^ s.1) (l + 1, g) K p b1
    have h2 := sm_set (fun s => s.2.length) (l + 1, g) K p b1
    rw [b2] at h1
    simp only [Nat.pow_succ] at h1
    simp only at h2
    refine ⟨?_, fun s hs d hd => ?_, by omega, by omega⟩
    · rw [List.length_set]
      omega
    · rcases List.mem_or_eq_of_mem_set hs with q | q
      · exact ⟨s, a5 s q, hd⟩
      · rw [q] at hd
        exact a6 d hd
theorem four_le (G : List SegT) : four G ≤ 6 := by
  have := run_ge (fun l => decide (lvc G l G.length < 4)) 6 0
  unfold four
  omega
theorem four_at {G : List SegT} (h : four G < 6) : 4 ≤ lvc G (four G) G.length := by
  have := run_out (fun l => decide (lvc G l G.length < 4)) 6 0 (by unfold four at h; omega)
  have := of_decide_eq_false this
  unfold four
  omega
theorem four_in {G : List SegT} {l : Nat} (h : l < four G) : lvc G l G.length < 4 := of_decide_eq_true (run_in (fun l => decide (lvc G l G.length < 4)) 6 0 l (by omega) h)
theorem mgL_ok (dl : Nat → Bool) : ∀ f (G : List SegT) mg, (∀ s, s ∈ (mgL dl f G mg).1 → ∀ d, d ∈ s.2 → ∃ s', s' ∈ G ∧ d ∈ s'.2) ∧ mass (mgL dl f G mg).1 ≤ mass G ∧ tot (mgL dl f G mg).1 ≤ tot G ∧ 3 * (mgL dl f G mg).2 + (mgL dl f G mg).1.length ≤ 3 * mg + G.length ∧ mg ≤ (mgL dl f G mg).2 ∧ (G.length < 3 * f + 4 → four (mgL dl f G mg).1 = 6)
  | 0, G, mg => by
    refine ⟨fun s hs d hd => ⟨s, hs, hd⟩, Nat.le_refl _, Nat.le_refl _, Nat.le_refl _, Nat.le_refl _, fun h => ?_⟩
    have h1 := four_le G
    by_cases c : four G < 6
    · have h2 := four_at c
      have h3 := cN_le (fun k => decide ((gA G k).1 = four G)) G.length
      unfold lvc at h2
      omega
    · show four G = 6
      omega
  | f + 1, G, mg => by
    have h1 := four_le G
    rw [mgL]
    by_cases c : four G < 6
    · rw [if_pos c]
      obtain ⟨a1, a2, a3, a4⟩ := mgS_ok dl (four_at c)
      obtain ⟨b1, b2, b3, b4, b5, b6⟩ := mgL_ok dl f (mgS dl (four G) G) (mg + 1)
      refine ⟨fun s hs d hd => ?_, by omega, by omega, by omega, by omega, fun h => b6 (by omega)⟩
      obtain ⟨s', h3, h4⟩ := b1 s hs d hd
      exact a2 s' h3 d h4
    · rw [if_neg c]
      exact ⟨fun s hs d hd => ⟨s, hs, hd⟩, Nat.le_refl _, Nat.le_refl _, Nat.le_refl _, Nat.le_refl _, fun _ => by show four G = 6; omega⟩
theorem sm_mem (f : SegT → Nat) : ∀ (G : List SegT) (s : SegT), s ∈ G → f s ≤ sm f G
  | [], s, h => by cases h
  | x :: G, s, h => by
    rcases List.mem_cons.mp h with rfl | h
    · simp [sm]
    · have := sm_mem f G s h
      simp [sm] at this ⊢
      omega
theorem lv_le {G : List SegT} (h : mass G ≤ 64) {s : SegT} (hs : s ∈ G) : s.1 ≤ 3 := by
  have h1 := sm_mem (fun s => 4 ^ s.1) G s hs
  apply Nat.le_of_not_lt
  intro q
  have h2 : 4 ^ 4 ≤ 4 ^ s.1 := Nat.pow_le_pow_right (by decide) (by omega)
  unfold mass at h
  have h3 : (4 : Nat) ^ 4 = 256 := by decide
  have h1 : 4 ^ s.1 ≤ sm (fun s => 4 ^ s.1) G := h1
  omega
theorem rest_len {G : List SegT} (h : mass G ≤ 64) (h4 : four G = 6) : G.length ≤ 12 := by
  have h1 : sN (fun l => lvc G l G.length) 4 = sN (fun k => sN (fun l => if decide ((gA G k).1 = l) = true then 1 else 0) 4) G.length := sN_comm (fun l k => if decide ((gA G k).1 = l) = true then 1 else 0) G.length 4
  have h2 : sN (fun k => sN (fun l => if decide ((gA G k).1 = l) = true then 1 else 0) 4) G.length = sN (fun _ => 1) G.length := sN_congr _ (fun k hk => by
    have := lv_le h (gA_mem hk)
    generalize (gA G k).1 = v at *
    have : v = 0 ∨ v = 1 ∨ v = 2 ∨ v = 3 := by omega
    rcases this with rfl | rfl | rfl | rfl <;> rfl)
  rw [h2, sN_const, Nat.mul_one] at h1
  have b : ∀ l, l < 6 → lvc G l G.length < 4 := fun l hl => four_in (by omega)
  have b0 := b 0 (by omega)
  have b1 := b 1 (by omega)
  have b2 := b 2 (by omega)
  have b3 := b 3 (by omega)
  simp only [sN] at h1
  omega
