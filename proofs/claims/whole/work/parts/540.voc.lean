/-! VOCABULARIES: made of a row of longs -/
theorem cN_mono {p : Nat → Bool} : ∀ {m n : Nat}, m ≤ n → cN p m ≤ cN p n
  | m, 0, h => by rw [show m = 0 by omega]; exact Nat.le_refl _
  | m, n + 1, h => by
    by_cases e : m = n + 1
    · rw [e]; exact Nat.le_refl _
    · have := cN_mono (p := p) (m := m) (n := n) (by omega)
      rw [cN_s]
      omega
theorem cN_pos {p : Nat → Bool} : ∀ {n : Nat}, 0 < cN p n ↔ ∃ k, k < n ∧ p k = true
  | 0 => ⟨fun h => absurd h (by simp [cN, sN]), fun ⟨k, h, _⟩ => absurd h (by omega)⟩
  | n + 1 => by
    rw [cN_s]
    constructor
    · intro h
      by_cases e : p n = true
      · exact ⟨n, by omega, e⟩
      · rw [if_neg e] at h
        obtain ⟨k, h1, h2⟩ := cN_pos.mp h
        exact ⟨k, by omega, h2⟩
    · rintro ⟨k, h1, h2⟩
      by_cases e : k = n
      · subst e; rw [if_pos h2]; omega
      · have := (cN_pos (p := p) (n := n)).mpr ⟨k, by omega, h2⟩
        omega
theorem prm.cN {α : Type} {n : Nat} {w u : Nat → α} (h : prm n w u) (p : α → Bool) : cN (fun k => p (w k)) n = cN (fun k => p (u k)) n := h (fun y => if p y = true then 1 else 0)
theorem sN_zero {c : Nat → Nat} : ∀ {n : Nat}, sN c n = 0 ↔ ∀ k, k < n → c k = 0
  | 0 => ⟨fun _ k h => absurd h (by omega), fun _ => rfl⟩
  | n + 1 => by
    rw [sN]
    constructor
    · intro h k hk
      by_cases e : k = n
      · subst e; omega
      · exact (sN_zero (c := c) (n := n)).mp (by omega) k (by omega)
    · intro h
      rw [(sN_zero (c := c) (n := n)).mpr (fun k hk => h k (by omega)), h n (by omega)]
theorem prm.all {α : Type} {n : Nat} {w u : Nat → α} (h : prm n w u) (P : α → Prop) (hu : ∀ k, k < n → P (u k)) : ∀ k, k < n → P (w k) := fun k hk => by
  have e := h (fun y => @ite Nat (P y) (Classical.propDecidable _) 0 1)
  have z := sN_zero.mpr (fun k hk => if_pos (hu k hk) : ∀ k, k < n → (fun k => @ite Nat (P (u k)) (Classical.propDecidable _) 0 1) k = 0)
  rw [z] at e
  have q := sN_zero.mp e k hk
  apply Classical.byContradiction
  intro y
  rw [if_neg y] at q
  cases q
/-- where a term stands first in a sorted row -/
def fp (u : Nat → Nat) (i : Nat) : Bool := decide (u i ≠ 0 ∧ (i = 0 ∨ u (i - 1) ≠ u i))
def El (u : Nat → Nat) : Nat → List Nat
  | 0 => []
  | i + 1 => if fp u i = true then El u i ++ [u i] else El u i
theorem El_len (u : Nat → Nat) : ∀ i, (El u i).length = cN (fp u) i
  | 0 => rfl
  | i + 1 => by
    rw [El, cN_s]
    by_cases h : fp u i = true
    · rw [if_pos h, if_pos h, List.length_append, El_len u i]; rfl
    · rw [if_neg h, if_neg h, El_len u i]; rfl
theorem El_mem {u : Nat → Nat} {n : Nat} (hs : srt u n) : ∀ i, i ≤ n → ∀ t, (t ∈ El u i ↔ t ≠ 0 ∧ ∃ k, k < i ∧ u k = t)
  | 0, _, t => by
    constructor
    · intro h
      cases h
    · rintro ⟨_, k, h, _⟩
      omega
  | i + 1, hi, t => by
    have ih := El_mem hs i (by omega) t
    rw [El]
    by_cases h : fp u i = true
    · have h' := of_decide_eq_true h
      rw [if_pos h, List.mem_append, ih, List.mem_singleton]
      constructor
      · rintro (⟨a, k, b, c⟩ | e)
        · exact ⟨a, k, by omega, c⟩
        · exact ⟨by rw [e]; exact h'.1, i, by omega, e.symm⟩
      · rintro ⟨a, k, b, c⟩
        by_cases e : k = i
        · subst e; exact Or.inr c.symm
        · exact Or.inl ⟨a, k, by omega, c⟩
    · rw [if_neg h, ih]
      constructor
      · rintro ⟨a, k, b, c⟩
        exact ⟨a, k, by omega, c⟩
      · rintro ⟨a, k, b, c⟩
        by_cases e : k = i
        · subst e
          have h' := of_decide_eq_false (Bool.eq_false_iff.mpr h)
          have h0 : k ≠ 0 ∧ u (k - 1) = u k := by
            refine ⟨fun z => h' ⟨by rw [c]; exact a, Or.inl z⟩, ?_⟩
            apply Classical.byContradiction
            intro z
            exact h' ⟨by rw [c]; exact a, Or.inr z⟩
          exact ⟨a, k - 1, by omega, by rw [h0.2]; exact c⟩
        · exact ⟨a, k, by omega, c⟩
theorem getD_app {α : Type} {l : List α} {a d : α} {k : Nat} : (l ++ [a]).getD k d = if k < l.length then l.getD k d else if k = l.length then a else d := by
  rw [List.getD_eq_getElem?_getD, List.getD_eq_getElem?_getD, List.getElem?_append]
  by_cases h : k < l.length
  · rw [if_pos h, if_pos h]
  · rw [if_neg h, if_neg h]
    by_cases e : k = l.length
    · subst e; simp
    · rw [if_neg e, List.getElem?_eq_none (by simp; omega)]
      rfl
theorem getD_mem {α : Type} {l : List α} {d : α} {k : Nat} (h : k < l.length) : l.getD k d ∈ l := by
  rw [List.getD_eq_getElem?_getD, List.getElem?_eq_getElem h]
  exact List.getElem_mem h
theorem El_srt {u : Nat → Nat} {n : Nat} (hs : srt u n) : ∀ i, i ≤ n → ∀ a b, a < b → b < (El u i).length → (El u i).getD a 0 < (El u i).getD b 0
  | 0, _, a, b, _, h => absurd h (by simp [El])
  | i + 1, hi, a, b, hab, hb => by
    have ih := El_srt hs i (by omega)
    rw [El] at hb ⊢
    by_cases h : fp u i = true
    · have h' := of_decide_eq_true h
      rw [if_pos h] at hb ⊢
      rw [List.length_append, List.length_singleton] at hb
      rw [getD_app, getD_app, if_pos (by omega)]
      by_cases e : b < (El u i).length
      · rw [if_pos e]; exact ih a b hab e
      · rw [if_neg e, if_pos (by omega)]
        have hm := (El_mem hs i (by omega) _).mp (getD_mem (d := 0) (show a < (El u i).length by omega))
        obtain ⟨h0, k, hk, hke⟩ := hm
        have hi0 : i ≠ 0 := by omega
        have h3 : u (i - 1) ≠ u i := by
          rcases h'.2 with z | z
          · exact absurd z hi0
          · exact z
        have h4 := hs (i - 1) i (by omega) (by omega)
        have h5 : u k ≤ u (i - 1) := by
          by_cases q : k = i - 1
          · rw [q]; exact Nat.le_refl _
          · exact hs k (i - 1) (by omega) (by omega)
        rw [← hke]
        omega
    · rw [if_neg h] at hb ⊢
      exact ih a b hab hb
theorem El_last {u : Nat → Nat} {n : Nat} (hs : srt u n) : ∀ i, i < n → u i ≠ 0 → 0 < (El u (i + 1)).length ∧ (El u (i + 1)).getD ((El u (i + 1)).length - 1) 0 = u i
  | i, hi, h0 => by
    rw [El]
    by_cases h : fp u i = true
    · rw [if_pos h, List.length_append, List.length_singleton]
      refine ⟨by omega, ?_⟩
      rw [getD_app, if_neg (by omega), if_pos (by omega)]
    · rw [if_neg h]
      have h' := of_decide_eq_false (Bool.eq_false_iff.mpr h)
      have hi0 : i ≠ 0 := fun z => h' ⟨h0, Or.inl z⟩
      have h1 : u (i - 1) = u i := by
        apply Classical.byContradiction
        intro z
        exact h' ⟨h0, Or.inr z⟩
      have := El_last hs (i - 1) (by omega) (by rw [h1]; exact h0)
      rw [show i - 1 + 1 = i by omega, h1] at this
      exact this
  termination_by i => i
theorem El_zero {u : Nat → Nat} {n : Nat} (hs : srt u n) {i : Nat} (hi : i < n) (h : u i = 0) : El u (i + 1) = [] := by
  apply List.eq_nil_iff_forall_not_mem.mpr
  intro t ht
  obtain ⟨h0, k, hk, hke⟩ := (El_mem hs (i + 1) (by omega) t).mp ht
  have : u k ≤ u i := by
    by_cases e : k = i
    · rw [e]; exact Nat.le_refl _
    · exact hs k i (by omega) hi
  omega
def lastI (m : Nat) : Int32 := if m = 0 then -1 else nI (m - 1)
theorem lastI_1 {m : Nat} (h : m < 1000000) : lastI m + 1 = nI m := by
  unfold lastI
  split
  · next e => subst e; decide
  · next e =>
    simp only [nl, nI_add]
    rw [show m - 1 + 1 = m by omega]
theorem Vo_isFirst_ok {σ : Mem} {x n : Nat} {u : Nat → Nat} (hx : gT σ x = (101, n)) (hn : n < 1000000) (hw : hL σ x n u) (hb : ∀ k, k < n → u k < 9223372036854775808) {i : Nat} (hi : i < n) : Vo_isFirst σ (some x) (nI i) = some (fp u i) := by
  have t1 : (gT σ x).1 = 100 + 1 := by rw [hx]
  have t2 : (gT σ x).2 = n := by rw [hx]
  have h1 := hw i hi
  have b1 := hb i hi
  unfold Vo_isFirst fp
  simp (disch := first | assumption | omega | (simp only [gT_sI, gT_sL, gT_sR, gT_sB]; first | assumption | omega)) only [Option.bind_some, ldI_ok, ldL_ok, ldR_ok, ldB_ok, stI_ok, stL_ok, stR_ok, stB_ok, chk_ok, raI_k, raL_k, raR_k, raB_k, waI_k, waL_k, waB_k, waR_k, alen_k, gT_sI, gT_sL, gT_sR, gT_sB, gN_sI, gN_sL, gN_sR, gN_sB, gI_sL, gI_sR, gI_sB, gL_sI, gL_sR, gL_sB, gR_sI, gR_sL, gR_sB, gB_sI, gB_sL, gB_sR, gI_sIs, gL_sLs, gR_sRs, gB_sBs, gI_sIn, gL_sLn, gR_sRn, gB_sBn, rdI_ok, rdL_ok, rdB_ok, wrI_ok, wrL_ok, wrB_ok, nl, nI_add, nI_mul, iSub, iEq, iLe, iLt, iEqN, iNEq, iNN, iLtN, iNLt, iLeN, iNLe, iAddN, iNAdd, iMin, iMax, iDiv, iRem, t2, h1]
  rw [if_neg (by omega), if_neg (by omega)]
  simp (disch := omega) only [ll, lEq]
  by_cases c0 : u i = 0
  · simp only [c0, if_true, if_false, not_true_eq_false, not_false_eq_true, true_and, and_true, false_and, and_false, true_or, or_true, false_or, or_false, decide_true, decide_false, Bool.false_eq_true, reduceCtorEq, Option.bind_some, Option.map_some, Option.map_none, Option.bind_none, jn_l, jn_r, jn_n, se_l, se_r]
    simp
  · simp only [c0, if_true, if_false, not_true_eq_false, not_false_eq_true, true_and, and_true, false_and, and_false, true_or, or_true, false_or, or_false, decide_true, decide_false, Bool.false_eq_true, reduceCtorEq, Option.bind_some, Option.map_some, Option.map_none, Option.bind_none, jn_l, jn_r, jn_n, se_l, se_r]
    by_cases c1 : i = 0
    · simp only [c1, if_true, if_false, not_true_eq_false, not_false_eq_true, true_and, and_true, false_and, and_false, true_or, or_true, false_or, or_false, decide_true, decide_false, Bool.false_eq_true, reduceCtorEq, Option.bind_some, Option.map_some, Option.map_none, Option.bind_none, jn_l, jn_r, jn_n, se_l, se_r]
      simp [c1] at c0
      simp [c0]
    · have h2 := hw (i - 1) (by omega)
      have b2 := hb (i - 1) (by omega)
      simp only [c1, if_true, if_false, not_true_eq_false, not_false_eq_true, true_and, and_true, false_and, and_false, true_or, or_true, false_or, or_false, decide_true, decide_false, Bool.false_eq_true, reduceCtorEq, Option.bind_some, Option.map_some, Option.map_none, Option.bind_none, jn_l, jn_r, jn_n, se_l, se_r]
      simp (disch := first | assumption | omega | (simp only [gT_sI, gT_sL, gT_sR, gT_sB]; first | assumption | omega)) only [Option.bind_some, ldI_ok, ldL_ok, ldR_ok, ldB_ok, stI_ok, stL_ok, stR_ok, stB_ok, chk_ok, raI_k, raL_k, raR_k, raB_k, waI_k, waL_k, waB_k, waR_k, alen_k, gT_sI, gT_sL, gT_sR, gT_sB, gN_sI, gN_sL, gN_sR, gN_sB, gI_sL, gI_sR, gI_sB, gL_sI, gL_sR, gL_sB, gR_sI, gR_sL, gR_sB, gB_sI, gB_sL, gB_sR, gI_sIs, gL_sLs, gR_sRs, gB_sBs, gI_sIn, gL_sLn, gR_sRn, gB_sBn, rdI_ok, rdL_ok, rdB_ok, wrI_ok, wrL_ok, wrB_ok, h2]
      simp (disch := omega) only [lEq]
      by_cases c2 : u (i - 1) = u i
      · simp [c2]
      · simp [c2, c0]
def wVo (th x : Nat) : Nat → Nat → Nat → Prop := fun t a k => (t = 1 ∧ a = x) ∨ (t = 2 ∧ a = th ∧ (k = 0 ∨ k = 1))
theorem Vo_init_ok {lo : Nat} {σ : Mem} {th x n : Nat} {w : Nat → Nat} (hlo : lo ≤ gN σ) (hth : hp lo σ th 10 0) (hx : hp lo σ x 101 n) (hn : n < 1000000) (hw : hL σ x n w) (hb : ∀ k, k < n → w k < 6582952005840035281) : ∃ σ', Vo_init σ th (some x) = some σ' ∧ Kp (wVo th x) σ σ' ∧ gN σ' = gN σ + 2 ∧ gU σ' ≤ gU σ + 2 * n ∧ isVoc lo σ' th (fun t => cN (fun k => decide (w k = t)) n) := by
  obtain ⟨σ1, u, e1, k1, n1, u1, hu, pu, su⟩ := Vo_sort_ok hx.2.2 hx.2.1 hn hw (fun k hk => by have := hb k hk; omega)
  have hbu : ∀ k, k < n → u k < 6582952005840035281 := pu.all (fun y => y < 6582952005840035281) hb
  have hx1 : gT σ1 x = (101, n) := by rw [k1.T hx.2.1]; exact hx.2.2
  have tx1 : (gT σ1 x).1 = 100 + 1 := by rw [hx1]
  have tx2 : (gT σ1 x).2 = n := by rw [hx1]
  have hthx : th ≠ x := fun z => by
    have := hth.2.2
    rw [z, hx.2.2] at this
    cases this
  have tth1 : (gT σ1 th).1 = 10 := by rw [k1.T hth.2.1, hth.2.2]
  have hmx := cN_le (fp u) n
  have hcnt : lp (fun q : Int32 × Int32 => Vo_init_l12 σ1 th (some x) q.1 q.2) (nI 0, nI 0) = some (nI (cN (fp u) n)) := by
    refine lp_sum (c := fun i => if fp u i = true then 1 else 0) n 0 (fun i hi => ?_) ?_
    · rw [Nat.zero_add]
      unfold Vo_init_l12
      simp (disch := first | assumption | omega | (simp only [gT_sI, gT_sL, gT_sR, gT_sB]; first | assumption | omega)) only [Option.bind_some, ldI_ok, ldL_ok, ldR_ok, ldB_ok, stI_ok, stL_ok, stR_ok, stB_ok, chk_ok, raI_k, raL_k, raR_k, raB_k, waI_k, waL_k, waB_k, waR_k, alen_k, gT_sI, gT_sL, gT_sR, gT_sB, gN_sI, gN_sL, gN_sR, gN_sB, gI_sL, gI_sR, gI_sB, gL_sI, gL_sR, gL_sB, gR_sI, gR_sL, gR_sB, gB_sI, gB_sL, gB_sR, gI_sIs, gL_sLs, gR_sRs, gB_sBs, gI_sIn, gL_sLn, gR_sRn, gB_sBn, rdI_ok, rdL_ok, rdB_ok, wrI_ok, wrL_ok, wrB_ok, nl, nI_add, nI_mul, iSub, iEq, iLe, iLt, iEqN, iNEq, iNN, iLtN, iNLt, iLeN, iNLe, iAddN, iNAdd, iMin, iMax, iDiv, iRem, tx2]
      rw [if_neg (by omega), Vo_isFirst_ok hx1 hn hu (fun k hk => by have := hbu k hk; omega) hi]
      cases fp u i <;> simp only [if_true, if_false, not_true_eq_false, not_false_eq_true, true_and, and_true, false_and, and_false, true_or, or_true, false_or, or_false, decide_true, decide_false, Bool.false_eq_true, reduceCtorEq, Option.bind_some, Option.map_some, Option.map_none, Option.bind_none, jn_l, jn_r, jn_n, se_l, se_r, nl, nI_add, Nat.add_zero]
    · rw [Nat.zero_add]
      unfold Vo_init_l12
      simp (disch := first | assumption | omega | (simp only [gT_sI, gT_sL, gT_sR, gT_sB]; first | assumption | omega)) only [Option.bind_some, ldI_ok, ldL_ok, ldR_ok, ldB_ok, stI_ok, stL_ok, stR_ok, stB_ok, chk_ok, raI_k, raL_k, raR_k, raB_k, waI_k, waL_k, waB_k, waR_k, alen_k, gT_sI, gT_sL, gT_sR, gT_sB, gN_sI, gN_sL, gN_sR, gN_sB, gI_sL, gI_sR, gI_sB, gL_sI, gL_sR, gL_sB, gR_sI, gR_sL, gR_sB, gB_sI, gB_sL, gB_sR, gI_sIs, gL_sLs, gR_sRs, gB_sBs, gI_sIn, gL_sLn, gR_sRn, gB_sBn, rdI_ok, rdL_ok, rdB_ok, wrI_ok, wrL_ok, wrB_ok, nl, nI_add, nI_mul, iSub, iEq, iLe, iLt, iEqN, iNEq, iNN, iLtN, iNLt, iLeN, iNLe, iAddN, iNAdd, iMin, iMax, iDiv, iRem, tx2]
      rw [if_pos (by omega)]
      rfl
  unfold Vo_init
  rw [e1]
  simp only [Option.bind_some]
  rw [show (0 : Int32) = nI 0 from rfl, hcnt]
  simp only [Option.bind_some]
  have hN1 := hth.2.1
  have hN2 := hx.2.1
  generalize hm : cN (fp u) n = m at *
  rw [nwA_ok (by omega)]
  simp only [Option.bind_some]
  rw [stR_ok (by rw [gT_nw, if_neg (by omega)]; exact tth1)]
  simp only [Option.bind_some]
  rw [nwA_ok (by omega)]
  simp only [Option.bind_some]
  rw [stR_ok (by rw [gT_nw, gT_sR, gN_sR, gN_nw, if_neg (by omega), gT_nw, if_neg (by omega)]; exact tth1)]
  simp only [Option.bind_some, gN_sR, gN_nw]
  generalize hσ3 : sR (nw (sR (nw σ1 (100 + 1, m) m) th 0 (some (gN σ1))) (100 + 0, m) m) th 1 (some (gN σ1 + 1)) = σ3
  have n3 : gN σ3 = gN σ + 2 := by rw [← hσ3, gN_sR, gN_nw, gN_sR, gN_nw]; omega
  have u3 : gU σ3 = gU σ + m + m := by rw [← hσ3, gU_sR, gU_nw, gU_sR, gU_nw]; omega
  have k3 : Kp (wVo th x) σ σ3 := by
    rw [← hσ3]
    refine Kp.tr (W := wVo th x) ?_ (Kp.sR (W := wVo th x) (Or.inr ⟨rfl, rfl, Or.inr rfl⟩)) (fun _ _ _ _ z => z)
    refine Kp.tr (W := wVo th x) ?_ (Kp.nw (W := wVo th x)) (fun _ _ _ _ z => z)
    refine Kp.tr (W := wVo th x) ?_ (Kp.sR (W := wVo th x) (Or.inr ⟨rfl, rfl, Or.inl rfl⟩)) (fun _ _ _ _ z => z)
    exact Kp.tr (W := wVo th x) (k1.mono (fun t a k _ q => Or.inl q)) (Kp.nw (W := wVo th x)) (fun _ _ _ _ z => z)
  have q3 : gT σ3 (gN σ1) = (101, m) := by
    rw [← hσ3, gT_sR, gT_nw, gN_sR, gN_nw, if_neg (by omega), gT_sR, gT_nw, if_pos rfl]
  have r3 : gT σ3 (gN σ1 + 1) = (100, m) := by
    rw [← hσ3, gT_sR, gT_nw, gN_sR, gN_nw, if_pos rfl]
  have a3 : gR σ3 th 0 = some (gN σ1) := by
    rw [← hσ3, gR_sRn (by omega), gR_nw, gN_sR, gN_nw, if_neg (by omega), gR_sRs]
  have b3 : gR σ3 th 1 = some (gN σ1 + 1) := by
    rw [← hσ3, gR_sRs]
  have z3 : ∀ k, gI σ3 (gN σ1 + 1) k = 0 := fun k => by
    rw [← hσ3, gI_sR, gI_nw, gN_sR, gN_nw, if_pos rfl]
  have x3 : hL σ3 x n u := fun k hk => by
    rw [← hσ3, gL_sR, gL_nw, gN_sR, gN_nw, if_neg (by omega), gL_sR, gL_nw, if_neg (by omega)]
    exact hu k hk
  clear hσ3
  have hlenE : (El u n).length = m := by rw [El_len]; exact hm
  obtain ⟨z, hz, f1, f2, f3, f4⟩ : ∃ z, lp (fun q : Int32 × Int32 × Mem => Vo_init_l54 q.2.2 th (some x) (nI m) q.1 q.2.1) (-1, nI 0, σ3) = some z ∧ (Kp (fun t a _ => (t = 1 ∧ a = gN σ1) ∨ (t = 0 ∧ a = gN σ1 + 1)) σ3 z ∧ gN z = gN σ3 ∧ gU z = gU σ3 ∧ ∀ k, k < m → gL z (gN σ1) k = lN ((El u n).getD k 0) ∧ gI z (gN σ1 + 1) k = nI (cN (fun i => decide (u i = (El u n).getD k 0)) n)) := by
    have hlp := lp_for (f := fun q : Int32 × Int32 × Mem => Vo_init_l54 q.2.2 th (some x) (nI m) q.1 q.2.1) (fun i (Y : Mem) => (lastI (cN (fp u) i), nI i, Y)) n (fun i Y => Kp (fun t a _ => (t = 1 ∧ a = gN σ1) ∨ (t = 0 ∧ a = gN σ1 + 1)) σ3 Y ∧ gN Y = gN σ3 ∧ gU Y = gU σ3 ∧ (∀ k, k < cN (fp u) i → gL Y (gN σ1) k = lN ((El u i).getD k 0) ∧ gI Y (gN σ1 + 1) k = nI (cN (fun j => decide (u j = (El u i).getD k 0)) i)) ∧ ∀ k, cN (fp u) i ≤ k → gI Y (gN σ1 + 1) k = 0) (fun z => Kp (fun t a _ => (t = 1 ∧ a = gN σ1) ∨ (t = 0 ∧ a = gN σ1 + 1)) σ3 z ∧ gN z = gN σ3 ∧ gU z = gU σ3 ∧ ∀ k, k < m → gL z (gN σ1) k = lN ((El u n).getD k 0) ∧ gI z (gN σ1 + 1) k = nI (cN (fun i => decide (u i = (El u n).getD k 0)) n)) ?_ ?_ n 0 σ3 (by omega) ⟨Kp.rf, rfl, rfl, fun k hk => absurd hk (by simp [cN, sN]), fun k _ => z3 k⟩
    · exact hlp
    · rintro i Y hi ⟨y1, y2, y3, y4, y5⟩
      left
      have tY : gT Y x = (101, n) := by rw [y1.T (by omega), k3.T hx.2.1]; exact hx.2.2
      have tY1 : (gT Y x).1 = 100 + 1 := by rw [tY]
      have tY2 : (gT Y x).2 = n := by rw [tY]
      have tth : (gT Y th).1 = 10 := by rw [y1.T (by omega), k3.T hth.2.1, hth.2.2]
      have tq1 : (gT Y (gN σ1)).1 = 100 + 1 := by rw [y1.T (by omega), q3]
      have tq2 : (gT Y (gN σ1)).2 = m := by rw [y1.T (by omega), q3]
      have tr1 : (gT Y (gN σ1 + 1)).1 = 100 + 0 := by rw [y1.T (by omega), r3]
      have tr2 : (gT Y (gN σ1 + 1)).2 = m := by rw [y1.T (by omega), r3]
      have rY0 : gR Y th 0 = some (gN σ1) := by rw [y1.R (by omega) (by omega)]; exact a3
      have rY1 : gR Y th 1 = some (gN σ1 + 1) := by rw [y1.R (by omega) (by omega)]; exact b3
      have xY : hL Y x n u := fun k hk => by rw [y1.L (by omega) (by omega)]; exact x3 k hk
      have hui := xY i hi
      have hci : cN (fp u) (i + 1) ≤ m := by rw [← hm]; exact cN_mono (by omega)
      have hcs := cN_s (fp u) i
      have hle := El_len u i
      have hle1 := El_len u (i + 1)
      have hcil := cN_le (fp u) i
      unfold Vo_init_l54
      rw [alen_k tY1, tY2]
      simp only [Option.bind_some, iLe (show n < 2147483648 by omega) (show i < 2147483648 by omega)]
      rw [if_neg (by omega), Vo_isFirst_ok tY hn xY (fun k hk => by have := hbu k hk; omega) hi]
      simp only [Option.bind_some]
      have key : ∃ Y1, (if fp u i = true then (if nI m ≤ lastI (cN (fp u) i) + 1 then some (lastI (cN (fp u) i), Y) else (ldR Y 10 0 (some th)).bind fun v19 => (raL Y 1 (some x) (nI i)).bind fun v20 => (waL Y 1 v19 (lastI (cN (fp u) i) + 1) v20).bind fun m21 => some (lastI (cN (fp u) i) + 1, m21)) else some (lastI (cN (fp u) i), Y)) = some (lastI (cN (fp u) (i + 1)), Y1) ∧ Kp (fun t a _ => (t = 1 ∧ a = gN σ1) ∨ (t = 0 ∧ a = gN σ1 + 1)) σ3 Y1 ∧ gN Y1 = gN σ3 ∧ gU Y1 = gU σ3 ∧ (∀ k, gI Y1 (gN σ1 + 1) k = gI Y (gN σ1 + 1) k) ∧ ∀ k, k < cN (fp u) (i + 1) → gL Y1 (gN σ1) k = lN ((El u (i + 1)).getD k 0) := by
        by_cases c : fp u i = true
        · rw [if_pos c] at hcs
          rw [if_pos c, lastI_1 (by omega)]
          simp only [iLe (show m < 2147483648 by omega) (show cN (fp u) i < 2147483648 by omega)]
          rw [if_neg (by omega)]
          simp (disch := first | assumption | omega | (simp only [gT_sI, gT_sL, gT_sR, gT_sB]; first | assumption | omega)) only [Option.bind_some, ldI_ok, ldL_ok, ldR_ok, ldB_ok, stI_ok, stL_ok, stR_ok, stB_ok, chk_ok, raI_k, raL_k, raR_k, raB_k, waI_k, waL_k, waB_k, waR_k, alen_k, gT_sI, gT_sL, gT_sR, gT_sB, gN_sI, gN_sL, gN_sR, gN_sB, gI_sL, gI_sR, gI_sB, gL_sI, gL_sR, gL_sB, gR_sI, gR_sL, gR_sB, gB_sI, gB_sL, gB_sR, gI_sIs, gL_sLs, gR_sRs, gB_sBs, gI_sIn, gL_sLn, gR_sRn, gB_sBn, rdI_ok, rdL_ok, rdB_ok, wrI_ok, wrL_ok, wrB_ok, rY0, hui]
          refine ⟨_, by rw [hcs]; rfl, Kp.tr y1 (Kp.sL (W := fun t a _ => (t = 1 ∧ a = gN σ1) ∨ (t = 0 ∧ a = gN σ1 + 1)) (Or.inl ⟨rfl, rfl⟩)) (fun _ _ _ _ z => z), y2, y3, fun k => rfl, fun k hk => ?_⟩
          rw [El, if_pos c, getD_app, hle]
          by_cases e : k = cN (fp u) i
          · subst e
            rw [gL_sLs, if_neg (by omega), if_pos rfl]
          · rw [gL_sLn (by omega), if_pos (by omega)]
            exact (y4 k (by omega)).1
        · rw [if_neg c] at hcs
          rw [if_neg c]
          refine ⟨Y, by rw [hcs, Nat.add_zero], y1, y2, y3, fun _ => rfl, fun k hk => ?_⟩
          rw [El, if_neg c]
          exact (y4 k (by omega)).1
      obtain ⟨Y1, e2, g1, g2, g3, g4, g5⟩ := key
      rw [e2]
      simp only [Option.bind_some]
      have cnt_s : ∀ t, cN (fun j => decide (u j = t)) (i + 1) = cN (fun j => decide (u j = t)) i + (if u i = t then 1 else 0) := fun t => by
        rw [cN_s]
        by_cases q : u i = t
        · simp [q]
        · simp [q]
      by_cases c0 : u i = 0
      · have hE := El_zero su hi c0
        have hE0 : cN (fp u) (i + 1) = 0 := by rw [← hle1, hE]; rfl
        have hE1 : cN (fp u) i = 0 := by omega
        rw [hE0]
        refine ⟨Y1, ?_, g1, g2, g3, fun k hk => absurd hk (by omega), fun k hk => ?_⟩
        · simp only [lastI, if_true, if_false, not_true_eq_false, not_false_eq_true, true_and, and_true, false_and, and_false, true_or, or_true, false_or, or_false, decide_true, decide_false, Bool.false_eq_true, reduceCtorEq, Option.bind_some, Option.map_some, Option.map_none, Option.bind_none, jn_l, jn_r, jn_n, se_l, se_r, nl, nI_add]
          rfl
        · rw [g4]
          exact y5 k (by omega)
      · obtain ⟨l1, l2⟩ := El_last su i hi c0
        rw [hle1] at l1 l2
        have tth' : (gT Y1 th).1 = 10 := by rw [g1.T (by omega), k3.T hth.2.1, hth.2.2]
        have tr1' : (gT Y1 (gN σ1 + 1)).1 = 100 + 0 := by rw [g1.T (by omega), r3]
        have tr2' : (gT Y1 (gN σ1 + 1)).2 = m := by rw [g1.T (by omega), r3]
        have rY1' : gR Y1 th 1 = some (gN σ1 + 1) := by rw [g1.R (by omega) (by omega)]; exact b3
        have hl : lastI (cN (fp u) (i + 1)) = nI (cN (fp u) (i + 1) - 1) := by unfold lastI; rw [if_neg (by omega)]
        rw [hl]
        simp (disch := omega) only [nl, nI_add, nI_mul, iSub, iEq, iLe, iLt, iEqN, iNEq, iNN, iLtN, iNLt, iLeN, iNLe, iAddN, iNAdd, iMin, iMax, iDiv, iRem]
        rw [if_neg (by omega)]
        simp (disch := first | assumption | omega | (simp only [gT_sI, gT_sL, gT_sR, gT_sB]; first | assumption | omega)) only [Option.bind_some, ldI_ok, ldL_ok, ldR_ok, ldB_ok, stI_ok, stL_ok, stR_ok, stB_ok, chk_ok, raI_k, raL_k, raR_k, raB_k, waI_k, waL_k, waB_k, waR_k, alen_k, gT_sI, gT_sL, gT_sR, gT_sB, gN_sI, gN_sL, gN_sR, gN_sB, gI_sL, gI_sR, gI_sB, gL_sI, gL_sR, gL_sB, gR_sI, gR_sL, gR_sB, gB_sI, gB_sL, gB_sR, gI_sIs, gL_sLs, gR_sRs, gB_sBs, gI_sIn, gL_sLn, gR_sRn, gB_sBn, rdI_ok, rdL_ok, rdB_ok, wrI_ok, wrL_ok, wrB_ok, rY1']
        refine ⟨_, rfl, Kp.tr g1 (Kp.sI (W := fun t a _ => (t = 1 ∧ a = gN σ1) ∨ (t = 0 ∧ a = gN σ1 + 1)) (Or.inr ⟨rfl, rfl⟩)) (fun _ _ _ _ z => z), g2, g3, fun k hk => ⟨by rw [gL_sI]; exact g5 k hk, ?_⟩, fun k hk => ?_⟩
        · -- the counts
          have hold : k < cN (fp u) i → (El u (i + 1)).getD k 0 = (El u i).getD k 0 := fun hk' => by
            rw [El]
            by_cases c : fp u i = true
            · rw [if_pos c, getD_app, if_pos (by omega)]
            · rw [if_neg c]
          rw [cnt_s]
          by_cases e : k = cN (fp u) (i + 1) - 1
          · have ek : (El u (i + 1)).getD k 0 = u i := by rw [e]; exact l2
            rw [ek, if_pos rfl, e, gI_sIs, g4]
            by_cases hk' : cN (fp u) (i + 1) - 1 < cN (fp u) i
            · rw [(y4 _ hk').2]
              have : (El u i).getD (cN (fp u) (i + 1) - 1) 0 = u i := by rw [← e, ← hold (by omega)]; exact ek
              rw [this]
              simp only [nl, nI_add]
            · rw [y5 _ (by omega)]
              have hnew : cN (fun j => decide (u j = u i)) i = 0 := by
                apply Nat.eq_zero_of_not_pos
                intro hp'
                obtain ⟨j, hj, hje⟩ := cN_pos.mp hp'
                have hje := of_decide_eq_true hje
                have hm1 : u i ∈ El u i := (El_mem su i (by omega) _).mpr ⟨c0, j, hj, hje⟩
                have c : fp u i = true := by
                  apply Classical.byContradiction
                  intro c
                  rw [if_neg c] at hcs
                  omega
                have hs' := El_srt su (i + 1) (by omega)
                obtain ⟨j2, hj2, hje2⟩ := List.getElem_of_mem hm1
                have := hs' j2 (cN (fp u) (i + 1) - 1) (by omega) (by omega)
                rw [l2, El, if_pos c, getD_app, if_pos hj2, List.getD_eq_getElem?_getD, List.getElem?_eq_getElem hj2] at this
                simp at this
                omega
              rw [hnew]
              rfl
          · rw [gI_sIn (by omega), g4]
            have hk' : k < cN (fp u) i := by
              by_cases c : fp u i = true
              · rw [if_pos c] at hcs; omega
              · rw [if_neg c] at hcs; omega
            rw [hold hk', (y4 k hk').2]
            have hne : ¬ u i = (El u i).getD k 0 := fun z => by
              have hs' := El_srt su (i + 1) (by omega) k (cN (fp u) (i + 1) - 1) (by omega) (by omega)
              rw [l2, hold hk'] at hs'
              omega
            rw [if_neg hne, Nat.add_zero]
        · rw [gI_sIn (by omega), g4]
          exact y5 k (by
            by_cases c : fp u i = true
            · rw [if_pos c] at hcs; omega
            · rw [if_neg c] at hcs; omega)
    · rintro Y ⟨y1, y2, y3, y4, y5⟩
      have tY : gT Y x = (101, n) := by rw [y1.T (by omega), k3.T hx.2.1]; exact hx.2.2
      have tY1 : (gT Y x).1 = 100 + 1 := by rw [tY]
      have tY2 : (gT Y x).2 = n := by rw [tY]
      refine ⟨Y, ?_, y1, y2, y3, fun k hk => y4 k (by rw [hm]; exact hk)⟩
      unfold Vo_init_l54
      simp (disch := first | assumption | omega | (simp only [gT_sI, gT_sL, gT_sR, gT_sB]; first | assumption | omega)) only [Option.bind_some, ldI_ok, ldL_ok, ldR_ok, ldB_ok, stI_ok, stL_ok, stR_ok, stB_ok, chk_ok, raI_k, raL_k, raR_k, raB_k, waI_k, waL_k, waB_k, waR_k, alen_k, gT_sI, gT_sL, gT_sR, gT_sB, gN_sI, gN_sL, gN_sR, gN_sB, gI_sL, gI_sR, gI_sB, gL_sI, gL_sR, gL_sB, gR_sI, gR_sL, gR_sB, gB_sI, gB_sL, gB_sR, gI_sIs, gL_sLs, gR_sRs, gB_sBs, gI_sIn, gL_sLn, gR_sRn, gB_sBn, rdI_ok, rdL_ok, rdB_ok, wrI_ok, wrL_ok, wrB_ok, tY2]
      simp only [iLe (show n < 2147483648 by omega) (show n < 2147483648 by omega)]
      rw [if_pos (Nat.le_refl _)]
  rw [hz]
  refine ⟨z, rfl, Kp.tr k3 f1 (fun t a k ha q => by omega), by omega, by omega, gN σ1, gN σ1 + 1, El u n, ?_, ?_, ?_, ?_, ?_, fun i hi => ?_, ?_, El_srt su n (Nat.le_refl _), fun t => ?_, fun t => ?_, fun t ht => ?_⟩
  · exact ⟨hth.1, by omega, by rw [f1.T (by omega), k3.T hth.2.1]; exact hth.2.2⟩
  · rw [f1.R (by omega) (by omega)]; exact a3
  · rw [f1.R (by omega) (by omega)]; exact b3
  · exact ⟨by omega, by omega, by rw [f1.T (by omega), q3, hlenE]⟩
  · exact ⟨by omega, by omega, by rw [f1.T (by omega), r3, hlenE]⟩
  · have := f4 i (by omega)
    refine ⟨this.1, ?_⟩
    rw [this.2]
    congr 1
    exact pu.cN (fun y => decide (y = (El u n).getD i 0))
  · omega
  · rw [El_mem su n (Nat.le_refl _) t]
    have := pu.cN (fun y => decide (y = t))
    show _ ↔ t ≠ 0 ∧ 0 < cN (fun k => decide (w k = t)) n
    rw [← this, cN_pos]
    constructor
    · rintro ⟨a, k, b, c⟩
      exact ⟨a, k, b, by simp [c]⟩
    · rintro ⟨a, k, b, c⟩
      exact ⟨a, k, b, of_decide_eq_true c⟩
  · exact Nat.lt_of_le_of_lt (cN_le _ n) hn
  · obtain ⟨-, k, hk, e⟩ := (El_mem su n (Nat.le_refl _) t).mp ht
    rw [← e]
    exact hbu k hk
