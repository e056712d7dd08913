/-! SORTING by falling gaps: rows as functions -/
def wu {α : Type} (w : Nat → α) (a : Nat) (v : α) : Nat → α := fun k => if k = a then v else w k
theorem wu_s {α : Type} (w : Nat → α) (a : Nat) (v : α) : wu w a v a = v := by simp [wu]
theorem wu_n {α : Type} {w : Nat → α} {a k : Nat} {v : α} (h : k ≠ a) : wu w a v k = w k := by simp [wu, h]
theorem sN_wu (c : Nat → Nat) (a v : Nat) : ∀ n, a < n → sN (wu c a v) n + c a = sN c n + v
  | 0, h => absurd h (by omega)
  | n + 1, h => by
    rw [sN, sN]
    by_cases e : a = n
    · subst e
      have : sN (wu c a v) a = sN c a := sN_congr a (fun i hi => wu_n (by omega))
      rw [this, wu_s]
      omega
    · have := sN_wu c a v n (by omega)
      rw [wu_n (show n ≠ a by omega)]
      omega
theorem sN_swap (c : Nat → Nat) {a b n : Nat} (ha : a < n) (hb : b < n) : sN (wu (wu c a (c b)) b (c a)) n = sN c n := by
  have h1 := sN_wu c a (c b) n ha
  have h2 := sN_wu (wu c a (c b)) b (c a) n hb
  by_cases e : a = b
  · subst e
    rw [wu_s] at h2
    omega
  · rw [wu_n (show b ≠ a by omega)] at h2
    omega
/-- the same things, as often, in another order -/
def prm {α : Type} (n : Nat) (w u : Nat → α) : Prop := ∀ c : α → Nat, sN (fun k => c (w k)) n = sN (fun k => c (u k)) n
theorem prm.rf {α : Type} {n : Nat} {w : Nat → α} : prm n w w := fun _ => rfl
theorem prm.tr {α : Type} {n : Nat} {w u v : Nat → α} (h : prm n w u) (g : prm n u v) : prm n w v := fun c => (h c).trans (g c)
theorem prm.sy {α : Type} {n : Nat} {w u : Nat → α} (h : prm n w u) : prm n u w := fun c => (h c).symm
theorem prm.cg {α : Type} {n : Nat} {w u : Nat → α} (h : ∀ k, k < n → w k = u k) : prm n w u := fun c => sN_congr n (fun i hi => by rw [h i hi])
theorem prm.swap {α : Type} {n a b : Nat} {w : Nat → α} (ha : a < n) (hb : b < n) : prm n (wu (wu w a (w b)) b (w a)) w := fun c => by
  rw [← sN_swap (fun k => c (w k)) ha hb]
  refine sN_congr n (fun i _ => ?_)
  unfold wu
  split
  · rfl
  · split <;> rfl
/-- the row with m at a; ascending up to i but for m's place, m below what lies behind it -/
def srt (w : Nat → Nat) (n : Nat) : Prop := ∀ i k, i < k → k < n → w i ≤ w k
def srtH (w : Nat → Nat) (m a n : Nat) : Prop := (∀ i k, i < k → k < n → i ≠ a → k ≠ a → w i ≤ w k) ∧ ∀ k, a < k → k < n → m ≤ w k
def hL (σ : Mem) (x n : Nat) (w : Nat → Nat) : Prop := ∀ k, k < n → gL σ x k = lN (w k)
def wRow (x : Nat) : Nat → Nat → Nat → Prop := fun t a _ => t = 1 ∧ a = x
theorem Vo_sort_ok {σ : Mem} {x n : Nat} {w : Nat → Nat} (hx : gT σ x = (101, n)) (hN : x < gN σ) (hn : n < 1000000) (hw : hL σ x n w) (hb : ∀ k, k < n → w k < 9223372036854775808) : ∃ σ' u, Vo_sort σ (some x) = some σ' ∧ Kp (wRow x) σ σ' ∧ gN σ' = gN σ ∧ gU σ' = gU σ ∧ hL σ' x n u ∧ prm n u w ∧ srt u n := by
  let I : Mem → (Nat → Nat) → Prop := fun τ u => Kp (wRow x) σ τ ∧ gN τ = gN σ ∧ gU τ = gU σ ∧ hL τ x n u ∧ prm n u w ∧ ∀ k, k < n → u k < 9223372036854775808
  have tI : ∀ {τ u}, I τ u → (gT τ x).1 = 100 + 1 ∧ (gT τ x).2 = n := fun h => by rw [h.1.T hN, hx]; exact ⟨rfl, rfl⟩
  -- the inner loop
  have hin : ∀ τ u g i, I τ u → 0 < g → g ≤ i → i < n → ∃ z, lp (fun q : Int32 × Mem => Vo_sort_l24 q.2 (some x) (nI g) (nI i) (lN (u i)) q.1) (nI i, τ) = some z ∧ ∃ at' v, z.1 = nI at' ∧ at' < n ∧ Kp (wRow x) σ z.2 ∧ gN z.2 = gN σ ∧ gU z.2 = gU σ ∧ (∀ k, k < n → k ≠ at' → gL z.2 x k = lN (v k)) ∧ v at' = u i ∧ prm n v u ∧ (g = 1 → srt u i → srt v (i + 1)) := by
    intro τ u g i hI hg hgi hi
    have hbi := hI.2.2.2.2.2 i hi
    have := lp_inv (f := fun q : Int32 × Mem => Vo_sort_l24 q.2 (some x) (nI g) (nI i) (lN (u i)) q.1) (fun q => ∃ a v, q.1 = nI a ∧ a ≤ i ∧ Kp (wRow x) σ q.2 ∧ gN q.2 = gN σ ∧ gU q.2 = gU σ ∧ (∀ k, k < n → k ≠ a → gL q.2 x k = lN (v k)) ∧ v a = u i ∧ prm n v u ∧ (∀ k, k < n → v k < 9223372036854775808) ∧ (g = 1 → srt u i → srtH v (u i) a (i + 1))) (fun q => q.1.toNatClampNeg) (fun z => ∃ at' v, z.1 = nI at' ∧ at' < n ∧ Kp (wRow x) σ z.2 ∧ gN z.2 = gN σ ∧ gU z.2 = gU σ ∧ (∀ k, k < n → k ≠ at' → gL z.2 x k = lN (v k)) ∧ v at' = u i ∧ prm n v u ∧ (g = 1 → srt u i → srt v (i + 1))) ?_ (nI i, τ) ⟨i, u, rfl, Nat.le_refl _, hI.1, hI.2.1, hI.2.2.1, fun k hk _ => hI.2.2.2.1 k hk, rfl, prm.rf, hI.2.2.2.2.2, fun _ hs => ⟨fun a b h1 h2 h3 h4 => hs a b h1 (by omega), fun k h1 h2 => by omega⟩⟩
    · exact this
    · rintro ⟨q1, Q⟩ ⟨a, v, rfl, ha, k1, k2, k3, hv, hva, hp, hvb, hsr⟩
      have t1 : (gT Q x).1 = 100 + 1 := by rw [k1.T hN, hx]
      have t2 : (gT Q x).2 = n := by rw [k1.T hN, hx]
      unfold Vo_sort_l24
      simp (disch := omega) only [nl, nI_add, nI_mul, iSub, iEq, iLe, iLt, iEqN, iNEq, iNN, iLtN, iNLt, iLeN, iNLe, iAddN, iNAdd, iMin, iMax, iDiv, iRem]
      by_cases c : a < g
      · right
        rw [if_pos c]
        refine ⟨_, rfl, a, v, rfl, by omega, k1, k2, k3, hv, hva, hp, fun h1 hs => ?_⟩
        obtain ⟨s1, s2⟩ := hsr h1 hs
        intro p q hpq hq
        by_cases e1 : p = a
        · subst e1; rw [hva]; exact s2 q hpq hq
        · by_cases e2 : q = a
          · omega
          · exact s1 p q hpq hq e1 e2
      · rw [if_neg c]
        have hvg := hv (a - g) (by omega) (by omega)
        have hvgb := hvb (a - g) (by omega)
        simp (disch := first | assumption | omega | (simp only [gT_sI, gT_sL, gT_sR, gT_sB]; first | assumption | omega)) only [Option.bind_some, ldI_ok, ldL_ok, ldR_ok, ldB_ok, stI_ok, stL_ok, stR_ok, stB_ok, chk_ok, raI_k, raL_k, raR_k, raB_k, waI_k, waL_k, waB_k, waR_k, alen_k, gT_sI, gT_sL, gT_sR, gT_sB, gN_sI, gN_sL, gN_sR, gN_sB, gI_sL, gI_sR, gI_sB, gL_sI, gL_sR, gL_sB, gR_sI, gR_sL, gR_sB, gB_sI, gB_sL, gB_sR, gI_sIs, gL_sLs, gR_sRs, gB_sBs, gI_sIn, gL_sLn, gR_sRn, gB_sBn, rdI_ok, rdL_ok, rdB_ok, wrI_ok, wrL_ok, wrB_ok, hvg]
        simp only [lLe hvgb hbi]
        by_cases c2 : v (a - g) ≤ u i
        · right
          rw [if_pos c2]
          refine ⟨_, rfl, a, v, rfl, by omega, k1, k2, k3, hv, hva, hp, fun h1 hs => ?_⟩
          obtain ⟨s1, s2⟩ := hsr h1 hs
          subst h1
          intro p q hpq hq
          by_cases e1 : p = a
          · subst e1; rw [hva]; exact s2 q hpq hq
          · by_cases e2 : q = a
            · subst e2
              rw [hva]
              by_cases e3 : p = q - 1
              · rw [e3]; exact c2
              · exact Nat.le_trans (s1 p (q - 1) (by omega) (by omega) (by omega) (by omega)) c2
            · exact s1 p q hpq hq e1 e2
        · left
          rw [if_neg c2]
          refine ⟨_, rfl, ⟨a - g, wu (wu v a (v (a - g))) (a - g) (v a), rfl, by omega, Kp.tr k1 (Kp.sL (W := wRow x) ⟨rfl, rfl⟩) (fun _ _ _ _ z => z), k2, k3, fun k hk hka => ?_, ?_, ?_, fun k hk => ?_, fun h1 hs => ?_⟩, ?_⟩
          · rw [wu_n hka]
            by_cases e : k = a
            · subst e; rw [gL_sLs, wu_s]
            · rw [gL_sLn (by omega), wu_n e]; exact hv k hk e
          · rw [wu_s]; exact hva
          · exact (prm.swap (by omega) (by omega)).tr hp
          · unfold wu
            split
            · exact hvb _ (by omega)
            · split
              · exact hvb _ (by omega)
              · exact hvb _ hk
          · obtain ⟨s1, s2⟩ := hsr h1 hs
            subst h1
            refine ⟨fun p q hpq hq h3 h4 => ?_, fun k h3 h4 => ?_⟩
            · rw [wu_n h3, wu_n h4]
              by_cases e1 : p = a
              · subst e1
                rw [wu_s, wu_n (by omega)]
                exact s1 _ q (by omega) hq (by omega) (by omega)
              · rw [wu_n e1]
                by_cases e2 : q = a
                · subst e2
                  rw [wu_s]
                  exact s1 p _ (by omega) (by omega) e1 (by omega)
                · rw [wu_n e2]
                  exact s1 p q hpq hq e1 e2
            · rw [wu_n (by omega)]
              by_cases e1 : k = a
              · subst e1; rw [wu_s]; omega
              · rw [wu_n e1]; exact s2 k (by omega) h4
          · show (nI (a - g)).toNatClampNeg < (nI a).toNatClampNeg
            rw [nI_clamp (by omega), nI_clamp (by omega)]
            omega
  -- one pass
  have hmid : ∀ τ u g, I τ u → 0 < g → g < n + 1 → ∃ z, lp (fun q : Int32 × Mem => Vo_sort_l11 q.2 (some x) (nI g) q.1) (nI g, τ) = some z ∧ ∃ v, I z v ∧ (g = 1 → srt v n) := by
    intro τ u g hI hg hgn
    have := lp_inv (f := fun q : Int32 × Mem => Vo_sort_l11 q.2 (some x) (nI g) q.1) (fun q => ∃ i v, q.1 = nI i ∧ g ≤ i ∧ (i ≤ n ∨ i = g) ∧ I q.2 v ∧ (g = 1 → srt v i)) (fun q => n + 1 - q.1.toNatClampNeg) (fun z => ∃ v, I z v ∧ (g = 1 → srt v n)) ?_ (nI g, τ) ⟨g, u, rfl, Nat.le_refl _, Or.inr rfl, hI, fun h1 p q hpq hq => by omega⟩
    · exact this
    · rintro ⟨q1, Q⟩ ⟨i, v, rfl, hgi, hin', hJ, hsr⟩
      have hJ : I Q v := hJ
      obtain ⟨t1, t2⟩ := tI hJ
      unfold Vo_sort_l11
      simp (disch := first | assumption | omega | (simp only [gT_sI, gT_sL, gT_sR, gT_sB]; first | assumption | omega)) only [Option.bind_some, ldI_ok, ldL_ok, ldR_ok, ldB_ok, stI_ok, stL_ok, stR_ok, stB_ok, chk_ok, raI_k, raL_k, raR_k, raB_k, waI_k, waL_k, waB_k, waR_k, alen_k, gT_sI, gT_sL, gT_sR, gT_sB, gN_sI, gN_sL, gN_sR, gN_sB, gI_sL, gI_sR, gI_sB, gL_sI, gL_sR, gL_sB, gR_sI, gR_sL, gR_sB, gB_sI, gB_sL, gB_sR, gI_sIs, gL_sLs, gR_sRs, gB_sBs, gI_sIn, gL_sLn, gR_sRn, gB_sBn, rdI_ok, rdL_ok, rdB_ok, wrI_ok, wrL_ok, wrB_ok, nl, nI_add, nI_mul, iSub, iEq, iLe, iLt, iEqN, iNEq, iNN, iLtN, iNLt, iLeN, iNLe, iAddN, iNAdd, iMin, iMax, iDiv, iRem, t2]
      by_cases c : n ≤ i
      · right
        rw [if_pos c]
        exact ⟨_, rfl, v, hJ, fun h1 => fun p q hpq hq => hsr h1 p q hpq (by omega)⟩
      · left
        rw [if_neg c]
        have hvi := hJ.2.2.2.1 i (by omega)
        rw [hvi]
        obtain ⟨z, hz, a, v2, e1, e2, k1, k2, k3, r1, r2, r3, r4⟩ := hin Q v g i hJ hg hgi (by omega)
        rw [hz]
        simp only [Option.bind_some, e1]
        have t3 : (gT z.2 x).1 = 100 + 1 := by rw [k1.T hN, hx]
        have t4 : (gT z.2 x).2 = n := by rw [k1.T hN, hx]
        simp (disch := first | assumption | omega | (simp only [gT_sI, gT_sL, gT_sR, gT_sB]; first | assumption | omega)) only [Option.bind_some, ldI_ok, ldL_ok, ldR_ok, ldB_ok, stI_ok, stL_ok, stR_ok, stB_ok, chk_ok, raI_k, raL_k, raR_k, raB_k, waI_k, waL_k, waB_k, waR_k, alen_k, gT_sI, gT_sL, gT_sR, gT_sB, gN_sI, gN_sL, gN_sR, gN_sB, gI_sL, gI_sR, gI_sB, gL_sI, gL_sR, gL_sB, gR_sI, gR_sL, gR_sB, gB_sI, gB_sL, gB_sR, gI_sIs, gL_sLs, gR_sRs, gB_sBs, gI_sIn, gL_sLn, gR_sRn, gB_sBn, rdI_ok, rdL_ok, rdB_ok, wrI_ok, wrL_ok, wrB_ok]
        refine ⟨_, rfl, ⟨i + 1, v2, rfl, by omega, Or.inl (by omega), ⟨Kp.tr k1 (Kp.sL (W := wRow x) ⟨rfl, rfl⟩) (fun _ _ _ _ z => z), k2, k3, fun k hk => ?_, r3.tr hJ.2.2.2.2.1, fun k hk => ?_⟩, fun h1 => r4 h1 (hsr h1)⟩, ?_⟩
        · by_cases e : k = a
          · subst e; rw [gL_sLs, r2]
          · rw [gL_sLn (by omega)]; exact r1 k hk e
        · have := r3 (fun y => if y < 9223372036854775808 then 0 else 1)
          have z0 : sN (fun k => if v k < 9223372036854775808 then 0 else 1) n = 0 := by
            rw [sN_congr (d := fun _ => 0) n (fun i hi => if_pos (hJ.2.2.2.2.2 i hi))]
            exact Nat.le_zero.mp (Nat.le_trans (sN_le (M := 0) (fun _ => Nat.le_refl _) n) (by omega))
          rw [z0] at this
          apply Nat.lt_of_not_le
          intro hc
          have := sN_wu (fun k => if v2 k < 9223372036854775808 then 0 else 1) k 0 n hk
          rw [if_neg (by omega)] at this
          omega
        · show n + 1 - (nI (i + 1)).toNatClampNeg < n + 1 - (nI i).toNatClampNeg
          rw [nI_clamp (by omega), nI_clamp (by omega)]
          omega
  -- all passes
  have hI0 : I σ w := ⟨Kp.rf, rfl, rfl, hw, prm.rf, hb⟩
  obtain ⟨z, hz, u, hu, hs⟩ := lp_inv (f := fun q : Int32 × Mem => Vo_sort_l5 q.2 (some x) q.1) (fun q => ∃ g v, q.1 = nI g ∧ g ≤ n ∧ I q.2 v ∧ (g = 0 → srt v n)) (fun q => q.1.toNatClampNeg) (fun z => ∃ v, I z v ∧ srt v n) (by
    rintro ⟨q1, Q⟩ ⟨g, v, rfl, hg, hJ, hsr⟩
    have hJ : I Q v := hJ
    unfold Vo_sort_l5
    simp (disch := omega) only [nl, nI_add, nI_mul, iSub, iEq, iLe, iLt, iEqN, iNEq, iNN, iLtN, iNLt, iLeN, iNLe, iAddN, iNAdd, iMin, iMax, iDiv, iRem]
    by_cases c : g ≤ 0
    · right
      rw [if_pos c]
      exact ⟨_, rfl, v, hJ, hsr (by omega)⟩
    · left
      rw [if_neg c]
      obtain ⟨z, hz, v2, h1, h2⟩ := hmid Q v g hJ (by omega) (by omega)
      rw [hz]
      simp only [Option.bind_some]
      refine ⟨_, rfl, ⟨g / 2, v2, rfl, by omega, h1, fun h3 => h2 (by omega)⟩, ?_⟩
      show (nI (g / 2)).toNatClampNeg < (nI g).toNatClampNeg
      rw [nI_clamp (by omega), nI_clamp (by omega)]
      omega) (nI (n / 2), σ) ⟨n / 2, w, rfl, by omega, hI0, fun h0 p q hpq hq => by omega⟩
  refine ⟨z, u, ?_, hu.1, hu.2.1, hu.2.2.1, hu.2.2.2.1, hu.2.2.2.2.1, hs⟩
  obtain ⟨t1, t2⟩ := tI hI0
  unfold Vo_sort
  simp (disch := first | assumption | omega | (simp only [gT_sI, gT_sL, gT_sR, gT_sB]; first | assumption | omega)) only [Option.bind_some, ldI_ok, ldL_ok, ldR_ok, ldB_ok, stI_ok, stL_ok, stR_ok, stB_ok, chk_ok, raI_k, raL_k, raR_k, raB_k, waI_k, waL_k, waB_k, waR_k, alen_k, gT_sI, gT_sL, gT_sR, gT_sB, gN_sI, gN_sL, gN_sR, gN_sB, gI_sL, gI_sR, gI_sB, gL_sI, gL_sR, gL_sB, gR_sI, gR_sL, gR_sB, gB_sI, gB_sL, gB_sR, gI_sIs, gL_sLs, gR_sRs, gB_sBs, gI_sIn, gL_sLn, gR_sRn, gB_sBn, rdI_ok, rdL_ok, rdB_ok, wrI_ok, wrL_ok, wrB_ok, nl, nI_add, nI_mul, iSub, iEq, iLe, iLt, iEqN, iNEq, iNN, iLtN, iNLt, iLeN, iNLe, iAddN, iNAdd, iMin, iMax, iDiv, iRem, t2]
  rw [hz]
  rfl
