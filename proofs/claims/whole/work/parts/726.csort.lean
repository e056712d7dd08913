/-! HITS in order: by score, key, number; the class's sort -/
def kN (k : Int64) : Nat := (k.toInt + 9223372036854775808).toNat
theorem kN_lt (k : Int64) : kN k < 18446744073709551616 := by
  have h1 := Int64.le_toInt k
  have h2 := Int64.toInt_lt k
  unfold kN
  omega
theorem kN_lt_iff {a b : Int64} : kN a < kN b ↔ a < b := by
  have h1 := Int64.le_toInt a
  have h2 := Int64.le_toInt b
  rw [Int64.lt_iff_toInt_lt]
  unfold kN
  omega
theorem kN_eq_iff {a b : Int64} : kN a = kN b ↔ a = b := by
  have h1 := Int64.le_toInt a
  have h2 := Int64.le_toInt b
  rw [← Int64.toInt_inj]
  unfold kN
  omega
def hcode (D : List DocT) (x : Nat × Nat) : Nat := (1000000000 - x.2) * 9444732965739290427392 + (kN (dKey (dA D x.1)) * 512 + x.1)
def okH (D : List DocT) (x : Nat × Nat) : Prop := x.1 < D.length ∧ D.length ≤ 400 ∧ x.2 ≤ 1000000000
theorem hc_lt {D : List DocT} {x y : Nat × Nat} (hx : okH D x) (hy : okH D y) : hcode D x < hcode D y ↔ y.2 < x.2 ∨ (x.2 = y.2 ∧ (dKey (dA D x.1) < dKey (dA D y.1) ∨ (dKey (dA D x.1) = dKey (dA D y.1) ∧ x.1 < y.1))) := by
  obtain ⟨a1, a2, a3⟩ := hx
  obtain ⟨b1, b2, b3⟩ := hy
  have k1 := kN_lt (dKey (dA D x.1))
  have k2 := kN_lt (dKey (dA D y.1))
  rw [← kN_lt_iff, ← kN_eq_iff]
  unfold hcode
  generalize kN (dKey (dA D x.1)) = p at *
  generalize kN (dKey (dA D y.1)) = q at *
  omega
theorem hc_inj {D : List DocT} {x y : Nat × Nat} (hx : okH D x) (hy : okH D y) (h : hcode D x = hcode D y) : x = y := by
  obtain ⟨a1, a2, a3⟩ := hx
  obtain ⟨b1, b2, b3⟩ := hy
  have k1 := kN_lt (dKey (dA D x.1))
  have k2 := kN_lt (dKey (dA D y.1))
  unfold hcode at h
  generalize kN (dKey (dA D x.1)) = p at *
  generalize kN (dKey (dA D y.1)) = q at *
  have e1 : x.1 = y.1 := by omega
  have e2 : x.2 = y.2 := by omega
  exact Prod.ext e1 e2
theorem srt_uniq {n : Nat} {a b : Nat → Nat} (ha : srt a n) (hb : srt b n) (hp : prm n a b) : ∀ k, k < n → a k = b k := by
  have key : ∀ (a b : Nat → Nat), srt a n → srt b n → prm n a b → ∀ k, k < n → ¬ a k < b k := fun a b ha hb hp k hk hlt => by
    have hc := hp (fun y => if y ≤ a k then 1 else 0)
    have h1 : k + 1 ≤ sN (fun j => if a j ≤ a k then 1 else 0) n := by
      have e : sN (fun j => if a j ≤ a k then 1 else 0) n = cN (fun j => decide (a j ≤ a k)) n := sN_congr n (fun j _ => by simp only [decide_eq_true_eq])
      rw [e]
      have h2 := cN_mono (p := fun j => decide (a j ≤ a k)) (show k + 1 ≤ n by omega)
      have h3 : cN (fun j => decide (a j ≤ a k)) (k + 1) = k + 1 := by
        have : ∀ m, m ≤ k + 1 → cN (fun j => decide (a j ≤ a k)) m = m := fun m => by
          induction m with
          | zero => intro _; rfl
          | succ m ih =>
            intro hm
            rw [cN_s, ih (by omega), if_pos]
            by_cases e : m = k
            · rw [e]; exact decide_eq_true (Nat.le_refl _)
            · exact decide_eq_true (ha m k (by omega) hk)
        exact this _ (Nat.le_refl _)
      omega
    have h2 : sN (fun j => if b j ≤ a k then 1 else 0) n ≤ k := by
      have e : sN (fun j => if b j ≤ a k then 1 else 0) n = cN (fun j => decide (b j ≤ a k)) n := sN_congr n (fun j _ => by simp only [decide_eq_true_eq])
      rw [e]
      have : ∀ m, m ≤ n → cN (fun j => decide (b j ≤ a k)) m ≤ min m k := fun m => by
        induction m with
        | zero => intro _; exact Nat.zero_le _
        | succ m ih =>
          intro hm
          have ih := ih (by omega)
          rw [cN_s]
          by_cases c : m < k
          · have : (if decide (b m ≤ a k) = true then 1 else 0) ≤ 1 := by split <;> omega
            omega
          · have hbm : ¬ b m ≤ a k := by
              by_cases e : m = k
              · rw [e]; omega
              · have := hb k m (by omega) (by omega)
                omega
            rw [if_neg (by rw [decide_eq_true_eq]; exact hbm)]
            omega
      have := this n (Nat.le_refl _)
      omega
    omega
  intro k hk
  have h1 := key a b ha hb hp k hk
  have h2 := key b a hb ha hp.sy k hk
  omega
theorem prm.map {α β : Type} {n : Nat} {w u : Nat → α} (h : prm n w u) (g : α → β) : prm n (fun k => g (w k)) (fun k => g (u k)) := fun c => h (fun y => c (g y))
def wAn (e : Nat) : Nat → Nat → Nat → Prop := fun t a _ => (t = 2 ∧ a = e + 187) ∨ (t = 0 ∧ a = e + 188)
/-- the answer's rows; documents by their numbers -/
def anE (e : Nat) (da : Nat → Nat) (τ : Mem) (D : List DocT) (n : Nat) : Prop := (gT τ (e + 24)).1 = 0 ∧ gR τ (e + 24) 2 = some (e + 187) ∧ gR τ (e + 24) 3 = some (e + 188) ∧ gI τ (e + 24) 4 = nI n ∧ (gT τ (e + 187)).1 = 104 ∧ (gT τ (e + 187)).2 = 400 ∧ (gT τ (e + 188)).1 = 100 ∧ (gT τ (e + 188)).2 = 400 ∧ n ≤ 400 ∧ e + 401 ≤ gN τ ∧ D.length ≤ 400 ∧ ∀ d, d < D.length → (gT τ (da d)).1 = 1 ∧ gL τ (da d) 0 = dKey (dA D d) ∧ gI τ (da d) 3 = nI d ∧ e + 401 ≤ da d ∧ da d < gN τ
theorem anE.kp {e n : Nat} {da : Nat → Nat} {τ τ' : Mem} {D : List DocT} (h : anE e da τ D n) (hk : Kp (wAn e) τ τ') : anE e da τ' D n := by
  obtain ⟨a1, a2, a3, a4, a5, a6, a7, a8, a9, a10, a11, a12⟩ := h
  have hn := hk.n
  refine ⟨?_, ?_, ?_, ?_, ?_, ?_, ?_, ?_, a9, by omega, a11, fun d hd => ?_⟩
  · rw [hk.T (by omega)]; exact a1
  · rw [hk.R (by omega) (by unfold wAn; omega)]; exact a2
  · rw [hk.R (by omega) (by unfold wAn; omega)]; exact a3
  · rw [hk.I (by omega) (by unfold wAn; omega)]; exact a4
  · rw [hk.T (by omega)]; exact a5
  · rw [hk.T (by omega)]; exact a6
  · rw [hk.T (by omega)]; exact a7
  · rw [hk.T (by omega)]; exact a8
  · obtain ⟨b1, b2, b3, b4, b5⟩ := a12 d hd
    refine ⟨?_, ?_, ?_, b4, by omega⟩
    · rw [hk.T b5]; exact b1
    · rw [hk.L b5 (by unfold wAn; omega)]; exact b2
    · rw [hk.I b5 (by unfold wAn; omega)]; exact b3
def hH (e : Nat) (da : Nat → Nat) (τ : Mem) (k : Nat) (x : Nat × Nat) : Prop := gR τ (e + 187) k = some (da x.1) ∧ gI τ (e + 188) k = nI x.2
theorem An_isBefore_ok {e n i : Nat} {da : Nat → Nat} {τ : Mem} {D : List DocT} {x y : Nat × Nat} (h : anE e da τ D n) (hx : okH D x) (hy : okH D y) (hi : i < n) (hr : hH e da τ i y) : An_isBefore τ (e + 24) (some (da x.1)) (nI x.2) (nI i) = some (decide (hcode D x < hcode D y)) := by
  obtain ⟨a1, a2, a3, a4, a5, a6, a7, a8, a9, a10, a11, a12⟩ := h
  obtain ⟨r1, r2⟩ := hr
  obtain ⟨b1, b2, b3, -, -⟩ := a12 x.1 hx.1
  obtain ⟨c1, c2, c3, -, -⟩ := a12 y.1 hy.1
  have hx3 := hx.2.2
  have hy3 := hy.2.2
  have hx1 := hx.1
  have hy1 := hy.1
  have hlt := hc_lt hx hy
  have e188 : raI τ 0 (some (e + 188)) (nI i) = some (nI y.2) := by rw [raI_k (t := 0) a7 (by rw [a8]; omega) (by omega), r2]
  have e187 : raR τ 4 (some (e + 187)) (nI i) = some (some (da y.1)) := by rw [raR_k (t := 4) a5 (by rw [a6]; omega) (by omega), r1]
  unfold An_isBefore
  simp only [ldR_ok a1, a2, a3, e188, e187, Option.bind_some, reduceCtorEq, if_false, ldL_ok b1, ldL_ok c1, ldI_ok b1, ldI_ok c1, b2, b3, c2, c3]
  have q1 : (nI x.2 = nI y.2) = (x.2 = y.2) := iEq (by omega) (by omega)
  have q2 : (nI y.1 ≤ nI x.1) = (y.1 ≤ x.1) := iLe (by omega) (by omega)
  have q3 : (nI x.2 ≤ nI y.2) = (x.2 ≤ y.2) := iLe (by omega) (by omega)
  have q4 : (dKey (dA D y.1) ≤ dKey (dA D x.1)) = ¬ (dKey (dA D x.1) < dKey (dA D y.1)) := by rw [i64le, eq_iff_iff]; exact ⟨fun z w => w z, fun z => Classical.byContradiction z⟩
  simp only [q1, q2, q3, q4]
  by_cases c : x.2 = y.2
  · rw [if_pos c]
    by_cases k : dKey (dA D x.1) = dKey (dA D y.1)
    · rw [if_pos k]
      by_cases m : y.1 ≤ x.1
      · rw [if_pos m, decide_eq_false (fun z => by
          rcases hlt.mp z with z | ⟨-, z | ⟨-, z⟩⟩
          · omega
          · rw [k] at z; exact Int64.lt_irrefl z
          · omega)]
      · rw [if_neg m, decide_eq_true (hlt.mpr (.inr ⟨c, .inr ⟨k, by omega⟩⟩))]
    · rw [if_neg k]
      by_cases m : dKey (dA D x.1) < dKey (dA D y.1)
      · rw [if_neg (fun z => z m), decide_eq_true (hlt.mpr (.inr ⟨c, .inl m⟩))]
      · rw [if_pos m, decide_eq_false (fun z => by
          rcases hlt.mp z with z | ⟨-, z | ⟨z, -⟩⟩
          · omega
          · exact m z
          · exact k z)]
  · rw [if_neg c]
    by_cases m : x.2 ≤ y.2
    · rw [if_pos m, decide_eq_false (fun z => by
        rcases hlt.mp z with z | ⟨z, -⟩
        · omega
        · exact c z)]
    · rw [if_neg m, decide_eq_true (hlt.mpr (.inl (by omega)))]
theorem An_sort_ok {e n : Nat} {da : Nat → Nat} {σ : Mem} {D : List DocT} {w : Nat → Nat × Nat} {cd : Nat × Nat → Nat} (hbf : ∀ (τ : Mem) (i : Nat) (x y : Nat × Nat), anE e da τ D n → okH D x → okH D y → i < n → hH e da τ i y → An_isBefore τ (e + 24) (some (da x.1)) (nI x.2) (nI i) = some (decide (cd x < cd y))) (hE : anE e da σ D n) (hw : ∀ k, k < n → hH e da σ k (w k)) (hb : ∀ k, k < n → okH D (w k)) : ∃ σ' u, An_sort σ (e + 24) = some σ' ∧ Kp (wAn e) σ σ' ∧ gN σ' = gN σ ∧ gU σ' = gU σ ∧ (∀ k, k < n → hH e da σ' k (u k)) ∧ prm n u w ∧ srt (fun k => cd (u k)) n ∧ ∀ k, k < n → okH D (u k) := by
  have hn4 : n ≤ 400 := hE.2.2.2.2.2.2.2.2.1
  let I : Mem → (Nat → Nat × Nat) → Prop := fun τ u => Kp (wAn e) σ τ ∧ gN τ = gN σ ∧ gU τ = gU σ ∧ (∀ k, k < n → hH e da τ k (u k)) ∧ prm n u w ∧ ∀ k, k < n → okH D (u k)
  have hin : ∀ τ u g i, I τ u → 0 < g → g ≤ i → i < n → ∃ z, lp (fun q : Int32 × Mem => An_sort_l39 q.2 (e + 24) (nI g) (nI i) (some (da (u i).1)) (nI (u i).2) q.1) (nI i, τ) = some z ∧ ∃ at' v, z.1 = nI at' ∧ at' < n ∧ Kp (wAn e) σ z.2 ∧ gN z.2 = gN σ ∧ gU z.2 = gU σ ∧ (∀ k, k < n → k ≠ at' → hH e da z.2 k (v k)) ∧ v at' = u i ∧ prm n v u ∧ (g = 1 → srt (fun k => cd (u k)) i → srt (fun k => cd (v k)) (i + 1)) ∧ ∀ k, k < n → okH D (v k) := by
    intro τ u g i hI hg hgi hi
    have hbi := hI.2.2.2.2.2 i hi
    have := lp_inv (f := fun q : Int32 × Mem => An_sort_l39 q.2 (e + 24) (nI g) (nI i) (some (da (u i).1)) (nI (u i).2) q.1) (fun q => ∃ a v, q.1 = nI a ∧ a ≤ i ∧ Kp (wAn e) σ q.2 ∧ gN q.2 = gN σ ∧ gU q.2 = gU σ ∧ (∀ k, k < n → k ≠ a → hH e da q.2 k (v k)) ∧ v a = u i ∧ prm n v u ∧ (∀ k, k < n → okH D (v k)) ∧ (g = 1 → srt (fun k => cd (u k)) i → srtH (fun k => cd (v k)) (cd (u i)) a (i + 1))) (fun q => q.1.toNatClampNeg) (fun z => ∃ at' v, z.1 = nI at' ∧ at' < n ∧ Kp (wAn e) σ z.2 ∧ gN z.2 = gN σ ∧ gU z.2 = gU σ ∧ (∀ k, k < n → k ≠ at' → hH e da z.2 k (v k)) ∧ v at' = u i ∧ prm n v u ∧ (g = 1 → srt (fun k => cd (u k)) i → srt (fun k => cd (v k)) (i + 1)) ∧ ∀ k, k < n → okH D (v k)) ?_ (nI i, τ) ⟨i, u, rfl, Nat.le_refl _, hI.1, hI.2.1, hI.2.2.1, fun k hk _ => hI.2.2.2.1 k hk, rfl, prm.rf, hI.2.2.2.2.2, fun _ hs => ⟨fun a b h1 h2 h3 h4 => hs a b h1 (by omega), fun k h1 h2 => by omega⟩⟩
    · exact this
    · rintro ⟨q1, Q⟩ ⟨a, v, rfl, ha, k1, k2, k3, hv, hva, hp, hvb, hsr⟩
      have hQ := hE.kp k1
      obtain ⟨a1, a2, a3, a4, a5, a6, a7, a8, a9, a10, a11, a12⟩ := hQ
      unfold An_sort_l39
      have e0 : (nI a < nI g) = (a < g) := iLt (by omega) (by omega)
      simp only [e0]
      by_cases c : a < g
      · right
        rw [if_pos c]
        refine ⟨_, rfl, a, v, rfl, by omega, k1, k2, k3, hv, hva, hp, fun h1 hs => ?_, hvb⟩
        obtain ⟨s1, s2⟩ := hsr h1 hs
        intro p q hpq hq
        by_cases e1 : p = a
        · subst e1; show cd (v p) ≤ _; rw [hva]; exact s2 q hpq hq
        · by_cases e2 : q = a
          · omega
          · exact s1 p q hpq hq e1 e2
      · rw [if_neg c]
        have hvg := hv (a - g) (by omega) (by omega)
        have hvgb := hvb (a - g) (by omega)
        rw [iSub (by omega), chk_ok a1]
        simp only [Option.bind_some]
        rw [hbf _ _ _ _ (hE.kp k1) hbi hvgb (by omega) hvg]
        simp only [Option.bind_some]
        by_cases c2 : cd (u i) < cd (v (a - g))
        · left
          rw [if_pos (decide_eq_true c2)]
          simp only [ldR_ok a1, a2, a3, Option.bind_some]
          rw [raR_k (t := 4) a5 (by rw [a6]; omega) (by omega), hvg.1]
          simp only [Option.bind_some]
          rw [waR_k (t := 4) a5 (by rw [a6]; omega) (by omega) (a12 _ hvgb.1).1]
          simp only [Option.bind_some]
          have t1 : (gT (sR Q (e + 187) a (some (da (v (a - g)).1))) (e + 24)).1 = 0 := by rw [gT_sR]; exact a1
          have t2 : (gT (sR Q (e + 187) a (some (da (v (a - g)).1))) (e + 188)).1 = 100 + 0 := by rw [gT_sR]; exact a7
          have t3 : (gT (sR Q (e + 187) a (some (da (v (a - g)).1))) (e + 188)).2 = 400 := by rw [gT_sR]; exact a8
          simp only [ldR_ok t1, gR_sRn (show ¬ (e + 24 = e + 187 ∧ 3 = a) by omega), a3, Option.bind_some]
          rw [raI_k (t := 0) t2 (by rw [t3]; omega) (by omega), gI_sR, hvg.2]
          simp only [Option.bind_some]
          rw [waI_k (t := 0) t2 (by rw [t3]; omega) (by omega)]
          refine ⟨_, rfl, ⟨a - g, wu (wu v a (v (a - g))) (a - g) (v a), rfl, by omega, (k1.tr (Kp.sR (W := wAn e) (.inl ⟨rfl, rfl⟩)) (fun _ _ _ _ z => z)).tr (Kp.sI (W := wAn e) (.inr ⟨rfl, rfl⟩)) (fun _ _ _ _ z => z), k2, k3, fun k hk hka => ?_, ?_, ?_, fun k hk => ?_, fun h1 hs => ?_⟩, ?_⟩
          · rw [wu_n hka]
            by_cases e1 : k = a
            · subst e1
              rw [wu_s]
              refine ⟨?_, ?_⟩
              · rw [gR_sI, gR_sRs]
              · rw [gI_sIs]
            · rw [wu_n e1]
              obtain ⟨b1, b2⟩ := hv k hk e1
              refine ⟨?_, ?_⟩
              · rw [gR_sI, gR_sRn (by omega)]; exact b1
              · rw [gI_sIn (by omega), gI_sR]; exact b2
          · rw [wu_s]; exact hva
          · exact (prm.swap (by omega) (by omega)).tr hp
          · unfold wu
            split
            · exact hvb _ (by omega)
            · split
              · exact hvb _ (by omega)
              · exact hvb _ hk
          · obtain ⟨s1, s2⟩ := hsr h1 hs
            subst h1
            refine ⟨fun p q hpq hq h3 h4 => ?_, fun k h3 h4 => ?_⟩
            · show cd (wu (wu v a (v (a - 1))) (a - 1) (v a) p) ≤ cd (wu (wu v a (v (a - 1))) (a - 1) (v a) q)
              rw [wu_n h3, wu_n h4]
              by_cases e1 : p = a
              · subst e1
                rw [wu_s, wu_n (by omega)]
                exact s1 _ q (by omega) hq (by omega) (by omega)
              · rw [wu_n e1]
                by_cases e2 : q = a
                · subst e2
                  rw [wu_s]
                  exact s1 p _ (by omega) (by omega) e1 (by omega)
                · rw [wu_n e2]
                  exact s1 p q hpq hq e1 e2
            · show _ ≤ cd (wu (wu v a (v (a - 1))) (a - 1) (v a) k)
              rw [wu_n (by omega)]
              by_cases e1 : k = a
              · subst e1; rw [wu_s]; omega
              · rw [wu_n e1]; exact s2 k (by omega) h4
          · show (nI (a - g)).toNatClampNeg < (nI a).toNatClampNeg
            rw [nI_clamp (by omega), nI_clamp (by omega)]
            omega
        · right
          rw [if_neg (fun z => c2 (of_decide_eq_true z))]
          have c2 : cd (v (a - g)) ≤ cd (u i) := by omega
          refine ⟨_, rfl, a, v, rfl, by omega, k1, k2, k3, hv, hva, hp, fun h1 hs => ?_, hvb⟩
          obtain ⟨s1, s2⟩ := hsr h1 hs
          subst h1
          intro p q hpq hq
          by_cases e1 : p = a
          · subst e1; show cd (v p) ≤ _; rw [hva]; exact s2 q hpq hq
          · by_cases e2 : q = a
            · subst e2
              show _ ≤ cd (v q)
              rw [hva]
              by_cases e3 : p = q - 1
              · rw [e3]; exact c2
              · exact Nat.le_trans (s1 p (q - 1) (by omega) (by omega) (by omega) (by omega)) c2
            · exact s1 p q hpq hq e1 e2
  -- one pass
  have hmid : ∀ τ u g, I τ u → 0 < g → g < n + 1 → ∃ z, lp (fun q : Int32 × Mem => An_sort_l13 q.2 (e + 24) (nI g) q.1) (nI g, τ) = some z ∧ ∃ v, I z v ∧ (g = 1 → srt (fun k => cd (v k)) n) := by
    intro τ u g hI hg hgn
    have := lp_inv (f := fun q : Int32 × Mem => An_sort_l13 q.2 (e + 24) (nI g) q.1) (fun q => ∃ i v, q.1 = nI i ∧ g ≤ i ∧ (i ≤ n ∨ i = g) ∧ I q.2 v ∧ (g = 1 → srt (fun k => cd (v k)) i)) (fun q => n + 1 - q.1.toNatClampNeg) (fun z => ∃ v, I z v ∧ (g = 1 → srt (fun k => cd (v k)) n)) ?_ (nI g, τ) ⟨g, u, rfl, Nat.le_refl _, Or.inr rfl, hI, fun h1 p q hpq hq => by omega⟩
    · exact this
    · rintro ⟨q1, Q⟩ ⟨i, v, rfl, hgi, hin', hJ, hsr⟩
      have hJ : I Q v := hJ
      obtain ⟨a1, a2, a3, a4, a5, a6, a7, a8, a9, a10, a11, a12⟩ := hE.kp hJ.1
      unfold An_sort_l13
      simp only [ldI_ok a1, a4, Option.bind_some]
      have e0 : (nI n ≤ nI i) = (n ≤ i) := iLe (by omega) (by omega)
      simp only [e0]
      by_cases c : n ≤ i
      · right
        rw [if_pos c]
        exact ⟨_, rfl, v, hJ, fun h1 => fun p q hpq hq => hsr h1 p q hpq (by omega)⟩
      · left
        rw [if_neg c]
        obtain ⟨hv1, hv2⟩ := hJ.2.2.2.1 i (by omega)
        simp only [ldR_ok a1, a2, a3, Option.bind_some]
        rw [raR_k (t := 4) a5 (by rw [a6]; omega) (by omega), hv1]
        simp only [Option.bind_some]
        rw [raI_k (t := 0) a7 (by rw [a8]; omega) (by omega), hv2]
        simp only [Option.bind_some]
        obtain ⟨z, hz, a, v2, e1, e2, k1, k2, k3, r1, r2, r3, r4, r5⟩ := hin Q v g i hJ hg hgi (by omega)
        rw [hz]
        simp only [Option.bind_some, e1]
        obtain ⟨b1, b2, b3, b4, b5, b6, b7, b8, b9, b10, b11, b12⟩ := hE.kp k1
        have hvi := hJ.2.2.2.2.2 i (by omega)
        simp only [ldR_ok b1, b2, Option.bind_some]
        rw [waR_k (t := 4) b5 (by rw [b6]; omega) (by omega) (b12 _ hvi.1).1]
        simp only [Option.bind_some]
        have t1 : (gT (sR z.2 (e + 187) a (some (da (v i).1))) (e + 24)).1 = 0 := by rw [gT_sR]; exact b1
        have t2 : (gT (sR z.2 (e + 187) a (some (da (v i).1))) (e + 188)).1 = 100 + 0 := by rw [gT_sR]; exact b7
        have t3 : (gT (sR z.2 (e + 187) a (some (da (v i).1))) (e + 188)).2 = 400 := by rw [gT_sR]; exact b8
        simp only [ldR_ok t1, gR_sRn (show ¬ (e + 24 = e + 187 ∧ 3 = a) by omega), b3, Option.bind_some]
        rw [waI_k (t := 0) t2 (by rw [t3]; omega) (by omega)]
        refine ⟨(nI i + 1, sI (sR z.2 (e + 187) a (some (da (v i).1))) (e + 188) a (nI (v i).2)), rfl, ⟨i + 1, v2, by rw [show (1 : Int32) = nI 1 from rfl, nI_add], by omega, Or.inl (by omega), ⟨(k1.tr (Kp.sR (W := wAn e) (.inl ⟨rfl, rfl⟩)) (fun _ _ _ _ z => z)).tr (Kp.sI (W := wAn e) (.inr ⟨rfl, rfl⟩)) (fun _ _ _ _ z => z), k2, k3, fun k hk => ?_, r3.tr hJ.2.2.2.2.1, r5⟩, fun h1 => r4 h1 (hsr h1)⟩, ?_⟩
        · by_cases e1 : k = a
          · subst e1
            rw [r2]
            refine ⟨?_, ?_⟩
            · rw [gR_sI, gR_sRs]
            · rw [gI_sIs]
          · obtain ⟨d1, d2⟩ := r1 k hk e1
            refine ⟨?_, ?_⟩
            · rw [gR_sI, gR_sRn (by omega)]; exact d1
            · rw [gI_sIn (by omega), gI_sR]; exact d2
        · show n + 1 - (nI i + 1).toNatClampNeg < n + 1 - (nI i).toNatClampNeg
          rw [show (1 : Int32) = nI 1 from rfl, nI_add, nI_clamp (by omega), nI_clamp (by omega)]
          omega
  -- all passes
  have hI0 : I σ w := ⟨Kp.rf, rfl, rfl, hw, prm.rf, hb⟩
  obtain ⟨z, hz, u, hu, hs⟩ := lp_inv (f := fun q : Int32 × Mem => An_sort_l7 q.2 (e + 24) q.1) (fun q => ∃ g v, q.1 = nI g ∧ g ≤ n ∧ I q.2 v ∧ (g = 0 → srt (fun k => cd (v k)) n)) (fun q => q.1.toNatClampNeg) (fun z => ∃ v, I z v ∧ srt (fun k => cd (v k)) n) (by
    rintro ⟨q1, Q⟩ ⟨g, v, rfl, hg, hJ, hsr⟩
    have hJ : I Q v := hJ
    unfold An_sort_l7
    have e0 : (nI g ≤ 0) = (g ≤ 0) := iLe (b := 0) (by omega) (by omega)
    simp only [e0]
    by_cases c : g ≤ 0
    · right
      rw [if_pos c]
      exact ⟨_, rfl, v, hJ, hsr (by omega)⟩
    · left
      rw [if_neg c]
      obtain ⟨z, hz, v2, h1, h2⟩ := hmid Q v g hJ (by omega) (by omega)
      rw [hz]
      simp only [Option.bind_some]
      rw [show (2 : Int32) = nI 2 from rfl, iDiv (by omega) (by omega)]
      refine ⟨_, rfl, ⟨g / 2, v2, rfl, by omega, h1, fun h3 => h2 (by omega)⟩, ?_⟩
      show (nI (g / 2)).toNatClampNeg < (nI g).toNatClampNeg
      rw [nI_clamp (by omega), nI_clamp (by omega)]
      omega) (nI (n / 2), σ) ⟨n / 2, w, rfl, by omega, hI0, fun h0 p q hpq hq => by omega⟩
  refine ⟨z, u, ?_, hu.1, hu.2.1, hu.2.2.1, hu.2.2.2.1, hu.2.2.2.2.1, hs, hu.2.2.2.2.2⟩
  unfold An_sort
  simp only [ldI_ok hE.1, hE.2.2.2.1, Option.bind_some]
  rw [show (2 : Int32) = nI 2 from rfl, iDiv (by omega) (by omega), hz]
  rfl
