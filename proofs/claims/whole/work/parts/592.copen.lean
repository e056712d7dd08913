/-! THE CLASS'S CALLS: open -/
def wVw (e i : Nat) : Nat → Nat → Nat → Prop := fun t a k => (t = 0 ∧ a = e + (8 + 4 * i) ∧ (k = 2 ∨ k = 5 ∨ k = 6)) ∨ (t = 2 ∧ (a = e + (9 + 4 * i) ∨ a = e + (10 + 4 * i))) ∨ (t = 3 ∧ (a = e + (8 + 4 * i) ∧ k = 0 ∨ a = e + (11 + 4 * i)))
theorem wVw_f {e i : Nat} (hi : i < 4) : Wf e (wVw e i) := fun c k hc => ⟨fun q => by unfold wVw at q; unfold mtR; omega, fun q => by unfold wVw at q; omega, fun q => by unfold wVw at q; omega⟩
theorem wVw_h {e i : Nat} {σ : Mem} (hi : i < 4) : Wh (e + 401) σ (wVw e i) := fun t a k h1 h2 h3 => by unfold wVw at h3; omega
def dsOf (G : List SegT) : List (List Nat) := G.map (fun s => s.2)
def wVd (e i : Nat) : Nat → Nat → Nat → Prop := fun t a k => (t = 0 ∧ a = e + (8 + 4 * i) ∧ (k = 5 ∨ k = 6)) ∨ (t = 2 ∧ a = e + (10 + 4 * i)) ∨ (t = 3 ∧ a = e + (11 + 4 * i))
theorem wVd_V {e i : Nat} : ∀ t a k, wVd e i t a k → wVw e i t a k := fun t a k h => by unfold wVd at h; unfold wVw; omega
/-- a view while it takes documents: how many it has, which are dead -/
def cVd (e i : Nat) (da : Nat → Nat) (σ : Mem) (dl : Nat → Bool) (ds : List Nat) : Prop := gI σ (e + (8 + 4 * i)) 5 = nI ds.length ∧ (∀ k, k < ds.length → gR σ (e + (10 + 4 * i)) k = some (da (ds.getD k 0)) ∧ gB σ (e + (11 + 4 * i)) k = dl (ds.getD k 0)) ∧ gI σ (e + (8 + 4 * i)) 6 = nI (cN (fun k => !dl (ds.getD k 0)) ds.length)
theorem cVd_app {dl : Nat → Bool} {L : List Nat} {d : Nat} : cN (fun k => !dl ((L ++ [d]).getD k 0)) (L ++ [d]).length = cN (fun k => !dl (L.getD k 0)) L.length + (if (!dl d) = true then 1 else 0) := by
  rw [List.length_append, List.length_singleton, cN_s]
  congr 1
  · exact cN_congr _ (fun k hk => by rw [getD_app, if_pos hk])
  · have e : (L ++ [d]).getD L.length 0 = d := by rw [getD_app, if_neg (Nat.lt_irrefl _), if_pos rfl]
    rw [e]
theorem Vi_takeDocuments_ok {e i : Nat} {da : Nat → Nat} {σ : Mem} {D : List DocT} {dl : Nat → Bool} {st sp : Bool} {ds : List Nat} {s : Nat} {x : SegT} (hi : i < 4) (hF : cFix e σ st sp) (hD : cDocs e da σ D dl) (hs : isSeg (e + 401) σ da D s x) (hx : ∀ d, d ∈ x.2 → d < D.length) (hV : cVd e i da σ dl ds) (hl : ds.length + x.2.length ≤ 400) {q : Nat} (hq : gR σ s 1 = some q) : ∃ σ', Vi_takeDocuments σ (e + (8 + 4 * i)) (some q) = some σ' ∧ Kp (wVd e i) σ σ' ∧ gN σ' = gN σ ∧ gU σ' = gU σ ∧ cVd e i da σ' dl (ds ++ x.2) := by
  have hN := hF.N
  obtain ⟨z, hz, z1, z2, z3, z4⟩ : ∃ z, lp (fun y : Int32 × Mem => Vi_takeDocuments_l2 y.2 (e + (8 + 4 * i)) (some q) y.1) (nI 0, σ) = some z ∧ (Kp (wVd e i) σ z ∧ gN z = gN σ ∧ gU z = gU σ ∧ cVd e i da z dl (ds ++ x.2)) := by
    refine lp_for (fun k (Y : Mem) => (nI k, Y)) x.2.length (fun k Y => Kp (wVd e i) σ Y ∧ gN Y = gN σ ∧ gU Y = gU σ ∧ cVd e i da Y dl (ds ++ x.2.take k)) _ (fun k Y hk hI => ?_) (fun Y hI => ?_) x.2.length 0 _ (by omega) ⟨Kp.rf, rfl, rfl, by simpa using hV⟩
    · left
      obtain ⟨y1, y2, y3, y4⟩ := hI
      have kV : Kp (wVw e i) σ Y := y1.mono (fun t a k _ h => wVd_V t a k h)
      have hFY := hF.kp kV (wVw_f hi)
      have hDY := hD.kp kV hN (wVw_h hi) (by unfold wVw; omega) (fun k => by unfold wVw; omega) (fun j hj h => by have := (hD.d hj).1.1; unfold wVw at h; omega)
      have hsY := hs.kp kV (wVw_h hi)
      obtain ⟨q', v, w, s1, s2, s3, s4, s5, s6, s7, s8, s9⟩ := hsY
      have eq : q' = q := by
        have : gR Y s 1 = gR σ s 1 := hs.choose_spec.choose_spec.choose_spec.1.R kV (wVw_h hi) (by decide)
        rw [this, hq] at s3
        exact (Option.some.inj s3).symm
      subst eq
      have t2 := s6.t
      have t2' := s6.m
      obtain ⟨tv, -, ⟨ta, ta'⟩, ⟨tb, tb'⟩⟩ := hFY.vt hi
      obtain ⟨-, -, r3, r4⟩ := hFY.va hi
      have hdk := hx _ (getD_mem (d := 0) hk)
      have dd := hDY.2.2 _ hdk
      have td := dd.2.1.1.t
      have td401 := dd.2.1.1.1
      rw [take_s hk, ← List.append_assoc]
      have s7k := s7 k hk
      generalize x.2.getD k 0 = d at *
      have hlt : (ds ++ x.2.take k).length = ds.length + k := by rw [List.length_append, List.length_take]; omega
      generalize ds ++ x.2.take k = L at *
      obtain ⟨c1, c2, c3⟩ := y4
      have hcs := cVd_app (dl := dl) (L := L) (d := d)
      have hcl := cN_le (fun k => !dl (L.getD k 0)) L.length
      unfold Vi_takeDocuments_l2
      rw [alen_k t2, t2']
      simp only [Option.bind_some, iLe (show x.2.length < 2147483648 by omega) (show k < 2147483648 by omega)]
      rw [if_neg (by omega), ldI_ok tv, c1]
      have e400 : (400 ≤ nI L.length) = (400 ≤ L.length) := iLe (a := 400) (by omega) (by omega)
      simp only [Option.bind_some, e400]
      rw [if_neg (by omega), raR_k t2 (by omega) (by omega), s7k]
      simp only [Option.bind_some, reduceCtorEq, if_false]
      rw [ldR_ok tv, r3]
      simp only [Option.bind_some]
      rw [waR_k ta (by omega) (by omega) td]
      simp only [Option.bind_some]
      rw [ldR_ok (by rw [gT_sR]; exact tv), gR_sRn (by omega), r4]
      simp only [Option.bind_some]
      rw [ldI_ok (by rw [gT_sR]; exact tv), gI_sR, c1]
      simp only [Option.bind_some]
      rw [ldB_ok (by rw [gT_sR]; exact td), gB_sR, dd.2.2]
      simp only [Option.bind_some]
      rw [waB_k (by rw [gT_sR]; exact tb) (by rw [gT_sR]; omega) (by omega)]
      simp only [Option.bind_some]
      rw [ldI_ok (by rw [gT_sB, gT_sR]; exact tv), gI_sB, gI_sR, c1]
      simp only [Option.bind_some, nl, nI_add]
      rw [stI_ok (by rw [gT_sB, gT_sR]; exact tv)]
      simp only [Option.bind_some]
      rw [ldB_ok (by rw [gT_sI, gT_sB, gT_sR]; exact td), gB_sI, gB_sBn (by omega), gB_sR, dd.2.2]
      simp only [Option.bind_some]
      generalize hm : sI (sB (sR Y (e + (10 + 4 * i)) L.length (some (da d))) (e + (11 + 4 * i)) L.length (dl d)) (e + (8 + 4 * i)) 5 (nI (L.length + 1)) = m
      have km : Kp (wVd e i) Y m := by
        rw [← hm]
        refine Kp.tr (W := wVd e i) ?_ (Kp.sI (W := wVd e i) (by unfold wVd; omega)) (fun _ _ _ _ h => h)
        exact Kp.tr (W := wVd e i) (Kp.sR (W := wVd e i) (by unfold wVd; omega)) (Kp.sB (W := wVd e i) (by unfold wVd; omega)) (fun _ _ _ _ h => h)
      have nm : gN m = gN Y := by rw [← hm]; rfl
      have um : gU m = gU Y := by rw [← hm]; rfl
      have m5 : gI m (e + (8 + 4 * i)) 5 = nI (L ++ [d]).length := by rw [← hm, gI_sIs, List.length_append]; rfl
      have m6 : gI m (e + (8 + 4 * i)) 6 = nI (cN (fun k => !dl (L.getD k 0)) L.length) := by rw [← hm, gI_sIn (by omega), gI_sB, gI_sR]; exact c3
      have mr : ∀ k, k < (L ++ [d]).length → gR m (e + (10 + 4 * i)) k = some (da ((L ++ [d]).getD k 0)) ∧ gB m (e + (11 + 4 * i)) k = dl ((L ++ [d]).getD k 0) := fun k hk' => by
        rw [List.length_append, List.length_singleton] at hk'
        rw [← hm, gR_sI, gR_sB, gB_sI, getD_app]
        by_cases c : k = L.length
        · subst c
          rw [gR_sRs, gB_sBs, if_neg (by omega), if_pos rfl]
          exact ⟨rfl, rfl⟩
        · rw [gR_sRn (by omega), gB_sBn (by omega), gB_sR, if_pos (by omega)]
          exact c2 k (by omega)
      have tvm : (gT m (e + (8 + 4 * i))).1 = 9 := by rw [← hm, gT_sI, gT_sB, gT_sR]; exact tv
      clear hm
      cases hdl : dl d with
      | true =>
        rw [hdl] at hcs
        simp only [if_true, Option.bind_some]
        refine ⟨m, rfl, Kp.tr y1 km (fun _ _ _ _ h => h), by omega, by omega, m5, mr, ?_⟩
        rw [m6, hcs]
        simp
      | false =>
        rw [hdl] at hcs
        simp only [Bool.false_eq_true, if_false]
        rw [ldI_ok tvm, m6]
        simp only [Option.bind_some, nI_add]
        rw [stI_ok tvm]
        simp only [Option.bind_some]
        refine ⟨_, rfl, Kp.tr (Kp.tr y1 km (fun _ _ _ _ h => h)) (Kp.sI (W := wVd e i) (by unfold wVd; omega)) (fun _ _ _ _ h => h), by rw [gN_sI]; omega, by rw [gU_sI]; omega, ?_, fun k hk' => ?_, ?_⟩
        · rw [gI_sIn (by omega)]; exact m5
        · rw [gR_sI, gB_sI]; exact mr k hk'
        · rw [gI_sIs, hcs]
          simp
    · obtain ⟨y1, y2, y3, y4⟩ := hI
      have kV : Kp (wVw e i) σ Y := y1.mono (fun t a k _ h => wVd_V t a k h)
      have hsY := hs.kp kV (wVw_h hi)
      obtain ⟨q', v, w, s1, s2, s3, s4, s5, s6, s7, s8, s9⟩ := hsY
      have eq : q' = q := by
        have : gR Y s 1 = gR σ s 1 := hs.choose_spec.choose_spec.choose_spec.1.R kV (wVw_h hi) (by decide)
        rw [this, hq] at s3
        exact (Option.some.inj s3).symm
      subst eq
      have t2 := s6.t
      have t2' := s6.m
      rw [List.take_length] at y4
      refine ⟨Y, ?_, y1, y2, y3, y4⟩
      unfold Vi_takeDocuments_l2
      rw [alen_k t2, t2']
      simp only [Option.bind_some, iLe (show x.2.length < 2147483648 by omega) (show x.2.length < 2147483648 by omega)]
      rw [if_pos (Nat.le_refl _)]
  unfold Vi_takeDocuments
  rw [show (0 : Int32) = nI 0 from rfl, hz]
  exact ⟨z, rfl, z1, z2, z3, z4⟩
theorem flat_take {G : List SegT} {k : Nat} (h : k < G.length) : (dsOf (G.take (k + 1))).flatten = (dsOf (G.take k)).flatten ++ (gA G k).2 := by
  unfold dsOf gA
  rw [List.take_add_one, List.getElem?_eq_getElem h, List.getD_eq_getElem?_getD, List.getElem?_eq_getElem h, Option.toList_some, List.map_append, List.flatten_append]
  simp only [List.map_cons, List.map_nil, List.flatten_cons, List.flatten_nil, List.append_nil, Option.getD_some]
theorem flat_len (G : List SegT) : (dsOf G).flatten.length = tot G := by
  induction G with
  | nil => rfl
  | cons s G ih =>
    unfold dsOf tot sm at *
    simp at ih ⊢
    omega
/-- the view of a moment -/
def vwS (G : List SegT) (dl : Nat → Bool) : VwT := (true, dsOf G, (dsOf G).flatten.map dl)
theorem vwS_dead {G : List SegT} {dl : Nat → Bool} {k : Nat} (h : k < (dsOf G).flatten.length) : vDead (vwS G dl) k = dl ((dsOf G).flatten.getD k 0) := by
  unfold vDead vwS
  simp only
  rw [List.getD_eq_getElem?_getD, List.getElem?_map, List.getD_eq_getElem?_getD, List.getElem?_eq_getElem h]
  rfl
theorem Vi_take_ok {e i : Nat} {da : Nat → Nat} {σ : Mem} {D : List DocT} {dl : Nat → Bool} {st sp : Bool} {G : List SegT} (hi : i < 4) (hF : cFix e σ st sp) (hD : cDocs e da σ D dl) (hG : cSegs e da σ D G) (hx : ∀ s, s ∈ G → ∀ d, d ∈ s.2 → d < D.length) (ht : tot G ≤ 400) : ∃ σ', Vi_take σ (e + (8 + 4 * i)) (some (e + 5)) (nI G.length) = some σ' ∧ Kp (wVw e i) σ σ' ∧ gN σ' = gN σ ∧ gU σ' = gU σ ∧ cView e da σ' D i (vwS G dl) := by
  have hN := hF.N
  obtain ⟨tv, ⟨tc, tc'⟩, -, -⟩ := hF.vt hi
  have h16 := hG.2.1
  unfold Vi_take
  rw [stB_ok tv]
  simp only [Option.bind_some]
  rw [stI_ok (by rw [gT_sB]; exact tv)]
  simp only [Option.bind_some]
  rw [stI_ok (by rw [gT_sI, gT_sB]; exact tv)]
  simp only [Option.bind_some]
  rw [stI_ok (by rw [gT_sI, gT_sI, gT_sB]; exact tv)]
  simp only [Option.bind_some]
  generalize hs1 : sI (sI (sI (sB σ (e + (8 + 4 * i)) 0 true) (e + (8 + 4 * i)) 2 0) (e + (8 + 4 * i)) 5 0) (e + (8 + 4 * i)) 6 0 = σ1
  have k1 : Kp (wVw e i) σ σ1 := by
    rw [← hs1]
    refine Kp.tr (W := wVw e i) ?_ (Kp.sI (W := wVw e i) (by unfold wVw; omega)) (fun _ _ _ _ h => h)
    refine Kp.tr (W := wVw e i) ?_ (Kp.sI (W := wVw e i) (by unfold wVw; omega)) (fun _ _ _ _ h => h)
    exact Kp.tr (W := wVw e i) (Kp.sB (W := wVw e i) (by unfold wVw; omega)) (Kp.sI (W := wVw e i) (by unfold wVw; omega)) (fun _ _ _ _ h => h)
  have n1 : gN σ1 = gN σ := by rw [← hs1]; rfl
  have u1 : gU σ1 = gU σ := by rw [← hs1]; rfl
  have b1 : gB σ1 (e + (8 + 4 * i)) 0 = true := by rw [← hs1, gB_sI, gB_sI, gB_sI, gB_sBs]
  have i2 : gI σ1 (e + (8 + 4 * i)) 2 = nI 0 := by rw [← hs1, gI_sIn (by omega), gI_sIn (by omega), gI_sIs]; rfl
  have v1 : cVd e i da σ1 dl [] := ⟨by rw [← hs1, gI_sIn (by omega), gI_sIs]; rfl, fun k hk => absurd hk (by simp), by rw [← hs1, gI_sIs]; rfl⟩
  clear hs1
  obtain ⟨z, hz, z1, z2, z3, z4, z5, z6, z7⟩ : ∃ z, lp (fun y : Int32 × Mem => Vi_take_l22 y.2 (e + (8 + 4 * i)) (some (e + 5)) (nI G.length) y.1) (nI 0, σ1) = some z ∧ (Kp (wVw e i) σ z ∧ gN z = gN σ ∧ gU z = gU σ ∧ gB z (e + (8 + 4 * i)) 0 = true ∧ gI z (e + (8 + 4 * i)) 2 = nI G.length ∧ (∀ k, k < G.length → ∃ s, gR z (e + (9 + 4 * i)) k = some s ∧ isSeg (e + 401) σ da D s (gA G k)) ∧ cVd e i da z dl (dsOf G).flatten) := by
    refine lp_for (fun k (Y : Mem) => (nI k, Y)) G.length (fun k Y => Kp (wVw e i) σ Y ∧ gN Y = gN σ ∧ gU Y = gU σ ∧ gB Y (e + (8 + 4 * i)) 0 = true ∧ gI Y (e + (8 + 4 * i)) 2 = nI k ∧ (∀ j, j < k → ∃ s, gR Y (e + (9 + 4 * i)) j = some s ∧ isSeg (e + 401) σ da D s (gA G j)) ∧ cVd e i da Y dl (dsOf (G.take k)).flatten) _ (fun k Y hk hI => ?_) (fun Y hI => ?_) G.length 0 _ (by omega) ⟨k1, n1, u1, b1, i2, fun j hj => absurd hj (by omega), v1⟩
    · left
      obtain ⟨y1, y2, y3, y4, y5, y6, y7⟩ := hI
      have hFY := hF.kp y1 (wVw_f hi)
      have hDY := hD.kp y1 hN (wVw_h hi) (by unfold wVw; omega) (fun k => by unfold wVw; omega) (fun j hj h => by have := (hD.d hj).1.1; unfold wVw at h; omega)
      obtain ⟨s, c1, c2⟩ := hG.2.2 k hk
      have c2Y := c2.kp y1 (wVw_h hi)
      have ts := c2Y.choose_spec.choose_spec.choose_spec.1.t
      have ts401 := c2Y.choose_spec.choose_spec.choose_spec.1.1
      have r1 : gR Y (e + 5) k = some s := by rw [y1.R (by omega) (by unfold wVw; omega)]; exact c1
      obtain ⟨t5, t5'⟩ := iFix hFY 5 105 16 (by decide) rfl
      obtain ⟨tvY, ⟨tcY, tcY'⟩, -, -⟩ := hFY.vt hi
      obtain ⟨-, ra, -, -⟩ := hFY.va hi
      have hxk := hx _ (gA_mem hk)
      have htk : (dsOf (G.take k)).flatten.length + (gA G k).2.length ≤ 400 := by
        have h1 := flat_len (G.take (k + 1))
        rw [flat_take hk, List.length_append] at h1
        have h2 : tot G = tot (G.take (k + 1)) + tot (G.drop (k + 1)) := by
          unfold tot
          rw [← sm_app, List.take_append_drop]
        omega
      unfold Vi_take_l22
      simp (disch := omega) only [nl, nI_add, nI_mul, iSub, iEq, iLe, iLt, iEqN, iNEq, iNN, iLtN, iNLt, iLeN, iNLe, iAddN, iNAdd, iMin, iMax, iDiv, iRem]
      rw [if_neg (by omega), alen_k t5, t5']
      simp (disch := omega) only [Option.bind_some, nl, nI_add, nI_mul, iSub, iEq, iLe, iLt, iEqN, iNEq, iNN, iLtN, iNLt, iLeN, iNLe, iAddN, iNAdd, iMin, iMax, iDiv, iRem]
      rw [if_neg (by omega), if_neg (by omega), raR_k t5 (by omega) (by omega), r1]
      simp only [Option.bind_some, reduceCtorEq, if_false]
      rw [ldR_ok tvY, ra]
      simp only [Option.bind_some]
      rw [ldI_ok tvY, y5]
      simp only [Option.bind_some]
      rw [waR_k tcY (by omega) (by omega) ts]
      simp only [Option.bind_some]
      rw [ldI_ok (by rw [gT_sR]; exact tvY), gI_sR, y5]
      simp only [Option.bind_some, nI_add]
      rw [stI_ok (by rw [gT_sR]; exact tvY)]
      simp only [Option.bind_some]
      generalize hm : sI (sR Y (e + (9 + 4 * i)) k (some s)) (e + (8 + 4 * i)) 2 (nI (k + 1)) = m
      have km : Kp (wVw e i) Y m := by
        rw [← hm]
        exact Kp.tr (W := wVw e i) (Kp.sR (W := wVw e i) (by unfold wVw; omega)) (Kp.sI (W := wVw e i) (by unfold wVw; omega)) (fun _ _ _ _ h => h)
      have nm : gN m = gN Y := by rw [← hm]; rfl
      have um : gU m = gU Y := by rw [← hm]; rfl
      have m0 : gB m (e + (8 + 4 * i)) 0 = true := by rw [← hm]; exact y4
      have m2 : gI m (e + (8 + 4 * i)) 2 = nI (k + 1) := by rw [← hm, gI_sIs]
      have mr : ∀ j, j < k + 1 → ∃ s, gR m (e + (9 + 4 * i)) j = some s ∧ isSeg (e + 401) σ da D s (gA G j) := fun j hj => by
        rw [← hm]
        by_cases c : j = k
        · subst c
          exact ⟨s, by rw [gR_sI, gR_sRs], c2⟩
        · obtain ⟨s', d1, d2⟩ := y6 j (by omega)
          exact ⟨s', by rw [gR_sI, gR_sRn (by omega)]; exact d1, d2⟩
      have mv : cVd e i da m dl (dsOf (G.take k)).flatten := by
        obtain ⟨a1, a2, a3⟩ := y7
        rw [← hm]
        refine ⟨by rw [gI_sIn (by omega)]; exact a1, fun j hj => ?_, by rw [gI_sIn (by omega)]; exact a3⟩
        rw [gR_sI, gR_sRn (by omega)]
        exact a2 j hj
      clear hm
      have kσm : Kp (wVw e i) σ m := Kp.tr y1 km (fun _ _ _ _ h => h)
      have hFm := hF.kp kσm (wVw_f hi)
      have hDm := hD.kp kσm hN (wVw_h hi) (by unfold wVw; omega) (fun k => by unfold wVw; omega) (fun j hj h => by have := (hD.d hj).1.1; unfold wVw at h; omega)
      have c2m := c2.kp kσm (wVw_h hi)
      have c2m' := c2m
      obtain ⟨q, v, w, s1, s2, s3, -⟩ := c2m'
      rw [ldR_ok s1.t, s3]
      simp only [Option.bind_some]
      rw [chk_ok (hFm.vt hi).1]
      simp only [Option.bind_some]
      obtain ⟨Y2, e2, k2, n2, u2, v2⟩ := Vi_takeDocuments_ok hi hFm hDm c2m hxk mv htk s3
      rw [e2]
      have hY2 : gN m = gN σ := by omega
      refine ⟨Y2, rfl, Kp.tr kσm k2 (fun t a k _ h => wVd_V t a k h), by omega, by omega, ?_, ?_, fun j hj => ?_, by rw [flat_take hk]; exact v2⟩
      · rw [k2.B (by omega) (by unfold wVd; omega)]; exact m0
      · rw [k2.I (by omega) (by unfold wVd; omega)]; exact m2
      · rw [k2.R (by omega) (by unfold wVd; omega)]; exact mr j hj
    · obtain ⟨y1, y2, y3, y4, y5, y6, y7⟩ := hI
      rw [List.take_length] at y7
      refine ⟨Y, ?_, y1, y2, y3, y4, y5, y6, y7⟩
      unfold Vi_take_l22
      simp (disch := omega) only [nl, nI_add, nI_mul, iSub, iEq, iLe, iLt, iEqN, iNEq, iNN, iLtN, iNLt, iLeN, iNLe, iAddN, iNAdd, iMin, iMax, iDiv, iRem]
      rw [if_pos (by omega)]
  rw [show (0 : Int32) = nI 0 from rfl, hz]
  refine ⟨z, rfl, z1, z2, z3, z4, fun _ => ⟨?_, ?_, fun k hk => ?_, z7.1, ?_, fun k hk => ?_, ?_⟩⟩
  · rw [z5]
    show _ = nI (dsOf G).length
    unfold dsOf
    rw [List.length_map]
  · show (dsOf G).length ≤ 16
    unfold dsOf
    rw [List.length_map]
    omega
  · have hk : k < G.length := by
      have : k < (dsOf G).length := hk
      unfold dsOf at this
      rwa [List.length_map] at this
    obtain ⟨s, c1, c2⟩ := z6 k hk
    refine ⟨s, (gA G k).1, c1, ?_⟩
    have e1 : (vSegs (vwS G dl)).getD k [] = (gA G k).2 := by
      show (dsOf G).getD k [] = _
      unfold dsOf gA
      rw [List.getD_eq_getElem?_getD, List.getElem?_map, List.getD_eq_getElem?_getD, List.getElem?_eq_getElem hk]
      rfl
    rw [e1]
    exact c2.kp z1 (wVw_h hi)
  · show (dsOf G).flatten.length ≤ 400
    rw [flat_len]
    exact ht
  · obtain ⟨a1, a2⟩ := z7.2.1 k hk
    refine ⟨a1, ?_⟩
    rw [a2]
    exact (vwS_dead hk).symm
  · rw [z7.2.2]
    congr 1
    exact cN_congr _ (fun k hk => by rw [vwS_dead hk])
/-- the first view that is not open -/
def opS (V : Nat → VwT) : Nat := run (fun i => (V i).1) 4 0
theorem E_open_ok {e : Nat} {da : Nat → Nat} {σ : Mem} {tp : Nat → Nat} {n : Nat} {D : List DocT} {dl : Nat → Bool} {bs : Nat} {G : List SegT} {V : Nat → VwT} {A : AnT} {nr : Option (List Nat)} {mg : Nat} {st sp : Bool} (h : cH e da σ tp n D dl bs G V A nr mg st sp) (ok : okG D bs G mg) : ∃ σ', E_open σ e = some ((if opS V < 4 then nI (opS V) else -3), σ') ∧ Kp (fun t a k => opS V < 4 ∧ wVw e (opS V) t a k) σ σ' ∧ gN σ' = gN σ ∧ gU σ' = gU σ ∧ cH e da σ' tp n D dl bs G (if opS V < 4 then vSet V (opS V) (vwS G dl) else V) A nr mg st sp := by
  have h0 := h
  obtain ⟨hF, hT, hD, hb, hG, hV, hA, hn, hm⟩ := h
  obtain ⟨o1, o2, o3, o4, o5, o6, o7, o8⟩ := ok
  have hN := hF.N
  have t0 := iFix0 hF
  obtain ⟨t7, t7'⟩ := iFix hF 7 106 4 (by decide) rfl
  have hr := run_ge (fun i => (V i).1) 4 0
  have hlp : lp (fun q : Int32 => E_open_l2 σ e q) (nI 0) = some (if opS V < 4 then .inl (nI (opS V)) else .inr ()) := by
    refine lp_run (p := fun i => (V i).1) 4 0 (fun i h1 h2 h3 => ?_) ?_
    · have tv := (hF.vt (show i < 4 by omega)).1
      unfold E_open_l2
      simp (disch := first | assumption | omega | (simp only [gT_sI, gT_sL, gT_sR, gT_sB]; first | assumption | omega)) only [Option.bind_some, ldI_ok, ldL_ok, ldR_ok, ldB_ok, stI_ok, stL_ok, stR_ok, stB_ok, chk_ok, raI_k, raL_k, raR_k, raB_k, waI_k, waL_k, waB_k, waR_k, alen_k, gT_sI, gT_sL, gT_sR, gT_sB, gN_sI, gN_sL, gN_sR, gN_sB, gI_sL, gI_sR, gI_sB, gL_sI, gL_sR, gL_sB, gR_sI, gR_sL, gR_sB, gB_sI, gB_sL, gB_sR, gI_sIs, gL_sLs, gR_sRs, gB_sBs, gI_sIn, gL_sLn, gR_sRn, gB_sBn, rdI_ok, rdL_ok, rdB_ok, wrI_ok, wrL_ok, wrB_ok, nl, nI_add, nI_mul, iSub, iEq, iLe, iLt, iEqN, iNEq, iNN, iLtN, iNLt, iLeN, iNLe, iAddN, iNAdd, iMin, iMax, iDiv, iRem, hF.vw, (hF.va (show i < 4 by omega)).1, (hV i (by omega)).1]
      rw [if_neg (by omega), if_pos h3]
    · show E_open_l2 σ e (nI (opS V)) = _
      by_cases c : opS V < 4
      · have ho := run_out (fun i => (V i).1) 4 0 (by unfold opS at c; omega)
        have ho : (V (opS V)).1 = false := ho
        generalize opS V = r at *
        rw [if_pos c]
        have tv := (hF.vt c).1
        unfold E_open_l2
        simp (disch := first | assumption | omega | (simp only [gT_sI, gT_sL, gT_sR, gT_sB]; first | assumption | omega)) only [Option.bind_some, ldI_ok, ldL_ok, ldR_ok, ldB_ok, stI_ok, stL_ok, stR_ok, stB_ok, chk_ok, raI_k, raL_k, raR_k, raB_k, waI_k, waL_k, waB_k, waR_k, alen_k, gT_sI, gT_sL, gT_sR, gT_sB, gN_sI, gN_sL, gN_sR, gN_sB, gI_sL, gI_sR, gI_sB, gL_sI, gL_sR, gL_sB, gR_sI, gR_sL, gR_sB, gB_sI, gB_sL, gB_sR, gI_sIs, gL_sLs, gR_sRs, gB_sBs, gI_sIn, gL_sLn, gR_sRn, gB_sBn, rdI_ok, rdL_ok, rdB_ok, wrI_ok, wrL_ok, wrB_ok, nl, nI_add, nI_mul, iSub, iEq, iLe, iLt, iEqN, iNEq, iNN, iLtN, iNLt, iLeN, iNLe, iAddN, iNAdd, iMin, iMax, iDiv, iRem, hF.vw, (hF.va c).1, (hV r c).1, ho]
        rw [if_neg (by omega)]
        simp
      · have : opS V = 4 := by unfold opS at *; omega
        rw [if_neg c, this]
        unfold E_open_l2
        simp (disch := omega) only [nl, nI_add, nI_mul, iSub, iEq, iLe, iLt, iEqN, iNEq, iNN, iLtN, iNLt, iLeN, iNLe, iAddN, iNAdd, iMin, iMax, iDiv, iRem]
        rw [if_pos (by omega)]
  unfold E_open
  rw [show (0 : Int32) = nI 0 from rfl, hlp]
  by_cases c : opS V < 4
  · rw [if_pos c, if_pos c, if_pos c]
    have tv := (hF.vt c).1
    have r6 : gR σ e 6 = some (e + 5) := hF.2.1.2.2.2.1
    obtain ⟨σ', e1, k1, n1, u1, v1⟩ := Vi_take_ok c hF hD hG o5 (by omega)
    simp only [Option.bind_some, se_l]
    simp (disch := first | assumption | omega | (simp only [gT_sI, gT_sL, gT_sR, gT_sB]; first | assumption | omega)) only [Option.bind_some, ldI_ok, ldL_ok, ldR_ok, ldB_ok, stI_ok, stL_ok, stR_ok, stB_ok, chk_ok, raI_k, raL_k, raR_k, raB_k, waI_k, waL_k, waB_k, waR_k, alen_k, gT_sI, gT_sL, gT_sR, gT_sB, gN_sI, gN_sL, gN_sR, gN_sB, gI_sL, gI_sR, gI_sB, gL_sI, gL_sR, gL_sB, gR_sI, gR_sL, gR_sB, gB_sI, gB_sL, gB_sR, gI_sIs, gL_sLs, gR_sRs, gB_sBs, gI_sIn, gL_sLn, gR_sRn, gB_sBn, rdI_ok, rdL_ok, rdB_ok, wrI_ok, wrL_ok, wrB_ok, hF.vw, (hF.va c).1, r6, hG.1, e1]
    refine ⟨σ', rfl, k1.mono (fun t a k _ q => ⟨c, q⟩), n1, u1, hF.kp k1 (wVw_f c), hT.kp k1 hN (by unfold wVw; omega) (fun k => by unfold wVw; omega), hD.kp k1 hN (wVw_h c) (by unfold wVw; omega) (fun k => by unfold wVw; omega) (fun j hj h => by have := (hD.d hj).1.1; unfold wVw at h; omega), ?_, hG.kp k1 hN (wVw_h c) (by unfold wVw; omega) (fun k => by unfold wVw; omega), fun j hj => ?_, hA.kp k1 hN (by unfold wVw; omega) (fun t c k _ _ => by unfold wVw; omega), hn.kp k1 hN (by unfold wVw; omega), ?_⟩
    · rw [k1.I (by omega) (by unfold wVw; omega)]; exact hb
    · unfold vSet
      by_cases q : j = opS V
      · rw [if_pos q, q]; exact v1
      · rw [if_neg q]
        exact (hV j hj).kp k1 hN (wVw_h c) hj (fun t c k _ _ => by unfold wVw; omega)
    · rw [k1.I (by omega) (by unfold wVw; omega)]; exact hm
  · rw [if_neg c, if_neg c, if_neg c]
    exact ⟨σ, rfl, Kp.rf, rfl, rfl, h0⟩
