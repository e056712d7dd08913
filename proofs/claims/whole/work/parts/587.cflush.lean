/-! THE CLASS: merge and flush -/
/-- segments' references, without their number -/
def sgR (e : Nat) (da : Nat → Nat) (σ τ : Mem) (D : List DocT) (G : List SegT) (n : Nat) : Prop := ∀ k, k < n → ∃ s, gR τ (e + 5) k = some s ∧ isSeg (e + 401) σ da D s (gA G k)
theorem E_removeSegment_ok {e : Nat} {da : Nat → Nat} {σ : Mem} {D : List DocT} {dl : Nat → Bool} {st sp : Bool} {K : List SegT} {p : Nat} (h : cFD e da σ D dl st sp) (hl : gI σ e 7 = nI K.length) (hn : K.length ≤ 16) (hK : sgR e da σ σ D K K.length) (hp : p < K.length) : ∃ σ', E_removeSegment σ e (nI p) = some σ' ∧ Kp (wF e) σ σ' ∧ gN σ' = gN σ ∧ gU σ' = gU σ ∧ gI σ' e 7 = nI (K.length - 1) ∧ gI σ' e 5 = gI σ e 5 ∧ gI σ' e 8 = gI σ e 8 ∧ sgR e da σ σ' D (K.eraseIdx p) (K.length - 1) := by
  have t0 := iFix0 h.1
  obtain ⟨t5, t5'⟩ := iFix h.1 5 105 16 (by decide) rfl
  have r : gR σ e 6 = some (e + 5) := h.1.2.1.2.2.2.1
  have hN := h.1.N
  have hea : ∀ k, gA (K.eraseIdx p) k = if k < p then gA K k else gA K (k + 1) := fun k => by
    unfold gA
    rw [List.getD_eq_getElem?_getD, List.getElem?_eraseIdx]
    split <;> rw [List.getD_eq_getElem?_getD]
  obtain ⟨z, hz, z1, z2, z3, z4⟩ : ∃ z, lp (fun q : Int32 × Mem => E_removeSegment_l2 q.2 e q.1) (nI p, σ) = some z ∧ (Kp (fun t a _ => t = 2 ∧ a = e + 5) σ z ∧ gN z = gN σ ∧ gU z = gU σ ∧ sgR e da σ z D (K.eraseIdx p) (K.length - 1)) := by
    have := lp_for (f := fun q : Int32 × Mem => E_removeSegment_l2 q.2 e q.1) (fun i (Y : Mem) => (nI (p + i), Y)) (K.length - 1 - p) (fun i Y => Kp (fun t a _ => t = 2 ∧ a = e + 5) σ Y ∧ gN Y = gN σ ∧ gU Y = gU σ ∧ sgR e da σ Y D (K.eraseIdx p) (p + i) ∧ ∀ k, p + i ≤ k → k < K.length → ∃ s, gR Y (e + 5) k = some s ∧ isSeg (e + 401) σ da D s (gA K k)) (fun z => Kp (fun t a _ => t = 2 ∧ a = e + 5) σ z ∧ gN z = gN σ ∧ gU z = gU σ ∧ sgR e da σ z D (K.eraseIdx p) (K.length - 1)) (fun i Y hi hI => ?_) (fun Y hI => ?_) (K.length - 1 - p) 0 σ (by omega) ⟨Kp.rf, rfl, rfl, fun k hk => ?_, fun k h1 h2 => hK k h2⟩
    · exact this
    · left
      obtain ⟨y1, y2, y3, y4, y5⟩ := hI
      have t0Y : (gT Y e).1 = 11 := by rw [y1.T (by omega)]; exact t0
      have t5Y : (gT Y (e + 5)).1 = 100 + 5 := by rw [y1.T (by omega)]; exact t5
      have t5Y' : (gT Y (e + 5)).2 = 16 := by rw [y1.T (by omega)]; exact t5'
      have rY : gR Y e 6 = some (e + 5) := by rw [y1.R (by omega) (by omega)]; exact r
      have lY : gI Y e 7 = nI K.length := by rw [y1.I (by omega) (by omega)]; exact hl
      obtain ⟨s, c1, c2⟩ := y5 (p + i + 1) (by omega) (by omega)
      have ts : (gT Y s).1 = 6 := by rw [y1.T c2.choose_spec.choose_spec.choose_spec.1.2.1]; exact c2.choose_spec.choose_spec.choose_spec.1.t
      unfold E_removeSegment_l2
      simp (disch := first | assumption | omega | (simp only [gT_sI, gT_sL, gT_sR, gT_sB]; first | assumption | omega)) only [Option.bind_some, ldI_ok, ldL_ok, ldR_ok, ldB_ok, stI_ok, stL_ok, stR_ok, stB_ok, chk_ok, raI_k, raL_k, raR_k, raB_k, waI_k, waL_k, waB_k, waR_k, alen_k, gT_sI, gT_sL, gT_sR, gT_sB, gN_sI, gN_sL, gN_sR, gN_sB, gI_sL, gI_sR, gI_sB, gL_sI, gL_sR, gL_sB, gR_sI, gR_sL, gR_sB, gB_sI, gB_sL, gB_sR, gI_sIs, gL_sLs, gR_sRs, gB_sBs, gI_sIn, gL_sLn, gR_sRn, gB_sBn, rdI_ok, rdL_ok, rdB_ok, wrI_ok, wrL_ok, wrB_ok, nl, nI_add, nI_mul, iSub, iEq, iLe, iLt, iEqN, iNEq, iNN, iLtN, iNLt, iLeN, iNLe, iAddN, iNAdd, iMin, iMax, iDiv, iRem, lY, rY, c1]
      rw [if_neg (by omega), if_neg (by omega), if_neg (by omega)]
      refine ⟨_, rfl, Kp.tr y1 (Kp.sR (W := fun t a _ => t = 2 ∧ a = e + 5) ⟨rfl, rfl⟩) (fun _ _ _ _ q => q), y2, y3, fun k hk => ?_, fun k h1 h2 => ?_⟩
      · by_cases q : k = p + i
        · subst q
          exact ⟨s, gR_sRs _ _ _ _, by rw [hea, if_neg (by omega)]; exact c2⟩
        · obtain ⟨s', d1, d2⟩ := y4 k (by omega)
          exact ⟨s', by rw [gR_sRn (by omega)]; exact d1, d2⟩
      · obtain ⟨s', d1, d2⟩ := y5 k (by omega) h2
        exact ⟨s', by rw [gR_sRn (by omega)]; exact d1, d2⟩
    · obtain ⟨y1, y2, y3, y4, y5⟩ := hI
      have t0Y : (gT Y e).1 = 11 := by rw [y1.T (by omega)]; exact t0
      have lY : gI Y e 7 = nI K.length := by rw [y1.I (by omega) (by omega)]; exact hl
      refine ⟨Y, ?_, y1, y2, y3, fun k hk => y4 k (by omega)⟩
      unfold E_removeSegment_l2
      simp (disch := first | assumption | omega | (simp only [gT_sI, gT_sL, gT_sR, gT_sB]; first | assumption | omega)) only [Option.bind_some, ldI_ok, ldL_ok, ldR_ok, ldB_ok, stI_ok, stL_ok, stR_ok, stB_ok, chk_ok, raI_k, raL_k, raR_k, raB_k, waI_k, waL_k, waB_k, waR_k, alen_k, gT_sI, gT_sL, gT_sR, gT_sB, gN_sI, gN_sL, gN_sR, gN_sB, gI_sL, gI_sR, gI_sB, gL_sI, gL_sR, gL_sB, gR_sI, gR_sL, gR_sB, gB_sI, gB_sL, gB_sR, gI_sIs, gL_sLs, gR_sRs, gB_sBs, gI_sIn, gL_sLn, gR_sRn, gB_sBn, rdI_ok, rdL_ok, rdB_ok, wrI_ok, wrL_ok, wrB_ok, nl, nI_add, nI_mul, iSub, iEq, iLe, iLt, iEqN, iNEq, iNN, iLtN, iNLt, iLeN, iNLe, iAddN, iNAdd, iMin, iMax, iDiv, iRem, lY]
      rw [if_neg (by omega), if_pos (by omega)]
    · obtain ⟨s, d1, d2⟩ := hK k (by omega)
      exact ⟨s, d1, by rw [hea, if_pos (by omega)]; exact d2⟩
  have t0z : (gT z e).1 = 11 := by rw [z1.T (by omega)]; exact t0
  have lz : gI z e 7 = nI K.length := by rw [z1.I (by omega) (by omega)]; exact hl
  unfold E_removeSegment
  rw [hz]
  simp (disch := first | assumption | omega | (simp only [gT_sI, gT_sL, gT_sR, gT_sB]; first | assumption | omega)) only [Option.bind_some, ldI_ok, ldL_ok, ldR_ok, ldB_ok, stI_ok, stL_ok, stR_ok, stB_ok, chk_ok, raI_k, raL_k, raR_k, raB_k, waI_k, waL_k, waB_k, waR_k, alen_k, gT_sI, gT_sL, gT_sR, gT_sB, gN_sI, gN_sL, gN_sR, gN_sB, gI_sL, gI_sR, gI_sB, gL_sI, gL_sR, gL_sB, gR_sI, gR_sL, gR_sB, gB_sI, gB_sL, gB_sR, gI_sIs, gL_sLs, gR_sRs, gB_sBs, gI_sIn, gL_sLn, gR_sRn, gB_sBn, rdI_ok, rdL_ok, rdB_ok, wrI_ok, wrL_ok, wrB_ok, lz]
  simp (disch := omega) only [nl, nI_add, nI_mul, iSub, iEq, iLe, iLt, iEqN, iNEq, iNN, iLtN, iNLt, iLeN, iNLe, iAddN, iNAdd, iMin, iMax, iDiv, iRem]
  rw [show max 0 (K.length - 1) = K.length - 1 by omega]
  refine ⟨_, rfl, Kp.tr (z1.mono (fun t a k _ q => by unfold wF; omega)) (Kp.sI (W := wF e) (by unfold wF; omega)) (fun _ _ _ _ q => q), z2, z3, gI_sIs _ _ _ _, ?_, ?_, fun k hk => z4 k hk⟩
  · rw [gI_sIn (by omega), z1.I (by omega) (by omega)]
  · rw [gI_sIn (by omega), z1.I (by omega) (by omega)]
theorem E_mergeFirst_ok {e : Nat} {da : Nat → Nat} {σ : Mem} {D : List DocT} {dl : Nat → Bool} {st sp : Bool} {G : List SegT} {l mg : Nat} (h : cFD e da σ D dl st sp) (hG : cSegs e da σ D G) (hm : gI σ e 8 = nI mg) (hl4 : 4 ≤ lvc G l G.length) (hlv : ∀ s, s ∈ G → s.1 < 100) (hds : ∀ s, s ∈ G → ∀ d, d ∈ s.2 → d < D.length) (htot : tot G ≤ 64) (hlen : ∀ i f, i < D.length → f < 2 → (dTok (dA D i) f).length ≤ 50 + 150 * f) (hmg : mg < 1000) (hl : l < 100) : ∃ σ', E_mergeFirst σ e (nI l) = some σ' ∧ Kp (wF e) σ σ' ∧ gN σ' ≤ gN σ + 10 ∧ gU σ' ≤ gU σ + 48072 ∧ cSegs e da σ' D (mgS dl l G) ∧ gI σ' e 8 = nI (mg + 1) ∧ gI σ' e 5 = gI σ e 5 := by
  have t0 := iFix0 h.1
  obtain ⟨t5, t5'⟩ := iFix h.1 5 105 16 (by decide) rfl
  have r : gR σ e 6 = some (e + 5) := h.1.2.1.2.2.2.1
  have hN := h.1.N
  have h16 := hG.2.1
  have hM := fun i hi => mgI_ok dl l G i hi
  have hgl : ∀ i, i ≤ G.length → (mgI dl l G i).2.2.2.length ≤ 64 := fun i hi => by
    have h8 := (hM i hi).2.2.2.2.2.2.2
    have h4 := (hM i hi).2.2.2.1
    have h9 : tot (G.take i) ≤ tot G := by
      have : tot G = tot (G.take i) + tot (G.drop i) := by
        unfold tot
        rw [← sm_app, List.take_append_drop]
      omega
    by_cases c : (mgI dl l G i).1 = 0
    · rw [if_pos c] at h8; omega
    · rw [if_neg c] at h8
      have := sm_mem (fun s => s.2.length) _ _ (gA_mem (h4 c).1)
      unfold tot at *
      have this : (gA (mgI dl l G i).2.1 (mgI dl l G i).2.2.1).2.length ≤ sm (fun s => s.2.length) (mgI dl l G i).2.1 := this
      omega
  have k1 : Kp (wM e) σ (sI σ e 10 0) := Kp.sI (Or.inl ⟨rfl, rfl, rfl⟩)
  obtain ⟨z, hz, z1, z2, z3, z4, z5, z6, z7⟩ : ∃ z, lp (fun q : Int32 × Int32 × Int32 × Int32 × Mem => E_mergeFirst_l15 q.2.2.2.2 e (nI l) q.1 q.2.1 q.2.2.1 q.2.2.2.1) (nI 0, nI 0, nI 0, nI 0, sI σ e 10 0) = some z ∧ (z.1 = nI (mgI dl l G G.length).2.2.1 ∧ z.2.1 = nI (mgI dl l G G.length).2.1.length ∧ Kp (wM e) σ z.2.2 ∧ gN z.2.2 = gN σ ∧ gU z.2.2 = gU σ ∧ cGat e da z.2.2 (mgI dl l G G.length).2.2.2 ∧ sgR e da σ z.2.2 D (mgI dl l G G.length).2.1 (mgI dl l G G.length).2.1.length) := by
    have := lp_for (f := fun q : Int32 × Int32 × Int32 × Int32 × Mem => E_mergeFirst_l15 q.2.2.2.2 e (nI l) q.1 q.2.1 q.2.2.1 q.2.2.2.1) (fun i (Y : Mem) => (nI (mgI dl l G i).1, nI (mgI dl l G i).2.2.1, nI (mgI dl l G i).2.1.length, nI i, Y)) G.length (fun i Y => Kp (wM e) σ Y ∧ gN Y = gN σ ∧ gU Y = gU σ ∧ cGat e da Y (mgI dl l G i).2.2.2 ∧ sgR e da σ Y D (mgI dl l G i).2.1 (mgI dl l G i).2.1.length ∧ ∀ k, i ≤ k → k < G.length → ∃ s, gR Y (e + 5) k = some s ∧ isSeg (e + 401) σ da D s (gA G k)) (fun z => z.1 = nI (mgI dl l G G.length).2.2.1 ∧ z.2.1 = nI (mgI dl l G G.length).2.1.length ∧ Kp (wM e) σ z.2.2 ∧ gN z.2.2 = gN σ ∧ gU z.2.2 = gU σ ∧ cGat e da z.2.2 (mgI dl l G G.length).2.2.2 ∧ sgR e da σ z.2.2 D (mgI dl l G G.length).2.1 (mgI dl l G G.length).2.1.length) (fun i Y hi hI => ?_) (fun Y hI => ?_) G.length 0 (sI σ e 10 0) (by omega) ⟨k1, rfl, rfl, ⟨gI_sIs _ _ _ _, fun k hk => absurd hk (by simp [mgI])⟩, fun k hk => absurd hk (by simp [mgI]), fun k _ hk => hG.2.2 k hk⟩
    · exact this
    · left
      obtain ⟨y1, y2, y3, y4, y5, y6⟩ := hI
      have kF : Kp (wF e) σ Y := y1.mono (fun t a k _ q => wM_F t a k q)
      have hY := h.kp kF
      have t0Y := iFix0 hY.1
      obtain ⟨t5Y, t5Y'⟩ := iFix hY.1 5 105 16 (by decide) rfl
      have rY : gR Y e 6 = some (e + 5) := hY.1.2.1.2.2.2.1
      have lY : gI Y e 7 = nI G.length := by rw [y1.I (by omega) (by unfold wM; omega)]; exact hG.1
      obtain ⟨s, c1, c2⟩ := y6 i (Nat.le_refl _) hi
      have c2Y := c2.kp kF wF_h
      have c2Y' := c2Y
      obtain ⟨q, v, w, s1, s2, -⟩ := c2Y'
      have ts := s1.t
      obtain ⟨b1, b2, b3, b4, b5, b6, -, -⟩ := hM i (by omega)
      have hgi := hgl (i + 1) (by omega)
      have hgi0 := hgl i (by omega)
      have hlvi := hlv _ (gA_mem hi)
      have est : mgI dl l G (i + 1) = mgStep dl l (mgI dl l G i) (gA G i) := rfl
      rw [est] at hgi ⊢
      generalize mgI dl l G i = M at *
      obtain ⟨m, K, p, g⟩ := M
      simp only at b1 b2 b3 b4 b5 b6 y4 y5 hgi0 ⊢
      have hKi : K.length ≤ i := by
        by_cases q : m = 0
        · rw [if_pos q] at b2; omega
        · rw [if_neg q] at b2; omega
      unfold E_mergeFirst_l15
      rw [ldI_ok t0Y, lY]
      simp only [Option.bind_some, iLe (show G.length < 2147483648 by omega) (show i < 2147483648 by omega)]
      rw [if_neg (by omega), chk_ok t0Y]
      simp only [Option.bind_some]
      rw [E_segmentAt_ok hY.1 lY h16 hi c1]
      simp only [Option.bind_some]
      simp only [reduceCtorEq, if_false]
      rw [ldI_ok ts, s2]
      simp only [Option.bind_some, iEq (show (gA G i).1 < 2147483648 by omega) (show l < 2147483648 by omega)]
      have hother : ¬ ((gA G i).1 = l ∧ m < 4) → ∃ s', (((jn (some (.inr ())) (fun _ : Unit => (ldR Y 11 6 (some e)).bind fun v17 => (waR Y 5 6 v17 (nI K.length) (some s)).bind fun m18 => some (nI m, nI p, nI K.length + 1, m18))) : Option (Int32 × Int32 × Int32 × Mem)).bind fun q6 => (some (Sum.inl (q6.1, q6.2.1, q6.2.2.1, nI i + 1, q6.2.2.2)) : Option ((Int32 × Int32 × Int32 × Int32 × Mem) ⊕ (Int32 × Int32 × Mem)))) = some (Sum.inl (nI (mgStep dl l (m, K, p, g) (gA G i)).1, nI (mgStep dl l (m, K, p, g) (gA G i)).2.2.1, nI (mgStep dl l (m, K, p, g) (gA G i)).2.1.length, nI (i + 1), s')) ∧ Kp (wM e) σ s' ∧ gN s' = gN σ ∧ gU s' = gU σ ∧ cGat e da s' (mgStep dl l (m, K, p, g) (gA G i)).2.2.2 ∧ sgR e da σ s' D (mgStep dl l (m, K, p, g) (gA G i)).2.1 (mgStep dl l (m, K, p, g) (gA G i)).2.1.length ∧ ∀ k, i + 1 ≤ k → k < G.length → ∃ s, gR s' (e + 5) k = some s ∧ isSeg (e + 401) σ da D s (gA G k) := fun c => by
        have e1 : mgStep dl l (m, K, p, g) (gA G i) = (m, K ++ [gA G i], p, g) := by
          unfold mgStep
          simp only
          rw [if_neg c]
        rw [e1]
        simp only [jn_r]
        simp (disch := first | assumption | omega | (simp only [gT_sI, gT_sL, gT_sR, gT_sB]; first | assumption | omega)) only [Option.bind_some, ldI_ok, ldL_ok, ldR_ok, ldB_ok, stI_ok, stL_ok, stR_ok, stB_ok, chk_ok, raI_k, raL_k, raR_k, raB_k, waI_k, waL_k, waB_k, waR_k, alen_k, gT_sI, gT_sL, gT_sR, gT_sB, gN_sI, gN_sL, gN_sR, gN_sB, gI_sL, gI_sR, gI_sB, gL_sI, gL_sR, gL_sB, gR_sI, gR_sL, gR_sB, gB_sI, gB_sL, gB_sR, gI_sIs, gL_sLs, gR_sRs, gB_sBs, gI_sIn, gL_sLn, gR_sRn, gB_sBn, rdI_ok, rdL_ok, rdB_ok, wrI_ok, wrL_ok, wrB_ok, rY]
        simp only [nl, nI_add, List.length_append, List.length_singleton]
        refine ⟨_, rfl, Kp.tr y1 (Kp.sR (W := wM e) (Or.inr ⟨rfl, Or.inl rfl⟩)) (fun _ _ _ _ q => q), y2, y3, ⟨y4.1, fun k hk => ?_⟩, fun k hk => ?_, fun k h1 h2 => ?_⟩
        · rw [gR_sRn (by omega)]; exact y4.2 k hk
        · by_cases q : k = K.length
          · subst q
            exact ⟨s, gR_sRs _ _ _ _, by rw [gA_app, if_neg (by omega), if_pos rfl]; exact c2⟩
          · obtain ⟨s', d1, d2⟩ := y5 k (by omega)
            exact ⟨s', by rw [gR_sRn (by omega)]; exact d1, by rw [gA_app, if_pos (by omega)]; exact d2⟩
        · obtain ⟨s', d1, d2⟩ := y6 k (by omega) h2
          exact ⟨s', by rw [gR_sRn (by omega)]; exact d1, d2⟩
      by_cases c1' : (gA G i).1 = l
      · rw [if_neg (fun q => q c1')]
        simp only [show (4 : Int32) = nI 4 from rfl, iLe (show 4 < 2147483648 by omega) (show m < 2147483648 by omega)]
        by_cases c2' : m < 4
        · rw [if_neg (by omega)]
          have e1 : mgStep dl l (m, K, p, g) (gA G i) = (m + 1, (if m = 0 then K ++ [gA G i] else K), (if m = 0 then K.length else p), g ++ liv dl (gA G i).2) := by
            unfold mgStep
            simp only
            rw [if_pos ⟨c1', c2'⟩]
          have htl := sm_mem (fun s => s.2.length) G _ (gA_mem hi)
          have htl : (gA G i).2.length ≤ 64 := Nat.le_trans htl htot
          obtain ⟨Y2, e2, k2, n2, u2, g2⟩ := E_gatherAll_ok hY y4 c2Y (hds _ (gA_mem hi)) (by omega)
          rw [e2]
          rw [e1]
          have e0 : (nI m = 0) = (m = 0) := iEq (b := 0) (by omega) (by omega)
          simp only [e0]
          have k2R : ∀ k, gR Y2 (e + 5) k = gR Y (e + 5) k := fun k => k2.R (by omega) (by unfold wG; omega)
          refine ⟨Y2, ?_, Kp.tr y1 k2 (fun t a k _ q => wG_M t a k q), by omega, by omega, g2, fun k hk => ?_, fun k h1 h2 => ?_⟩
          · by_cases q : m = 0
            · subst q
              simp only [not_true_eq_false, if_false, if_true, Option.bind_some, jn_l, nl, nI_add, List.length_append, List.length_singleton]
            · simp only [q, not_false_eq_true, if_false, if_true, Option.bind_some, jn_l, nl, nI_add]
          · rw [k2R]
            by_cases q : m = 0
            · simp only [q, if_true, List.length_append, List.length_singleton] at hk ⊢
              rw [gA_app]
              by_cases z : k < K.length
              · rw [if_pos z]; exact y5 k z
              · rw [if_neg z, if_pos (by omega)]
                have : k = i := by rw [if_pos q] at b2; omega
                rw [this]
                exact ⟨s, c1, c2⟩
            · simp only [q, if_false] at hk ⊢
              exact y5 k hk
          · rw [k2R]
            exact y6 k (by omega) h2
        · rw [if_pos (by omega)]
          exact hother (fun q => c2' q.2)
      · rw [if_pos c1']
        exact hother (fun q => c1' q.1)
    · obtain ⟨y1, y2, y3, y4, y5, y6⟩ := hI
      have kF : Kp (wF e) σ Y := y1.mono (fun t a k _ q => wM_F t a k q)
      have t0Y := iFix0 (h.kp kF).1
      have lY : gI Y e 7 = nI G.length := by rw [y1.I (by omega) (by unfold wM; omega)]; exact hG.1
      refine ⟨(nI (mgI dl l G G.length).2.2.1, nI (mgI dl l G G.length).2.1.length, Y), ?_, rfl, rfl, y1, y2, y3, y4, y5⟩
      unfold E_mergeFirst_l15
      rw [ldI_ok t0Y, lY]
      simp only [Option.bind_some, iLe (show G.length < 2147483648 by omega) (show G.length < 2147483648 by omega)]
      rw [if_pos (Nat.le_refl _)]
  obtain ⟨b1, b2, b3, b4, b5, b6, -, -⟩ := hM G.length (Nat.le_refl _)
  have hgl' := hgl G.length (Nat.le_refl _)
  have hfin := mgS_ok dl hl4
  unfold mgS at hfin ⊢
  generalize mgI dl l G G.length = M at *
  obtain ⟨m, K, p, g⟩ := M
  simp only at b1 b2 b3 b4 b5 b6 z1 z2 z6 z7 hgl' hfin ⊢
  have m4 : m = 4 := by omega
  obtain ⟨b7, b8⟩ := b4 (by omega)
  rw [if_neg (by omega)] at b2
  obtain ⟨z1v, z2v, Z⟩ := z
  simp only at z1 z2 z3 z4 z5 z6 z7
  subst z1 z2
  have kZ : Kp (wF e) σ Z := z3.mono (fun t a k _ q => wM_F t a k q)
  have t0Z : (gT Z e).1 = 11 := iFix0 (h.kp kZ).1
  have mZ : gI Z e 8 = nI mg := by rw [z3.I (by omega) (by unfold wM; omega)]; exact hm
  have bZ : gI Z e 5 = gI σ e 5 := z3.I (by omega) (by unfold wM; omega)
  unfold E_mergeFirst
  rw [stI_ok t0]
  simp only [Option.bind_some]
  rw [show (0 : Int32) = nI 0 from rfl] at hz ⊢
  rw [hz]
  simp only [Option.bind_some]
  rw [stI_ok t0Z]
  simp only [Option.bind_some]
  rw [ldI_ok (by rw [gT_sI]; exact t0Z), gI_sIn (by omega), mZ]
  simp only [Option.bind_some]
  rw [stI_ok (by rw [gT_sI]; exact t0Z)]
  simp only [Option.bind_some, show (1 : Int32) = nI 1 from rfl, nI_add]
  rw [ldI_ok (by rw [gT_sI, gT_sI]; exact t0Z), gI_sIn (by omega), gI_sIn (by omega), z6.1]
  simp only [Option.bind_some]
  generalize hZ3 : sI (sI Z e 7 (nI K.length)) e 8 (nI (mg + 1)) = Z3
  have k3 : Kp (wF e) σ Z3 := by
    rw [← hZ3]
    refine Kp.tr (W := wF e) ?_ (Kp.sI (W := wF e) (by unfold wF; omega)) (fun _ _ _ _ q => q)
    exact Kp.tr kZ (Kp.sI (W := wF e) (by unfold wF; omega)) (fun _ _ _ _ q => q)
  have n3 : gN Z3 = gN σ := by rw [← hZ3]; exact z4
  have u3 : gU Z3 = gU σ := by rw [← hZ3]; exact z5
  have l3 : gI Z3 e 7 = nI K.length := by rw [← hZ3, gI_sIn (by omega), gI_sIs]
  have m3 : gI Z3 e 8 = nI (mg + 1) := by rw [← hZ3, gI_sIs]
  have b3' : gI Z3 e 5 = gI σ e 5 := by rw [← hZ3, gI_sIn (by omega), gI_sIn (by omega)]; exact bZ
  have g3 : gI Z3 e 10 = nI g.length := by rw [← hZ3, gI_sIn (by omega), gI_sIn (by omega)]; exact z6.1
  have g3' : ∀ k, k < g.length → gR Z3 (e + 6) k = some (da (g.getD k 0)) := fun k hk => by rw [← hZ3]; exact z6.2 k hk
  have s3 : sgR e da σ Z3 D K K.length := fun k hk => by rw [← hZ3]; exact z7 k hk
  clear hZ3
  have h3 := h.kp k3
  have t03 := iFix0 h3.1
  have hKl : K.length ≤ 16 := by omega
  by_cases hg0 : g = []
  · subst hg0
    rw [if_pos rfl] at hfin ⊢
    rw [if_neg (by simp [nl])]
    rw [chk_ok t03]
    simp only [Option.bind_some]
    obtain ⟨Y, e4, k4, n4, u4, l4, b4', m4', s4⟩ := E_removeSegment_ok h3 l3 hKl (fun k hk => by
      obtain ⟨s, c1, c2⟩ := s3 k hk
      exact ⟨s, c1, c2.kp k3 wF_h⟩) b7
    rw [e4]
    have k34 : Kp (wF e) σ Y := Kp.tr k3 k4 (fun _ _ _ _ q => q)
    refine ⟨Y, rfl, k34, by omega, by omega, ⟨by rw [List.length_eraseIdx, if_pos b7]; exact l4, by omega, fun k hk => ?_⟩, by rw [m4']; exact m3, by rw [b4']; exact b3'⟩
    rw [List.length_eraseIdx, if_pos b7] at hk
    obtain ⟨s, c1, c2⟩ := s4 k hk
    exact ⟨s, c1, c2.kp k4 wF_h⟩
  · rw [if_neg hg0] at hfin ⊢
    have hgp : 0 < g.length := List.length_pos_iff.mpr hg0
    have e0 : (nI g.length = nI 0) = (g.length = 0) := iEq (by omega) (by omega)
    simp only [e0]
    rw [if_pos (by omega)]
    simp only [iLe (show K.length < 2147483648 by omega) (show p < 2147483648 by omega)]
    rw [if_neg (by omega)]
    have r6 : gR Z3 e 6 = some (e + 5) := h3.1.2.1.2.2.2.1
    have r9 : gR Z3 e 9 = some (e + 6) := h3.1.2.1.2.2.2.2.1
    have hN3 := h3.1.N
    rw [ldR_ok t03, r6]
    simp only [Option.bind_some]
    have kn : Kp (fun _ _ _ => False) Z3 (nwO Z3 6) := Kp.nw
    rw [ldR_ok (by rw [kn.T (by omega)]; exact t03), kn.R (by omega) (fun q => q), r9]
    simp only [Option.bind_some]
    rw [ldI_ok (by rw [kn.T (by omega)]; exact t03), kn.I (by omega) (fun q => q), g3]
    simp only [Option.bind_some]
    have tg : gT Z3 (e + 6) = (104, 400) := h3.1.t 6 _ (by decide) rfl
    have hgd : ∀ k, k < g.length → g.getD k 0 < D.length := fun k hk => by
      obtain ⟨s', h1, h2⟩ := b6 _ (getD_mem (d := 0) hk)
      exact hds s' h1 _ h2
    obtain ⟨Y, e4, k4, n4, u4, s4⟩ := Se_init_ok (lo := e + 401) (σ0 := Z3) (g := e + 6) (lv := l + 1) (da := da) (D := D) (ds := g) hN3 tg (by omega) hgl' (fun k hk => ⟨g3' k hk, h3.2.d (hgd k hk), fun f hf => hlen _ f (hgd k hk) hf⟩)
    rw [e4]
    simp only [Option.bind_some]
    have kY : Kp (wF e) σ Y := Kp.tr k3 k4 (fun _ _ _ _ q => q.elim)
    have hY := h.kp kY
    obtain ⟨t5Y, t5Y'⟩ := iFix hY.1 5 105 16 (by decide) rfl
    have ts4 : (gT Y (gN Z3)).1 = 6 := s4.choose_spec.choose_spec.choose_spec.1.t
    rw [waR_k t5Y (by omega) (by omega) ts4]
    have k5 : Kp (fun t a _ => t = 2 ∧ a = e + 5) Y (sR Y (e + 5) p (some (gN Z3))) := Kp.sR ⟨rfl, rfl⟩
    have k5F : Kp (wF e) Y (sR Y (e + 5) p (some (gN Z3))) := k5.mono (fun t a k _ q => by unfold wF; omega)
    have kall : Kp (wF e) σ (sR Y (e + 5) p (some (gN Z3))) := Kp.tr kY k5F (fun _ _ _ _ q => q)
    refine ⟨_, rfl, kall, by rw [gN_sR]; omega, by rw [gU_sR]; omega, ⟨?_, by rw [List.length_set]; omega, fun k hk => ?_⟩, ?_, ?_⟩
    · rw [gI_sR, k4.I (by omega) (fun q => q), List.length_set]
      exact l3
    · rw [List.length_set] at hk
      by_cases q : k = p
      · subst q
        refine ⟨gN Z3, gR_sRs _ _ _ _, ?_⟩
        rw [show gA (K.set k (l + 1, g)) k = (l + 1, g) by
          unfold gA
          rw [List.getD_eq_getElem?_getD, List.getElem?_set_self hk]
          rfl]
        exact s4.kp k5F wF_h
      · obtain ⟨s, c1, c2⟩ := s3 k hk
        refine ⟨s, ?_, ?_⟩
        · rw [gR_sRn (by omega), k4.R (by omega) (fun q => q)]
          exact c1
        · rw [show gA (K.set p (l + 1, g)) k = gA K k by
            unfold gA
            rw [List.getD_eq_getElem?_getD, List.getD_eq_getElem?_getD, List.getElem?_set_ne (by omega)]]
          exact c2.kp kall wF_h
    · rw [gI_sR, k4.I (by omega) (fun q => q)]; exact m3
    · rw [gI_sR, k4.I (by omega) (fun q => q)]; exact b3'
/-- the merges of a flush -/
theorem E_merges_ok {e : Nat} {da : Nat → Nat} {D : List DocT} {dl : Nat → Bool} {st sp : Bool} (hlen : ∀ i f, i < D.length → f < 2 → (dTok (dA D i) f).length ≤ 50 + 150 * f) : ∀ (f r : Nat) (σ : Mem) (G : List SegT) (mg : Nat), r + f ≤ 300 → cFD e da σ D dl st sp → cSegs e da σ D G → gI σ e 8 = nI mg → mass G ≤ 64 → (∀ s, s ∈ G → ∀ d, d ∈ s.2 → d < D.length) → tot G ≤ 64 → mg + f < 900 → G.length < 3 * f + 4 → ∃ σ', lp (fun q : Int32 × Int32 × Mem => E_flush_l99 q.2.2 e q.1 q.2.1) ((if four G < 6 then nI (four G) else -1), nI r, σ) = some σ' ∧ Kp (wF e) σ σ' ∧ gN σ' ≤ gN σ + 10 * ((mgL dl f G mg).2 - mg) ∧ gU σ' ≤ gU σ + 48072 * ((mgL dl f G mg).2 - mg) ∧ cSegs e da σ' D (mgL dl f G mg).1 ∧ gI σ' e 8 = nI (mgL dl f G mg).2 ∧ gI σ' e 5 = gI σ e 5
  | 0, r, σ, G, mg, hr, h, hG, hm, hma, hds, ht, hmg, hf => by
    have h4 := four_le G
    have h6 : ¬ four G < 6 := fun c => by
      have h2 := four_at c
      have h3 := cN_le (fun k => decide ((gA G k).1 = four G)) G.length
      unfold lvc at h2
      omega
    refine ⟨σ, ?_, Kp.rf, by simp [mgL], by simp [mgL], hG, hm, rfl⟩
    rw [if_neg h6]
    refine lp_out ?_
    unfold E_flush_l99
    simp (disch := omega) only [nl, nI_add, nI_mul, iSub, iEq, iLe, iLt, iEqN, iNEq, iNN, iLtN, iNLt, iLeN, iNLe, iAddN, iNAdd, iMin, iMax, iDiv, iRem]
    rw [if_neg (by omega), if_pos (by decide)]
  | f + 1, r, σ, G, mg, hr, h, hG, hm, hma, hds, ht, hmg, hf => by
    have h4 := four_le G
    rw [mgL]
    by_cases c : four G < 6
    · rw [if_pos c, if_pos c]
      have hlv : ∀ s, s ∈ G → s.1 < 100 := fun s hs => by have := lv_le hma hs; omega
      obtain ⟨σ1, e1, k1, n1, u1, g1, m1, b1⟩ := E_mergeFirst_ok h hG hm (four_at c) hlv hds ht hlen (by omega) (by omega)
      obtain ⟨a1, a2, a3, a4⟩ := mgS_ok dl (four_at c)
      have h1 := h.kp k1
      have hds1 : ∀ s, s ∈ mgS dl (four G) G → ∀ d, d ∈ s.2 → d < D.length := fun s hs d hd => by
        obtain ⟨s', q1, q2⟩ := a2 s hs d hd
        exact hds s' q1 d q2
      have hlv1 : ∀ s, s ∈ mgS dl (four G) G → s.1 < 100 := fun s hs => by have := lv_le (Nat.le_trans a3 hma) hs; omega
      obtain ⟨σ2, e2, k2, n2, u2, g2, m2, b2⟩ := E_merges_ok hlen f (r + 1) σ1 (mgS dl (four G) G) (mg + 1) (by omega) h1 g1 m1 (by omega) hds1 (by omega) (by omega) (by omega)
      have hmono := (mgL_ok dl f (mgS dl (four G) G) (mg + 1)).2.2.2.2.1
      refine ⟨σ2, ?_, Kp.tr k1 k2 (fun _ _ _ _ q => q), by omega, by omega, g2, m2, by rw [b2, b1]⟩
      rw [← e2]
      refine lp_on ?_
      unfold E_flush_l99
      have t0 := iFix0 h.1
      have t01 := iFix0 h1.1
      simp (disch := omega) only [nl, nI_add, nI_mul, iSub, iEq, iLe, iLt, iEqN, iNEq, iNN, iLtN, iNLt, iLeN, iNLe, iAddN, iNAdd, iMin, iMax, iDiv, iRem]
      rw [if_neg (by omega), if_neg (by omega), chk_ok t0]
      simp only [Option.bind_some]
      rw [e1]
      simp only [Option.bind_some]
      rw [chk_ok t01]
      simp only [Option.bind_some]
      rw [E_leastFullLevel_ok h1.1 g1 hlv1]
      rfl
    · rw [if_neg c, if_neg c]
      refine ⟨σ, ?_, Kp.rf, by simp, by simp, hG, hm, rfl⟩
      refine lp_out ?_
      unfold E_flush_l99
      simp (disch := omega) only [nl, nI_add, nI_mul, iSub, iEq, iLe, iLt, iEqN, iNEq, iNN, iLtN, iNLt, iLeN, iNLe, iAddN, iNAdd, iMin, iMax, iDiv, iRem]
      rw [if_neg (by omega), if_pos (by decide)]
theorem range'_s (a k : Nat) : List.range' a (k + 1) = List.range' a k ++ [a + k] := by
  rw [List.range'_concat]
  simp
theorem E_flush_ok {e : Nat} {da : Nat → Nat} {σ : Mem} {D : List DocT} {dl : Nat → Bool} {st sp : Bool} {G : List SegT} {bs mg : Nat} (h : cFD e da σ D dl st sp) (hG : cSegs e da σ D G) (hm : gI σ e 8 = nI mg) (hb : gI σ e 5 = nI bs) (hbs : bs ≤ D.length) (hD64 : D.length ≤ 64) (hGl : G.length ≤ 12) (hma : mass G + 1 ≤ 64) (hds : ∀ s, s ∈ G → ∀ d, d ∈ s.2 → d < D.length) (ht : tot G ≤ bs) (hlen : ∀ i f, i < D.length → f < 2 → (dTok (dA D i) f).length ≤ 50 + 150 * f) (hmg : mg < 800) : ∃ σ', E_flush σ e = some σ' ∧ Kp (wF e) σ σ' ∧ gN σ' ≤ gN σ + 10 * (1 + ((flS dl bs D.length G mg).2 - mg)) ∧ gU σ' ≤ gU σ + 48072 * (1 + ((flS dl bs D.length G mg).2 - mg)) ∧ cSegs e da σ' D (flS dl bs D.length G mg).1 ∧ gI σ' e 8 = nI (flS dl bs D.length G mg).2 ∧ gI σ' e 5 = nI D.length := by
  have t0 := iFix0 h.1
  have hN := h.1.N
  have hl := h.2.1
  -- the buffer is gathered
  obtain ⟨σ1, e1, k1, n1, u1, g1⟩ : ∃ z, lp (fun q : Int32 × Mem => E_flush_l10 q.2 e q.1) (nI bs, sI σ e 10 0) = some z ∧ (Kp (wG e) σ z ∧ gN z = gN σ ∧ gU z = gU σ ∧ cGat e da z (bufL dl bs D.length)) := by
    have := lp_for (f := fun q : Int32 × Mem => E_flush_l10 q.2 e q.1) (fun i (Y : Mem) => (nI (bs + i), Y)) (D.length - bs) (fun i Y => Kp (wG e) σ Y ∧ gN Y = gN σ ∧ gU Y = gU σ ∧ cGat e da Y (liv dl (List.range' bs i))) (fun z => Kp (wG e) σ z ∧ gN z = gN σ ∧ gU z = gU σ ∧ cGat e da z (bufL dl bs D.length)) (fun i Y hi hI => ?_) (fun Y hI => ?_) (D.length - bs) 0 (sI σ e 10 0) (by omega) ⟨Kp.sI (Or.inl ⟨rfl, rfl, rfl⟩), rfl, rfl, gI_sIs _ _ _ _, fun k hk => absurd hk (by simp [liv])⟩
    · exact this
    · left
      obtain ⟨y1, y2, y3, y4⟩ := hI
      have hY := h.kp (y1.mono (fun t a k _ q => wM_F t a k (wG_M t a k q)))
      have t0Y := iFix0 hY.1
      unfold E_flush_l10
      simp (disch := first | assumption | omega | (simp only [gT_sI, gT_sL, gT_sR, gT_sB]; first | assumption | omega)) only [Option.bind_some, ldI_ok, ldL_ok, ldR_ok, ldB_ok, stI_ok, stL_ok, stR_ok, stB_ok, chk_ok, raI_k, raL_k, raR_k, raB_k, waI_k, waL_k, waB_k, waR_k, alen_k, gT_sI, gT_sL, gT_sR, gT_sB, gN_sI, gN_sL, gN_sR, gN_sB, gI_sL, gI_sR, gI_sB, gL_sI, gL_sR, gL_sB, gR_sI, gR_sL, gR_sB, gB_sI, gB_sL, gB_sR, gI_sIs, gL_sLs, gR_sRs, gB_sBs, gI_sIn, gL_sLn, gR_sRn, gB_sBn, rdI_ok, rdL_ok, rdB_ok, wrI_ok, wrL_ok, wrB_ok, nl, nI_add, nI_mul, iSub, iEq, iLe, iLt, iEqN, iNEq, iNN, iLtN, iNLt, iLeN, iNLe, iAddN, iNAdd, iMin, iMax, iDiv, iRem, hY.2.1]
      rw [if_neg (by omega), E_documentAt_ok hY.1 hY.2 (by omega)]
      simp only [Option.bind_some]
      have hll := liv_len dl (List.range' bs i)
      rw [List.length_range'] at hll
      obtain ⟨Y2, e2, k2, n2, u2, g2⟩ := E_gather_ok hY y4 (by omega) (show bs + i < D.length by omega)
      rw [e2]
      refine ⟨_, rfl, Kp.tr y1 k2 (fun _ _ _ _ q => q), by omega, by omega, ?_⟩
      rw [range'_s, liv_app]
      exact g2
    · obtain ⟨y1, y2, y3, y4⟩ := hI
      have hY := h.kp (y1.mono (fun t a k _ q => wM_F t a k (wG_M t a k q)))
      have t0Y := iFix0 hY.1
      refine ⟨Y, ?_, y1, y2, y3, y4⟩
      unfold E_flush_l10
      simp (disch := first | assumption | omega | (simp only [gT_sI, gT_sL, gT_sR, gT_sB]; first | assumption | omega)) only [Option.bind_some, ldI_ok, ldL_ok, ldR_ok, ldB_ok, stI_ok, stL_ok, stR_ok, stB_ok, chk_ok, raI_k, raL_k, raR_k, raB_k, waI_k, waL_k, waB_k, waR_k, alen_k, gT_sI, gT_sL, gT_sR, gT_sB, gN_sI, gN_sL, gN_sR, gN_sB, gI_sL, gI_sR, gI_sB, gL_sI, gL_sR, gL_sB, gR_sI, gR_sL, gR_sB, gB_sI, gB_sL, gB_sR, gI_sIs, gL_sLs, gR_sRs, gB_sBs, gI_sIn, gL_sLn, gR_sRn, gB_sBn, rdI_ok, rdL_ok, rdB_ok, wrI_ok, wrL_ok, wrB_ok, nl, nI_add, nI_mul, iSub, iEq, iLe, iLt, iEqN, iNEq, iNN, iLtN, iNLt, iLeN, iNLe, iAddN, iNAdd, iMin, iMax, iDiv, iRem, hY.2.1]
      rw [if_pos (by omega)]
  have k1F : Kp (wF e) σ σ1 := k1.mono (fun t a k _ q => wM_F t a k (wG_M t a k q))
  have h1 := h.kp k1F
  have t01 := iFix0 h1.1
  unfold E_flush
  rw [stI_ok t0]
  simp only [Option.bind_some]
  rw [ldI_ok (by rw [gT_sI]; exact t0), gI_sIn (by omega), hb]
  simp only [Option.bind_some]
  rw [e1]
  simp only [Option.bind_some]
  rw [ldI_ok t01, h1.2.1]
  simp only [Option.bind_some]
  rw [stI_ok t01]
  simp only [Option.bind_some]
  rw [ldI_ok (by rw [gT_sI]; exact t01), gI_sIn (by omega), g1.1]
  simp only [Option.bind_some]
  generalize hs2 : sI σ1 e 5 (nI D.length) = σ2
  have k12 : Kp (wF e) σ1 σ2 := by rw [← hs2]; exact Kp.sI (by unfold wF; omega)
  have k2 : Kp (wF e) σ σ2 := Kp.tr k1F k12 (fun _ _ _ _ q => q)
  have n2 : gN σ2 = gN σ := by rw [← hs2]; exact n1
  have u2 : gU σ2 = gU σ := by rw [← hs2]; exact u1
  have b2 : gI σ2 e 5 = nI D.length := by rw [← hs2, gI_sIs]
  have m2 : gI σ2 e 8 = nI mg := by rw [← hs2, gI_sIn (by omega), k1.I (by omega) (by unfold wG; omega)]; exact hm
  have g2 : cGat e da σ2 (bufL dl bs D.length) := by rw [← hs2]; exact ⟨by rw [gI_sIn (by omega)]; exact g1.1, g1.2⟩
  have G2 : cSegs e da σ2 D G := by
    have G1 := hG.kp k1 hN (fun t a k h1 h2 h3 => by unfold wG at h3; omega) (by unfold wG; omega) (fun k => by unfold wG; omega)
    rw [← hs2]
    exact G1.kp (W := fun t a k => t = 0 ∧ a = e ∧ k = 5) (Kp.sI ⟨rfl, rfl, rfl⟩) (by omega) (fun t a k h1 h2 h3 => by omega) (by omega) (fun k => by omega)
  clear hs2
  have h2 := h.kp k2
  have t02 := iFix0 h2.1
  have hbl : (bufL dl bs D.length).length ≤ D.length - bs := by
    have := liv_len dl (List.range' bs (D.length - bs))
    rw [List.length_range'] at this
    exact this
  have hbd : ∀ d, d ∈ bufL dl bs D.length → d < D.length := fun d hd => by
    have := (List.mem_filter.mp hd).1
    rw [List.mem_range'_1] at this
    omega
  -- the new segment
  obtain ⟨σ3, e3, k3, n3, u3, G3, m3, b3⟩ : ∃ σ3, (if nI (bufL dl bs D.length).length ≤ 0 then some σ2 else (ldI σ2 11 7 (some e)).bind fun v16 => if 16 ≤ v16 then some σ2 else (ldR σ2 11 6 (some e)).bind fun v18 => (ldI σ2 11 7 (some e)).bind fun v19 => (some (nwO σ2 6)).bind fun m20 => (ldR m20 11 9 (some e)).bind fun v21 => (ldI m20 11 10 (some e)).bind fun v22 => (Se_init m20 (gN σ2) 0 v21 v22).bind fun v23 => (waR v23 5 6 v18 v19 (some (gN σ2))).bind fun m24 => (ldI m24 11 7 (some e)).bind fun v25 => (stI m24 11 7 (some e) (v25 + 1)).bind fun m26 => some m26) = some σ3 ∧ Kp (wF e) σ2 σ3 ∧ gN σ3 ≤ gN σ2 + 10 ∧ gU σ3 ≤ gU σ2 + 48072 ∧ cSegs e da σ3 D (flG dl bs D.length G) ∧ gI σ3 e 8 = nI mg ∧ gI σ3 e 5 = nI D.length := by
    unfold flG
    by_cases c : bufL dl bs D.length = []
    · rw [if_pos c]
      refine ⟨σ2, ?_, Kp.rf, by omega, by omega, G2, m2, b2⟩
      rw [c]
      rw [if_pos (by decide)]
    · rw [if_neg c]
      have hp : 0 < (bufL dl bs D.length).length := List.length_pos_iff.mpr c
      have e0 : (nI (bufL dl bs D.length).length ≤ nI 0) = ((bufL dl bs D.length).length ≤ 0) := iLe (by omega) (by omega)
      rw [show (0 : Int32) = nI 0 from rfl]
      simp only [e0]
      rw [if_neg (by omega), ldI_ok t02, G2.1]
      simp only [Option.bind_some]
      have e16 : (16 ≤ nI G.length) = (16 ≤ G.length) := iLe (a := 16) (by omega) (by omega)
      simp only [e16]
      rw [if_neg (by omega)]
      have r6 : gR σ2 e 6 = some (e + 5) := h2.1.2.1.2.2.2.1
      have r9 : gR σ2 e 9 = some (e + 6) := h2.1.2.1.2.2.2.2.1
      have hN2 := h2.1.N
      have kn : Kp (fun _ _ _ => False) σ2 (nwO σ2 6) := Kp.nw
      rw [ldR_ok t02, r6]
      simp only [Option.bind_some]
      rw [ldR_ok (by rw [kn.T (by omega)]; exact t02), kn.R (by omega) (fun q => q), r9]
      simp only [Option.bind_some]
      rw [ldI_ok (by rw [kn.T (by omega)]; exact t02), kn.I (by omega) (fun q => q), g2.1]
      simp only [Option.bind_some]
      have tg : gT σ2 (e + 6) = (104, 400) := h2.1.t 6 _ (by decide) rfl
      have hgd : ∀ k, k < (bufL dl bs D.length).length → (bufL dl bs D.length).getD k 0 < D.length := fun k hk => hbd _ (getD_mem hk)
      obtain ⟨Y, e4, k4, n4, u4, s4⟩ := Se_init_ok (lo := e + 401) (σ0 := σ2) (g := e + 6) (lv := 0) (da := da) (D := D) (ds := bufL dl bs D.length) hN2 tg (by omega) (by omega) (fun k hk => ⟨g2.2 k hk, h2.2.d (hgd k hk), fun f hf => hlen _ f (hgd k hk) hf⟩)
      rw [e4]
      simp only [Option.bind_some]
      have k4F : Kp (wF e) σ2 Y := k4.mono (fun _ _ _ _ q => q.elim)
      have hY := h2.kp k4F
      have t0Y := iFix0 hY.1
      obtain ⟨t5Y, t5Y'⟩ := iFix hY.1 5 105 16 (by decide) rfl
      have ts4 : (gT Y (gN σ2)).1 = 6 := s4.choose_spec.choose_spec.choose_spec.1.t
      rw [waR_k t5Y (by omega) (by omega) ts4]
      simp only [Option.bind_some]
      rw [ldI_ok (by rw [gT_sR]; exact t0Y), gI_sR, k4.I (by omega) (fun q => q), G2.1]
      simp only [Option.bind_some]
      rw [stI_ok (by rw [gT_sR]; exact t0Y)]
      simp only [Option.bind_some, nl, nI_add]
      have k5F : Kp (wF e) Y (sI (sR Y (e + 5) G.length (some (gN σ2))) e 7 (nI (G.length + 1))) := by
        refine Kp.tr (W := wF e) (Kp.sR (W := wF e) (by unfold wF; omega)) (Kp.sI (W := wF e) (by unfold wF; omega)) (fun _ _ _ _ q => q)
      have kall : Kp (wF e) σ2 (sI (sR Y (e + 5) G.length (some (gN σ2))) e 7 (nI (G.length + 1))) := Kp.tr k4F k5F (fun _ _ _ _ q => q)
      refine ⟨_, rfl, kall, by rw [gN_sI, gN_sR]; omega, by rw [gU_sI, gU_sR]; omega, ⟨by rw [gI_sIs, List.length_append]; rfl, by rw [List.length_append, List.length_singleton]; omega, fun k hk => ?_⟩, ?_, ?_⟩
      · rw [List.length_append, List.length_singleton] at hk
        by_cases q : k = G.length
        · subst q
          refine ⟨gN σ2, by rw [gR_sI, gR_sRs], ?_⟩
          rw [gA_app, if_neg (by omega), if_pos rfl]
          exact s4.kp k5F wF_h
        · obtain ⟨s, c1, c2⟩ := G2.2.2 k (by omega)
          refine ⟨s, ?_, ?_⟩
          · rw [gR_sI, gR_sRn (by omega), k4.R (by omega) (fun q => q)]
            exact c1
          · rw [gA_app, if_pos (by omega)]
            exact c2.kp kall wF_h
      · rw [gI_sIn (by omega), gI_sR, k4.I (by omega) (fun q => q)]; exact m2
      · rw [gI_sIn (by omega), gI_sR, k4.I (by omega) (fun q => q)]; exact b2
  simp only [Option.bind_some] at e3 ⊢
  rw [e3]
  simp only [Option.bind_some]
  have h3 := h2.kp k3
  have t03 := iFix0 h3.1
  have hGl' : (flG dl bs D.length G).length ≤ 13 := by
    unfold flG
    split
    · omega
    · rw [List.length_append, List.length_singleton]; omega
  have hma' : mass (flG dl bs D.length G) ≤ 64 := by
    unfold flG
    split
    · omega
    · unfold mass at *
      rw [sm_app, sm_one]
      simp only [Nat.pow_zero]
      omega
  have ht' : tot (flG dl bs D.length G) ≤ 64 := by
    unfold flG
    split
    · omega
    · unfold tot at *
      rw [sm_app, sm_one]
      simp only
      omega
  have hds' : ∀ s, s ∈ flG dl bs D.length G → ∀ d, d ∈ s.2 → d < D.length := fun s hs => by
    unfold flG at hs
    split at hs
    · exact hds s hs
    · rcases List.mem_append.mp hs with q | q
      · exact hds s q
      · rw [List.mem_singleton.mp q]
        exact hbd
  rw [chk_ok t03]
  simp only [Option.bind_some]
  rw [E_leastFullLevel_ok h3.1 G3 (fun s hs => by have := lv_le hma' hs; omega)]
  simp only [Option.bind_some]
  obtain ⟨σ4, e4, k4, n4, u4, G4, m4, b4⟩ := E_merges_ok hlen 20 0 σ3 (flG dl bs D.length G) mg (by omega) h3 G3 m3 hma' hds' ht' (by omega) (by omega)
  rw [show (0 : Int32) = nI 0 from rfl, e4]
  have e5 : mgL dl 20 (flG dl bs D.length G) mg = flS dl bs D.length G mg := rfl
  rw [e5] at n4 u4 G4 m4
  exact ⟨σ4, rfl, Kp.tr (Kp.tr k2 k3 (fun _ _ _ _ q => q)) k4 (fun _ _ _ _ q => q), by omega, by omega, G4, m4, by rw [b4]; exact b3⟩
