/-! SEGMENTS made, the whole -/
theorem isVoc.cg {lo v : Nat} {σ : Mem} {c d : Nat → Nat} (h : isVoc lo σ v c) (h0 : ∀ t, t ≠ 0 → c t = d t) (hb : ∀ t, d t < 1000000) : isVoc lo σ v d := by
  obtain ⟨q, r, E, h1, h2, h3, h4, h5, h6, h7, h8, h9, h10, h11⟩ := h
  refine ⟨q, r, E, h1, h2, h3, h4, h5, fun i hi => ⟨(h6 i hi).1, ?_⟩, h7, h8, fun t => ?_, hb, h11⟩
  · rw [(h6 i hi).2, h0 _ ((h9 _).mp (getD_mem hi)).1]
  · rw [h9 t]
    constructor
    · rintro ⟨a, b⟩
      exact ⟨a, by rw [← h0 t a]; exact b⟩
    · rintro ⟨a, b⟩
      exact ⟨a, by rw [h0 t a]; exact b⟩
theorem Se_voc_ok {lo : Nat} {σ : Mem} {arr f : Nat} {da : Nat → Nat} {D : List DocT} {ds : List Nat} (hlo : lo ≤ gN σ) (ha : hp lo σ arr 104 ds.length) (hn : ds.length ≤ 64) (hf : f < 2) (hr : ∀ k, k < ds.length → gR σ arr k = some (da (ds.getD k 0)) ∧ isDoc lo σ (da (ds.getD k 0)) (ds.getD k 0) (dA D (ds.getD k 0)) ∧ (dTok (dA D (ds.getD k 0)) f).length ≤ 50 + 150 * f) : ∃ w σ1 σ', Se_termsOf (nwO σ 10) (some arr) (nI f) = some (w, σ1) ∧ Vo_init σ1 (gN σ) w = some σ' ∧ Kp (fun _ _ _ => False) σ σ' ∧ gN σ' = gN σ + 4 ∧ gU σ' ≤ gU σ + (2 + 3 * (64 * (50 + 150 * f))) ∧ isVoc lo σ' (gN σ) (sgc D ds f) := by
  have hE : ∀ k, ∃ E, k < ds.length → docV lo σ (da (ds.getD k 0)) f E ∧ vocE E (tcn (dTok (dA D (ds.getD k 0)) f)) := fun k => by
    by_cases h : k < ds.length
    · obtain ⟨E, h1, h2⟩ := (hr k h).2.1.V hf
      exact ⟨E, fun _ => ⟨h1, h2⟩⟩
    · exact ⟨[], fun q => absurd q h⟩
  obtain ⟨E, hE⟩ := Classical.axiomOfChoice hE
  have k1 : Kp (fun _ _ _ => False) σ (nwO σ 10) := Kp.nw
  have hW : Wh lo σ (fun _ _ _ => False) := fun _ _ _ _ _ q => q.elim
  have hN1 : gN (nwO σ 10) = gN σ + 1 := gN_nw _ _ _
  have hU1 : gU (nwO σ 10) = gU σ + 2 := gU_nw _ _ _
  have hlenE : ∀ k, k < ds.length → (E k).length ≤ 50 + 150 * f := fun k hk => Nat.le_trans (vocE_len (hE k hk).2) (hr k hk).2.2
  have hT : (Lk E ds.length).length ≤ 64 * (50 + 150 * f) := by
    rw [Lk_len]
    have := sN_mono (c := fun i => (E i).length) (d := fun _ => 50 + 150 * f) ds.length hlenE
    rw [sN_const] at this
    exact Nat.le_trans this (Nat.mul_le_mul_right _ hn)
  obtain ⟨σ1, e1, s1, n1, u1, t1, h1⟩ := Se_termsOf_ok (lo := lo) (σ := nwO σ 10) (arr := arr) (n := ds.length) (f := f) (as := fun k => da (ds.getD k 0)) (E := E) (by omega) (ha.kp k1) (by omega) hf (fun k hk => ⟨by rw [k1.R ha.2.1 (fun q => q)]; exact (hr k hk).1, (hE k hk).1.kp k1 hW⟩) (by omega)
  have hv : hp lo σ1 (gN σ) 10 0 := ⟨hlo, by omega, by rw [s1.T (by omega), nwO, gT_nw, if_pos rfl]⟩
  have hrw : hp lo σ1 (gN (nwO σ 10)) 101 (Lk E ds.length).length := ⟨by omega, by omega, t1⟩
  have hmemE : ∀ k, k < ds.length → ∀ t ∈ E k, t ≠ 0 ∧ 0 < tcn (dTok (dA D (ds.getD k 0)) f) t ∧ t < 6582952005840035281 := fun k hk t ht => by
    obtain ⟨-, -, hm, -, hb⟩ := (hE k hk).2
    exact ⟨((hm t).mp ht).1, ((hm t).mp ht).2, hb t ht⟩
  obtain ⟨σ2, e2, s2, n2, u2, v2⟩ := Vo_init_ok (lo := lo) (by omega) hv hrw (by omega) h1 (fun i hi => by
    obtain ⟨k, hk, hm⟩ := Lk_mem _ (getD_mem (d := 0) hi)
    exact (hmemE k hk _ hm).2.2)
  refine ⟨some (gN (nwO σ 10)), σ1, σ2, e1, e2, Kp.tr (Kp.tr k1 s1 (fun _ _ _ _ q => q)) s2 (fun t a k ha' q => by unfold wVo at q; omega), by omega, by omega, ?_⟩
  refine v2.cg (fun t ht => ?_) (fun t => ?_)
  · rw [Lk_cnt t ds.length (fun k hk => (hE k hk).2.2.1)]
    refine cN_congr _ (fun k hk => ?_)
    obtain ⟨-, -, hm, -, -⟩ := (hE k hk).2
    rw [decide_eq_decide, hm t]
    exact ⟨fun q => q.2, fun q => ⟨ht, q⟩⟩
  · exact Nat.lt_of_le_of_lt (cN_le _ _) (by omega)
theorem Se_init_ok {lo : Nat} {σ0 : Mem} {g lv : Nat} {da : Nat → Nat} {D : List DocT} {ds : List Nat} (hlo : lo ≤ gN σ0) (hg : gT σ0 g = (104, 400)) (hgN : g < gN σ0) (hn : ds.length ≤ 64) (hr : ∀ k, k < ds.length → gR σ0 g k = some (da (ds.getD k 0)) ∧ isDoc lo σ0 (da (ds.getD k 0)) (ds.getD k 0) (dA D (ds.getD k 0)) ∧ ∀ f, f < 2 → (dTok (dA D (ds.getD k 0)) f).length ≤ 50 + 150 * f) : ∃ σ', Se_init (nwO σ0 6) (gN σ0) (nI lv) (some g) (nI ds.length) = some σ' ∧ Kp (fun _ _ _ => False) σ0 σ' ∧ gN σ' = gN σ0 + 10 ∧ gU σ' ≤ gU σ0 + 48072 ∧ isSeg lo σ' da D (gN σ0) (lv, ds) := by
  have hW : ∀ {τ : Mem}, Wh lo τ (fun _ _ _ => False) := fun _ _ _ _ _ q => q.elim
  have kk : ∀ {τ τ' τ'' : Mem}, Kp (fun _ _ _ => False) τ τ' → Kp (fun _ _ _ => False) τ' τ'' → Kp (fun _ _ _ => False) τ τ'' := fun h h' => Kp.tr h h' (fun _ _ _ _ q => q)
  have kth : ∀ {τ τ' τ'' : Mem} {W : Nat → Nat → Nat → Prop}, Kp (fun _ _ _ => False) τ τ' → Kp W τ' τ'' → (∀ t a k, a < gN τ → ¬ W t a k) → Kp (fun _ _ _ => False) τ τ'' := fun h h' hw => Kp.tr h h' (fun t a k ha q => hw t a k ha q)
  have k0 : Kp (fun _ _ _ => False) σ0 (nwO σ0 6) := Kp.nw
  have n0 : gN (nwO σ0 6) = gN σ0 + 1 := gN_nw _ _ _
  have u0 : gU (nwO σ0 6) = gU σ0 + 4 := gU_nw _ _ _
  have t0 : gT (nwO σ0 6) (gN σ0) = (6, 0) := by rw [nwO, gT_nw, if_pos rfl]
  have g0 : gT (nwO σ0 6) g = (104, 400) := by rw [k0.T hgN]; exact hg
  generalize nwO σ0 6 = σ at *
  generalize hth : gN σ0 = th at *
  have tth : (gT σ th).1 = 6 := by rw [t0]
  have tg1 : (gT σ g).1 = 100 + 4 := by rw [g0]
  unfold Se_init
  rw [stI_ok tth]
  simp only [Option.bind_some]
  rw [alen_k (by rw [gT_sI]; exact tg1)]
  simp only [Option.bind_some, gT_sI, g0]
  have e0 : maxI 0 (minI (nI ds.length) (nI 400)) = nI ds.length := by
    rw [iMin (by omega) (by omega), show (0 : Int32) = nI 0 from rfl, iMax (by omega) (by omega)]
    congr 1
    omega
  rw [e0, nwA_ok (by omega)]
  simp only [Option.bind_some]
  rw [stR_ok (by rw [gT_nw, gN_sI, if_neg (by omega), gT_sI]; exact tth)]
  simp only [Option.bind_some, gN_sI]
  generalize hσ3 : sR (nw (sI σ th 0 (nI lv)) (100 + 4, ds.length) ds.length) th 1 (some (gN σ)) = σ3
  have n3 : gN σ3 = th + 2 := by rw [← hσ3, gN_sR, gN_nw, gN_sI]; omega
  have u3 : gU σ3 = gU σ + ds.length := by rw [← hσ3, gU_sR, gU_nw, gU_sI]
  have k3 : Kp (fun _ _ _ => False) σ0 σ3 := by
    rw [← hσ3]
    refine kth (W := fun t a _ => a = th) ?_ (Kp.sR rfl) (fun t a k ha q => by omega)
    exact kk (kth (W := fun t a _ => a = th) k0 (Kp.sI rfl) (fun t a k ha q => by omega)) Kp.nw
  have t3 : gT σ3 (th + 1) = (104, ds.length) := by rw [← hσ3, gT_sR, gT_nw, gN_sI, if_pos (by omega)]
  have s3 : gT σ3 th = (6, 0) := by rw [← hσ3, gT_sR, gT_nw, gN_sI, if_neg (by omega), gT_sI]; exact t0
  have r3 : gR σ3 th 1 = some (th + 1) := by rw [← hσ3, gR_sRs, n0]
  have i3 : gI σ3 th 0 = nI lv := by rw [← hσ3, gI_sR, gI_nw, gN_sI, if_neg (by omega), gI_sIs]
  clear hσ3
  -- the documents are copied
  obtain ⟨σ4, e4, k4, n4, u4, c4⟩ : ∃ z, lp (fun q : Int32 × Mem => Se_init_l29 q.2 th (some g) q.1) (nI 0, σ3) = some z ∧ (Kp (fun t a _ => t = 2 ∧ a = th + 1) σ3 z ∧ gN z = gN σ3 ∧ gU z = gU σ3 ∧ ∀ k, k < ds.length → gR z (th + 1) k = some (da (ds.getD k 0))) := by
    refine lp_for (fun k (Y : Mem) => (nI k, Y)) ds.length (fun k Y => Kp (fun t a _ => t = 2 ∧ a = th + 1) σ3 Y ∧ gN Y = gN σ3 ∧ gU Y = gU σ3 ∧ ∀ i, i < k → gR Y (th + 1) i = some (da (ds.getD i 0))) _ (fun k Y hk hI => ?_) (fun Y hI => ?_) ds.length 0 _ (by omega) ⟨Kp.rf, rfl, rfl, fun i hi => absurd hi (by omega)⟩
    · left
      obtain ⟨y1, y2, y3, y4⟩ := hI
      have kY : Kp (fun _ _ _ => False) σ0 Y := kth k3 y1 (fun t a k ha q => by omega)
      obtain ⟨d1, d2, d3⟩ := hr k hk
      have t1 : (gT Y th).1 = 6 := by rw [y1.T (by omega), s3]
      have t2 : (gT Y (th + 1)).1 = 100 + 4 := by rw [y1.T (by omega), t3]
      have t2' : (gT Y (th + 1)).2 = ds.length := by rw [y1.T (by omega), t3]
      have t4 : (gT Y g).1 = 100 + 4 := by rw [kY.T (by omega), hg]
      have t4' : (gT Y g).2 = 400 := by rw [kY.T (by omega), hg]
      have r1 : gR Y th 1 = some (th + 1) := by rw [y1.R (by omega) (by omega)]; exact r3
      have r2 : gR Y g k = some (da (ds.getD k 0)) := by rw [kY.R (by omega) (fun q => q)]; exact d1
      have t5 : (gT Y (da (ds.getD k 0))).1 = 1 := by rw [kY.T (by have := d2.1.2.1; omega)]; exact d2.1.t
      unfold Se_init_l29
      simp (disch := first | assumption | omega | (simp only [gT_sI, gT_sL, gT_sR, gT_sB]; first | assumption | omega)) only [Option.bind_some, ldI_ok, ldL_ok, ldR_ok, ldB_ok, stI_ok, stL_ok, stR_ok, stB_ok, chk_ok, raI_k, raL_k, raR_k, raB_k, waI_k, waL_k, waB_k, waR_k, alen_k, gT_sI, gT_sL, gT_sR, gT_sB, gN_sI, gN_sL, gN_sR, gN_sB, gI_sL, gI_sR, gI_sB, gL_sI, gL_sR, gL_sB, gR_sI, gR_sL, gR_sB, gB_sI, gB_sL, gB_sR, gI_sIs, gL_sLs, gR_sRs, gB_sBs, gI_sIn, gL_sLn, gR_sRn, gB_sBn, rdI_ok, rdL_ok, rdB_ok, wrI_ok, wrL_ok, wrB_ok, nl, nI_add, nI_mul, iSub, iEq, iLe, iLt, iEqN, iNEq, iNN, iLtN, iNLt, iLeN, iNLe, iAddN, iNAdd, iMin, iMax, iDiv, iRem, r1, t2', r2]
      rw [if_neg (by omega)]
      refine ⟨_, rfl, Kp.tr y1 (Kp.sR (W := fun t a _ => t = 2 ∧ a = th + 1) ⟨rfl, rfl⟩) (fun _ _ _ _ q => q), y2, y3, fun i hi => ?_⟩
      by_cases c : i = k
      · subst c; rw [gR_sRs]
      · rw [gR_sRn (by omega)]; exact y4 i (by omega)
    · obtain ⟨y1, y2, y3, y4⟩ := hI
      have t1 : (gT Y th).1 = 6 := by rw [y1.T (by omega), s3]
      have t2 : (gT Y (th + 1)).1 = 100 + 4 := by rw [y1.T (by omega), t3]
      have t2' : (gT Y (th + 1)).2 = ds.length := by rw [y1.T (by omega), t3]
      have r1 : gR Y th 1 = some (th + 1) := by rw [y1.R (by omega) (by omega)]; exact r3
      refine ⟨Y, ?_, y1, y2, y3, y4⟩
      unfold Se_init_l29
      simp (disch := first | assumption | omega | (simp only [gT_sI, gT_sL, gT_sR, gT_sB]; first | assumption | omega)) only [Option.bind_some, ldI_ok, ldL_ok, ldR_ok, ldB_ok, stI_ok, stL_ok, stR_ok, stB_ok, chk_ok, raI_k, raL_k, raR_k, raB_k, waI_k, waL_k, waB_k, waR_k, alen_k, gT_sI, gT_sL, gT_sR, gT_sB, gN_sI, gN_sL, gN_sR, gN_sB, gI_sL, gI_sR, gI_sB, gL_sI, gL_sR, gL_sB, gR_sI, gR_sL, gR_sB, gB_sI, gB_sL, gB_sR, gI_sIs, gL_sLs, gR_sRs, gB_sBs, gI_sIn, gL_sLn, gR_sRn, gB_sBn, rdI_ok, rdL_ok, rdB_ok, wrI_ok, wrL_ok, wrB_ok, nl, nI_add, nI_mul, iSub, iEq, iLe, iLt, iEqN, iNEq, iNN, iLtN, iNLt, iLeN, iNLe, iAddN, iNAdd, iMin, iMax, iDiv, iRem, r1, t2']
      rw [if_pos (by omega)]
  rw [show (0 : Int32) = nI 0 from rfl, e4]
  simp only [Option.bind_some]
  have k04 : Kp (fun _ _ _ => False) σ0 σ4 := kth k3 k4 (fun t a k ha q => by omega)
  have s4 : gT σ4 th = (6, 0) := by rw [k4.T (by omega)]; exact s3
  have t4 : gT σ4 (th + 1) = (104, ds.length) := by rw [k4.T (by omega)]; exact t3
  have r4 : gR σ4 th 1 = some (th + 1) := by rw [k4.R (by omega) (by omega)]; exact r3
  have i4 : gI σ4 th 0 = nI lv := by rw [k4.I (by omega) (by omega)]; exact i3
  -- the titles
  have docs : ∀ {τ : Mem}, Kp (fun _ _ _ => False) σ4 τ → ∀ f, f < 2 → ∀ k, k < ds.length → gR τ (th + 1) k = some (da (ds.getD k 0)) ∧ isDoc lo τ (da (ds.getD k 0)) (ds.getD k 0) (dA D (ds.getD k 0)) ∧ (dTok (dA D (ds.getD k 0)) f).length ≤ 50 + 150 * f := fun hk f hf k hk' => by
    obtain ⟨d1, d2, d3⟩ := hr k hk'
    exact ⟨by rw [hk.R (by omega) (fun q => q)]; exact c4 k hk', d2.kp (kk k04 hk) hW, d3 f hf⟩
  obtain ⟨w5, σ5a, σ5, e5a, e5, k5, n5, u5, v5⟩ := Se_voc_ok (lo := lo) (σ := σ4) (arr := th + 1) (f := 0) (da := da) (D := D) (ds := ds) (by omega) ⟨by omega, by omega, t4⟩ hn (by omega) (docs Kp.rf 0 (by omega))
  have km : Kp (fun _ _ _ => False) σ4 (nwO σ4 10) := Kp.nw
  rw [ldR_ok (by rw [km.T (by omega), s4]), km.R (by omega) (fun q => q), r4]
  simp only [Option.bind_some]
  rw [e5a]
  simp only [Option.bind_some]
  rw [e5]
  simp only [Option.bind_some]
  rw [stR_ok (by rw [k5.T (by omega), s4])]
  simp only [Option.bind_some, gN_sR]
  -- the bodies
  generalize hσ6 : sR σ5 th 2 (some (gN σ4)) = σ6
  have k56 : Kp (fun t a k => t = 2 ∧ a = th ∧ k = 2) σ5 σ6 := by rw [← hσ6]; exact Kp.sR ⟨rfl, rfl, rfl⟩
  have n6 : gN σ6 = gN σ5 := by rw [← hσ6]; rfl
  have u6 : gU σ6 = gU σ5 := by rw [← hσ6]; rfl
  have r6 : gR σ6 th 2 = some (gN σ4) := by rw [← hσ6, gR_sRs]
  have v6 : isVoc lo σ6 (gN σ4) (sgc D ds 0) := by
    obtain ⟨q, r, E, a1, a2, a3, a4, a5, a6, a7⟩ := v5
    rw [← hσ6]
    refine ⟨q, r, E, a1, ?_, ?_, a4, a5, a6, a7⟩
    · rw [gR_sRn (by omega)]; exact a2
    · rw [gR_sRn (by omega)]; exact a3
  clear hσ6
  have k46 : Kp (fun t a k => t = 2 ∧ a = th ∧ k = 2) σ4 σ6 := Kp.tr (k5.mono (fun _ _ _ _ q => q.elim)) k56 (fun _ _ _ _ q => q)
  have k06 : Kp (fun _ _ _ => False) σ0 σ6 := kth k04 k46 (fun t a k ha q => by omega)
  have s6 : gT σ6 th = (6, 0) := by rw [k46.T (by omega)]; exact s4
  have t6 : gT σ6 (th + 1) = (104, ds.length) := by rw [k46.T (by omega)]; exact t4
  have r61 : gR σ6 th 1 = some (th + 1) := by rw [k46.R (by omega) (by omega)]; exact r4
  have i61 : gI σ6 th 0 = nI lv := by rw [k46.I (by omega) (by omega)]; exact i4
  obtain ⟨w7, σ7a, σ7, e7a, e7, k7, n7, u7, v7⟩ := Se_voc_ok (lo := lo) (σ := σ6) (arr := th + 1) (f := 1) (da := da) (D := D) (ds := ds) (by omega) ⟨by omega, by omega, t6⟩ hn (by omega) (fun k hk' => by
    obtain ⟨d1, d2, d3⟩ := hr k hk'
    exact ⟨by rw [k46.R (by omega) (by omega)]; exact c4 k hk', d2.kp k06 hW, d3 1 (by omega)⟩)
  have km2 : Kp (fun _ _ _ => False) σ6 (nwO σ6 10) := Kp.nw
  rw [ldR_ok (by rw [km2.T (by omega), s6]), km2.R (by omega) (fun q => q), r61]
  simp only [Option.bind_some]
  rw [show (1 : Int32) = nI 1 from rfl, e7a]
  simp only [Option.bind_some]
  rw [← n6, e7]
  simp only [Option.bind_some]
  rw [stR_ok (by rw [k7.T (by omega), s6])]
  simp only [Option.bind_some]
  have k8 : Kp (fun t a k => t = 2 ∧ a = th ∧ k = 3) σ7 (sR σ7 th 3 (some (gN σ6))) := Kp.sR ⟨rfl, rfl, rfl⟩
  have k68 : Kp (fun t a k => t = 2 ∧ a = th ∧ k = 3) σ6 (sR σ7 th 3 (some (gN σ6))) := Kp.tr (k7.mono (fun _ _ _ _ q => q.elim)) k8 (fun _ _ _ _ q => q)
  have k08 : Kp (fun _ _ _ => False) σ0 (sR σ7 th 3 (some (gN σ6))) := kth k06 k68 (fun t a k ha q => by omega)
  have hvk : ∀ {v : Nat} {c : Nat → Nat}, isVoc lo σ7 v c → isVoc lo (sR σ7 th 3 (some (gN σ6))) v c := fun {v c} h => by
    obtain ⟨q, r, E, a1, a2, a3, a4, a5, a6, a7⟩ := h
    refine ⟨q, r, E, a1, ?_, ?_, a4, a5, a6, a7⟩
    · rw [gR_sRn (by omega)]; exact a2
    · rw [gR_sRn (by omega)]; exact a3
  refine ⟨_, rfl, k08, by rw [gN_sR]; omega, by rw [gU_sR]; omega, th + 1, gN σ4, gN σ6, ⟨by omega, by rw [gN_sR]; omega, by rw [k68.T (by omega)]; exact s6⟩, ?_, ?_, ?_, ?_, ⟨by omega, by rw [gN_sR]; omega, by rw [k68.T (by omega)]; exact t6⟩, fun k hk' => ?_, hvk (v6.kp k7 hW), hvk v7⟩
  · rw [k68.I (by omega) (by omega)]; exact i61
  · rw [k68.R (by omega) (by omega)]; exact r61
  · rw [k68.R (by omega) (by omega)]; exact r6
  · exact gR_sRs _ _ _ _
  · rw [k68.R (by omega) (by omega), k46.R (by omega) (by omega)]; exact c4 k hk'
