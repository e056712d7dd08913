/-! NEAR: the class looks -/
theorem Sp_leastBeginning_ok {σ : Mem} {a : Nat} {tp : Nat → Nat} (h : tpA σ a tp) {p k : Nat} (hp : p + k ≤ 600) : Sp_leastBeginning σ (some a) (nI p) (nI k) = some (lN (enc (small tp p k))) := by
  unfold Sp_leastBeginning
  have e : minI (nI k) 12 = nI (min k 12) := by
    rw [show (12 : Int32) = nI 12 from rfl, iMin (by omega) (by omega)]
  rw [e, Sp_signsOf_ok h (by omega)]
  simp only [Option.bind_some]
  rw [Sp_padded_ok (by omega)]
  simp only [Option.bind_some]
  have : (small tp p k).length = min k 12 := small_len tp p k
  unfold enc
  rw [this]
  rfl
/-- the terms that a look at a view's bodies meets -/
def cand (D : List DocT) (v : VwT) (t : List Nat) : Prop := t ≠ [] ∧ ∃ d, d ∈ vDocs v ∧ hasB D 1 d t
def sgT (D : List DocT) (ds : List Nat) (t : List Nat) : Prop := isTerm t ∧ t ≠ [] ∧ 0 < sgc D ds 1 (enc t)
theorem sgc_has {D : List DocT} {ds : List Nat} {f : Nat} {t : List Nat} (hT : okTx D) (hd : ∀ d, d ∈ ds → d < D.length) (hf : f < 2) (ht : isTerm t) : 0 < sgc D ds f (enc t) ↔ ∃ d, d ∈ ds ∧ hasB D f d t := by
  unfold sgc
  rw [cN_pos]
  constructor
  · rintro ⟨k, h1, h2⟩
    exact ⟨_, getD_mem h1, (tcn_has hT (hd _ (getD_mem h1)) hf ht).mp (of_decide_eq_true h2)⟩
  · rintro ⟨d, h1, h2⟩
    obtain ⟨k, hk, e⟩ := List.getElem_of_mem h1
    have e : ds.getD k 0 = d := by
      rw [List.getD_eq_getElem?_getD, List.getElem?_eq_getElem hk]
      exact e
    refine ⟨k, hk, ?_⟩
    rw [decide_eq_true_eq, e]
    exact (tcn_has hT (hd _ h1) hf ht).mpr h2
theorem hasB_term {D : List DocT} {f d : Nat} {t : List Nat} (hT : okTx D) (hd : d < D.length) (hf : f < 2) (h : hasB D f d t) : isTerm t := by
  obtain ⟨j, h1, rfl⟩ := h
  exact ((hT d f hd hf).2 _ (getD_mem (d := (0, 0, [])) h1)).2.2
theorem segs_mem {v : VwT} {s d : Nat} (hs : s < (vSegs v).length) (h : d ∈ (vSegs v).getD s []) : d ∈ vDocs v := by
  unfold vDocs
  exact List.mem_flatten.mpr ⟨_, getD_mem hs, h⟩
theorem cand_iff {D : List DocT} {v : VwT} (hT : okTx D) (hd : ∀ d, d ∈ vDocs v → d < D.length) (t : List Nat) : (∃ s, s < (vSegs v).length ∧ sgT D ((vSegs v).getD s []) t) ↔ cand D v t := by
  constructor
  · rintro ⟨s, h1, h2, h3, h4⟩
    obtain ⟨d, d1, d2⟩ := (sgc_has hT (fun d q => hd d (segs_mem h1 q)) (by omega) h2).mp h4
    exact ⟨h3, d, segs_mem h1 d1, d2⟩
  · rintro ⟨h1, d, d1, d2⟩
    have ht := hasB_term hT (hd d d1) (by omega) d2
    obtain ⟨l, l1, l2⟩ : ∃ l, l ∈ vSegs v ∧ d ∈ l := List.mem_flatten.mp d1
    obtain ⟨s, hs, e⟩ := List.getElem_of_mem l1
    have e : (vSegs v).getD s [] = l := by
      rw [List.getD_eq_getElem?_getD, List.getElem?_eq_getElem hs]
      exact e
    refine ⟨s, hs, ht, h1, (sgc_has hT (fun d q => hd d (segs_mem hs q)) (by omega) ht).mpr ⟨d, ?_, d2⟩⟩
    rw [e]
    exact l2
theorem isVoc.E2 {lo : Nat} {σ : Mem} {v : Nat} {c : Nat → Nat} (h : isVoc lo σ v c) : ∃ E, vocE E c ∧ ∀ σ' W, Kp W σ σ' → Wh lo σ W → (gT σ' v).1 = 10 ∧ Vo_size σ' v = some (nI E.length) ∧ ∀ i, i < E.length → Vo_termAt σ' v (nI i) = some (lN (E.getD i 0)) := by
  obtain ⟨q, r, E, h1, h2, h3, h4, h5, h6, h7⟩ := h
  refine ⟨E, h7, fun σ' W hk hw => ?_⟩
  have t1 := (h1.kp hk).t
  have t2 := (h4.kp hk).t
  have t3 := (h4.kp hk).m
  have h2' : gR σ' v 0 = some q := by rw [h1.R hk hw (by decide)]; exact h2
  have h6' : ∀ i, i < E.length → gL σ' q i = lN (E.getD i 0) := fun i hi => by rw [h4.L hk hw (by decide)]; exact (h6 i hi).1
  have hn := h7.1
  refine ⟨t1, ?_, fun i hi => ?_⟩
  · unfold Vo_size
    simp (disch := first | assumption | omega | (simp only [gT_sI, gT_sL, gT_sR, gT_sB]; first | assumption | omega)) only [Option.bind_some, ldI_ok, ldL_ok, ldR_ok, ldB_ok, stI_ok, stL_ok, stR_ok, stB_ok, chk_ok, raI_k, raL_k, raR_k, raB_k, waI_k, waL_k, waB_k, waR_k, alen_k, gT_sI, gT_sL, gT_sR, gT_sB, gN_sI, gN_sL, gN_sR, gN_sB, gI_sL, gI_sR, gI_sB, gL_sI, gL_sR, gL_sB, gR_sI, gR_sL, gR_sB, gB_sI, gB_sL, gB_sR, gI_sIs, gL_sLs, gR_sRs, gB_sBs, gI_sIn, gL_sLn, gR_sRn, gB_sBn, rdI_ok, rdL_ok, rdB_ok, wrI_ok, wrL_ok, wrB_ok, h2', t3]
  · unfold Vo_termAt
    simp (disch := first | assumption | omega | (simp only [gT_sI, gT_sL, gT_sR, gT_sB]; first | assumption | omega)) only [Option.bind_some, ldI_ok, ldL_ok, ldR_ok, ldB_ok, stI_ok, stL_ok, stR_ok, stB_ok, chk_ok, raI_k, raL_k, raR_k, raB_k, waI_k, waL_k, waB_k, waR_k, alen_k, gT_sI, gT_sL, gT_sR, gT_sB, gN_sI, gN_sL, gN_sR, gN_sB, gI_sL, gI_sR, gI_sB, gL_sI, gL_sR, gL_sB, gR_sI, gR_sL, gR_sB, gB_sI, gB_sL, gB_sR, gI_sIs, gL_sLs, gR_sRs, gB_sBs, gI_sIn, gL_sLn, gR_sRn, gB_sBn, rdI_ok, rdL_ok, rdB_ok, wrI_ok, wrL_ok, wrB_ok, nl, nI_add, nI_mul, iSub, iEq, iLe, iLt, iEqN, iNEq, iNN, iLtN, iNLt, iLeN, iNLe, iAddN, iNAdd, iMin, iMax, iDiv, iRem, h2', t3, h6' i hi]
    rw [if_neg (by omega), if_neg (by omega)]
/-- the answer of near -/
def nrA (w : List Nat) (b : Option (List Nat)) : Int32 := match b with
  | none => -1
  | some b => nI (edT w b)
def wNe (n : Nat) : Nat → Nat → Nat → Prop := fun t a _ => (t = 0 ∧ n ≤ a ∧ a < n + 4) ∨ (t = 1 ∧ a = n)
theorem Ne_lookIn_ok {e : Nat} {da : Nat → Nat} {σ : Mem} {st sp : Bool} {D : List DocT} {i : Nat} {v : VwT} {tp : Nat → Nat} {n : Nat} (hF : cFix e σ st sp) (hV : cView e da σ D i v) (hi : i < 4) (ho : v.1 = true) (hT : okTx D) (hd : ∀ d, d ∈ vDocs v → d < D.length) (hA : tpA σ (e + 3) tp) (hn : n ≤ 600) (hwd : isWd tp 0 n) (h : isNe σ (e + 351)) : ∃ σ' b, Ne_lookIn σ (e + 351) (some (e + (8 + 4 * i))) (some (e + 3)) (nI n) = some (nrA (small tp 0 n) b, σ') ∧ Kp (wNe (e + 351)) σ σ' ∧ gN σ' = gN σ ∧ gU σ' = gU σ ∧ nB (small tp 0 n) (dfS D v 1) (cand D v) b ∧ (b = none → gL σ' (e + 351) 0 = gL σ (e + 351) 0) ∧ ∀ u, b = some u → gL σ' (e + 351) 0 = lN (enc u) := by
  have hw := small_term hwd
  have t0 := h.1
  have r4 := h.2.2.2.2.1
  have hNe := hF.N
  obtain ⟨σ1, e1, k1, n1, u1, s1⟩ := Ne_spell_ok h.2.1 (by omega) hw
  have T1 : (gT σ1 (e + 351)).1 = 2 := by rw [k1.T (by omega)]; exact t0
  unfold Ne_lookIn
  rw [show (0 : Int32) = nI 0 from rfl, Sp_leastBeginning_ok hA (by omega)]
  simp (disch := first | assumption | omega | (simp only [gT_sI, gT_sL, gT_sR, gT_sB]; first | assumption | omega)) only [Option.bind_some, ldI_ok, ldL_ok, ldR_ok, ldB_ok, stI_ok, stL_ok, stR_ok, stB_ok, chk_ok, raI_k, raL_k, raR_k, raB_k, waI_k, waL_k, waB_k, waR_k, alen_k, gT_sI, gT_sL, gT_sR, gT_sB, gN_sI, gN_sL, gN_sR, gN_sB, gI_sL, gI_sR, gI_sB, gL_sI, gL_sR, gL_sB, gR_sI, gR_sL, gR_sB, gB_sI, gB_sL, gB_sR, gI_sIs, gL_sLs, gR_sRs, gB_sBs, gI_sIn, gL_sLn, gR_sRn, gB_sBn, rdI_ok, rdL_ok, rdB_ok, wrI_ok, wrL_ok, wrB_ok, r4]
  rw [e1]
  simp (disch := first | assumption | omega | (simp only [gT_sI, gT_sL, gT_sR, gT_sB]; first | assumption | omega)) only [Option.bind_some, ldI_ok, ldL_ok, ldR_ok, ldB_ok, stI_ok, stL_ok, stR_ok, stB_ok, chk_ok, raI_k, raL_k, raR_k, raB_k, waI_k, waL_k, waB_k, waR_k, alen_k, gT_sI, gT_sL, gT_sR, gT_sB, gN_sI, gN_sL, gN_sR, gN_sB, gI_sL, gI_sR, gI_sB, gL_sI, gL_sR, gL_sB, gR_sI, gR_sL, gR_sB, gB_sI, gB_sL, gB_sR, gI_sIs, gL_sLs, gR_sRs, gB_sBs, gI_sIn, gL_sLn, gR_sRn, gB_sBn, rdI_ok, rdL_ok, rdB_ok, wrI_ok, wrL_ok, wrB_ok]
  have hws : (small tp 0 n).length ≤ 12 := hw.1
  generalize small tp 0 n = w at *
  have k2 : Kp (wNe (e + 351)) σ (sI (sI σ1 (e + 351) 5 (nI w.length)) (e + 351) 1 3) := Kp.tr (Kp.tr (k1.mono (fun _ _ _ _ q => by unfold wNe; omega)) (Kp.sI (W := wNe (e + 351)) (by unfold wNe; omega)) (fun _ _ _ _ q => q)) (Kp.sI (W := wNe (e + 351)) (by unfold wNe; omega)) (fun _ _ _ _ q => q)
  have s2 : ∀ k, k < 12 → gI (sI (sI σ1 (e + 351) 5 (nI w.length)) (e + 351) 1 3) (e + 351 + 1) k = nI (dg w k) := fun k hk => by
    simp (disch := first | assumption | omega | (simp only [gT_sI, gT_sL, gT_sR, gT_sB]; first | assumption | omega)) only [Option.bind_some, ldI_ok, ldL_ok, ldR_ok, ldB_ok, stI_ok, stL_ok, stR_ok, stB_ok, chk_ok, raI_k, raL_k, raR_k, raB_k, waI_k, waL_k, waB_k, waR_k, alen_k, gT_sI, gT_sL, gT_sR, gT_sB, gN_sI, gN_sL, gN_sR, gN_sB, gI_sL, gI_sR, gI_sB, gL_sI, gL_sR, gL_sB, gR_sI, gR_sL, gR_sB, gB_sI, gB_sL, gB_sR, gI_sIs, gL_sLs, gR_sRs, gB_sBs, gI_sIn, gL_sLn, gR_sRn, gB_sBn, rdI_ok, rdL_ok, rdB_ok, wrI_ok, wrL_ok, wrB_ok]
    exact s1 k hk
  have s5 : gI (sI (sI σ1 (e + 351) 5 (nI w.length)) (e + 351) 1 3) (e + 351) 5 = nI w.length := by
    simp (disch := first | assumption | omega | (simp only [gT_sI, gT_sL, gT_sR, gT_sB]; first | assumption | omega)) only [Option.bind_some, ldI_ok, ldL_ok, ldR_ok, ldB_ok, stI_ok, stL_ok, stR_ok, stB_ok, chk_ok, raI_k, raL_k, raR_k, raB_k, waI_k, waL_k, waB_k, waR_k, alen_k, gT_sI, gT_sL, gT_sR, gT_sB, gN_sI, gN_sL, gN_sR, gN_sB, gI_sL, gI_sR, gI_sB, gL_sI, gL_sR, gL_sB, gR_sI, gR_sL, gR_sB, gB_sI, gB_sL, gB_sR, gI_sIs, gL_sLs, gR_sRs, gB_sBs, gI_sIn, gL_sLn, gR_sRn, gB_sBn, rdI_ok, rdL_ok, rdB_ok, wrI_ok, wrL_ok, wrB_ok]
  have sb : neB (sI (sI σ1 (e + 351) 5 (nI w.length)) (e + 351) 1 3) (e + 351) w (dfS D v 1) none := ⟨by simp (disch := first | assumption | omega | (simp only [gT_sI, gT_sL, gT_sR, gT_sB]; first | assumption | omega)) only [Option.bind_some, ldI_ok, ldL_ok, ldR_ok, ldB_ok, stI_ok, stL_ok, stR_ok, stB_ok, chk_ok, raI_k, raL_k, raR_k, raB_k, waI_k, waL_k, waB_k, waR_k, alen_k, gT_sI, gT_sL, gT_sR, gT_sB, gN_sI, gN_sL, gN_sR, gN_sB, gI_sL, gI_sR, gI_sB, gL_sI, gL_sR, gL_sB, gR_sI, gR_sL, gR_sB, gB_sI, gB_sL, gB_sR, gI_sIs, gL_sLs, gR_sRs, gB_sBs, gI_sIn, gL_sLn, gR_sRn, gB_sBn, rdI_ok, rdL_ok, rdB_ok, wrI_ok, wrL_ok, wrB_ok]; rfl, fun u hu => by cases hu⟩
  have n2 : gN (sI (sI σ1 (e + 351) 5 (nI w.length)) (e + 351) 1 3) = gN σ := n1
  have u2 : gU (sI (sI σ1 (e + 351) 5 (nI w.length)) (e + 351) 1 3) = gU σ := u1
  have f2 : gL (sI (sI σ1 (e + 351) 5 (nI w.length)) (e + 351) 1 3) (e + 351) 0 = gL σ (e + 351) 0 := by
    simp (disch := first | assumption | omega | (simp only [gT_sI, gT_sL, gT_sR, gT_sB]; first | assumption | omega)) only [Option.bind_some, ldI_ok, ldL_ok, ldR_ok, ldB_ok, stI_ok, stL_ok, stR_ok, stB_ok, chk_ok, raI_k, raL_k, raR_k, raB_k, waI_k, waL_k, waB_k, waR_k, alen_k, gT_sI, gT_sL, gT_sR, gT_sB, gN_sI, gN_sL, gN_sR, gN_sB, gI_sL, gI_sR, gI_sB, gL_sI, gL_sR, gL_sB, gR_sI, gR_sL, gR_sB, gB_sI, gB_sL, gB_sR, gI_sIs, gL_sLs, gR_sRs, gB_sBs, gI_sIn, gL_sLn, gR_sRn, gB_sBn, rdI_ok, rdL_ok, rdB_ok, wrI_ok, wrL_ok, wrB_ok]
    exact k1.L (by omega) (by omega)
  generalize sI (sI σ1 (e + 351) 5 (nI w.length)) (e + 351) 1 3 = σ2 at *
  clear k1 e1 s1 T1 n1 u1
  have F2 := hF.kp k2 (fun c k hc => ⟨fun q => by unfold wNe at q; omega, fun q => by unfold wNe at q; omega, fun q => by unfold wNe at q; omega⟩)
  have V2 := hV.kp k2 hNe (fun t a k h1 h2 q => by unfold wNe at q; omega) hi (fun t c k h1 h2 q => by unfold wNe at q; omega)
  have H2 := h.kp k2 (fun k q => by unfold wNe at q; omega)
  obtain ⟨σ3, hz, b, K3, N3, U3, B3, O3⟩ : ∃ z, lp (fun q : Int32 × Mem => Ne_lookIn_l25 q.2 (e + 351) (some (e + (8 + 4 * i))) q.1) (nI 0, σ2) = some z ∧ ∃ b, Kp (wCm (e + 351)) σ2 z ∧ gN z = gN σ ∧ gU z = gU σ ∧ nB w (dfS D v 1) (fun t => ∃ s, s < (vSegs v).length ∧ sgT D ((vSegs v).getD s []) t) b ∧ neB z (e + 351) w (dfS D v 1) b := by
    refine lp_for (fun k (x : Mem) => (nI k, x)) (vSegs v).length (fun k x => ∃ b, Kp (wCm (e + 351)) σ2 x ∧ gN x = gN σ ∧ gU x = gU σ ∧ nB w (dfS D v 1) (fun t => ∃ s, s < k ∧ sgT D ((vSegs v).getD s []) t) b ∧ neB x (e + 351) w (dfS D v 1) b) _ (fun k x hk hI => ?_) (fun x hI => ?_) (vSegs v).length 0 _ (by omega) ⟨none, Kp.rf, n2, u2, fun t q => by obtain ⟨s, h1, -⟩ := q; omega, sb⟩
    · left
      obtain ⟨b, K, N, U, B, O⟩ := hI
      have FX := F2.kp K (fun c k hc => ⟨fun q => by unfold wCm at q; omega, fun q => by unfold wCm at q; omega, fun q => by unfold wCm at q; omega⟩)
      have VX := V2.kp K (by omega) (fun t a k h1 h2 q => by unfold wCm at q; omega) hi (fun t c k h1 h2 q => by unfold wCm at q; omega)
      have HX := H2.kp K (fun k q => by unfold wCm at q; omega)
      obtain ⟨v1, v2, v3, -⟩ := VX.2 ho
      obtain ⟨tv, -⟩ := FX.vt hi
      obtain ⟨vo, o1, o2⟩ := Vi_termsOf_ok FX VX hi ho hk (f := 1) (by omega)
      have to := o2.t
      unfold Ne_lookIn_l25
      simp (disch := first | assumption | omega | (simp only [gT_sI, gT_sL, gT_sR, gT_sB]; first | assumption | omega)) only [Option.bind_some, ldI_ok, ldL_ok, ldR_ok, ldB_ok, stI_ok, stL_ok, stR_ok, stB_ok, chk_ok, raI_k, raL_k, raR_k, raB_k, waI_k, waL_k, waB_k, waR_k, alen_k, gT_sI, gT_sL, gT_sR, gT_sB, gN_sI, gN_sL, gN_sR, gN_sB, gI_sL, gI_sR, gI_sB, gL_sI, gL_sR, gL_sB, gR_sI, gR_sL, gR_sB, gB_sI, gB_sL, gB_sR, gI_sIs, gL_sLs, gR_sRs, gB_sBs, gI_sIn, gL_sLn, gR_sRn, gB_sBn, rdI_ok, rdL_ok, rdB_ok, wrI_ok, wrL_ok, wrB_ok, v1]
      simp (disch := omega) only [nl, nI_add, nI_mul, iSub, iEq, iLe, iLt, iEqN, iNEq, iNN, iLtN, iNLt, iLeN, iNLe, iAddN, iNAdd, iMin, iMax, iDiv, iRem]
      rw [if_neg (by omega), o1]
      simp only [Option.bind_some]
      obtain ⟨E, o3, o4⟩ := o2.E2
      obtain ⟨p1, p2, p3, p4, p5⟩ := o3
      obtain ⟨z, hz, b', Kz, Nz, Uz, Bz, Oz⟩ : ∃ z, lp (fun q : Int32 × Mem => Ne_lookIn_l46 q.2 (e + 351) (some (e + (8 + 4 * i))) (nI k) (some vo) q.1) (nI 0, x) = some z ∧ ∃ b, Kp (wCm (e + 351)) x z ∧ gN z = gN σ ∧ gU z = gU σ ∧ nB w (dfS D v 1) (fun t => (∃ s, s < k ∧ sgT D ((vSegs v).getD s []) t) ∨ (isTerm t ∧ ∃ m, m < E.length ∧ E.getD m 0 = enc t)) b ∧ neB z (e + 351) w (dfS D v 1) b := by
        refine lp_for (fun m (y : Mem) => (nI m, y)) E.length (fun m y => ∃ b, Kp (wCm (e + 351)) x y ∧ gN y = gN σ ∧ gU y = gU σ ∧ nB w (dfS D v 1) (fun t => (∃ s, s < k ∧ sgT D ((vSegs v).getD s []) t) ∨ (isTerm t ∧ ∃ m', m' < m ∧ E.getD m' 0 = enc t)) b ∧ neB y (e + 351) w (dfS D v 1) b) _ (fun m y hm hI => ?_) (fun y hI => ?_) E.length 0 _ (by omega) ⟨b, Kp.rf, N, U, nB_S B (fun t => ⟨fun q => by rcases q with q | ⟨-, m, q, -⟩; exact q; omega, .inl⟩), O⟩
        · left
          obtain ⟨b, Ky, Ny, Uy, By, Oy⟩ := hI
          have FY := FX.kp Ky (fun c k hc => ⟨fun q => by unfold wCm at q; omega, fun q => by unfold wCm at q; omega, fun q => by unfold wCm at q; omega⟩)
          have VY := VX.kp Ky (by omega) (fun t a k h1 h2 q => by unfold wCm at q; omega) hi (fun t c k h1 h2 q => by unfold wCm at q; omega)
          have HY := HX.kp Ky (fun k q => by unfold wCm at q; omega)
          have sy : ∀ k, k < 12 → gI y (e + 351 + 1) k = nI (dg w k) := fun k hk => by
            rw [Ky.I (by omega) (by unfold wCm; omega), K.I (by omega) (by unfold wCm; omega)]
            exact s2 k hk
          have s5y : gI y (e + 351) 5 = nI w.length := by
            rw [Ky.I (by omega) (by unfold wCm; omega), K.I (by omega) (by unfold wCm; omega)]
            exact s5
          obtain ⟨to, o5, o6⟩ := o4 y _ Ky (fun t a k h1 h2 q => by unfold wCm at q; omega)
          have hE := getD_mem (d := 0) hm
          obtain ⟨z0, z1⟩ := (p3 _).mp hE
          obtain ⟨t, ht, hte⟩ : ∃ t, isTerm t ∧ enc t = E.getD m 0 := by
            unfold sgc at z1
            obtain ⟨k1, hk1, q1⟩ := cN_pos.mp z1
            have q1 := of_decide_eq_true q1
            unfold tcn at q1
            obtain ⟨j1, hj1, q2⟩ := cN_pos.mp q1
            have q2 := of_decide_eq_true q2
            exact ⟨_, ((hT _ 1 (hd _ (segs_mem hk (getD_mem hk1))) (by omega)).2 _ (getD_mem (d := (0, 0, [])) hj1)).2.2, q2⟩
          have hn : t ≠ [] := fun q => z0 (by rw [← hte, q]; rfl)
          unfold Ne_lookIn_l46
          rw [if_neg (by simp), chk_ok to]
          simp only [Option.bind_some]
          rw [o5]
          simp only [Option.bind_some]
          simp only [iLe (show E.length < 2147483648 by omega) (show m < 2147483648 by omega)]
          rw [if_neg (by omega), o6 m hm, ← hte]
          simp only [Option.bind_some]
          rw [chk_ok HY.1]
          simp only [Option.bind_some]
          obtain ⟨σ', b', g1, g2, g3, g4, g5, g6⟩ := Ne_compare_ok FY VY hi ho hw ht hn HY sy s5y (S' := fun t => (∃ s, s < k ∧ sgT D ((vSegs v).getD s []) t) ∨ (isTerm t ∧ ∃ m', m' < m + 1 ∧ E.getD m' 0 = enc t)) By (fun u => by
            constructor
            · rintro (q | ⟨q, m', q1, q2⟩)
              · exact .inl (.inl q)
              · by_cases z : m' = m
                · subst z
                  exact .inr (enc_inj q ht (by rw [hte, q2]))
                · exact .inl (.inr ⟨q, m', by omega, q2⟩)
            · rintro ((q | ⟨q, m', q1, q2⟩) | rfl)
              · exact .inl q
              · exact .inr ⟨q, m', by omega, q2⟩
              · exact .inr ⟨ht, m, by omega, hte.symm⟩) Oy
          rw [g1]
          exact ⟨σ', by rw [show (1 : Int32) = nI 1 from rfl, nI_add]; rfl, b', Kp.tr Ky g2 (fun _ _ _ _ q => q), by omega, by omega, g5, g6⟩
        · obtain ⟨b, Ky, Ny, Uy, By, Oy⟩ := hI
          obtain ⟨to, o5, o6⟩ := o4 y _ Ky (fun t a k h1 h2 q => by unfold wCm at q; omega)
          refine ⟨y, ?_, b, Ky, Ny, Uy, By, Oy⟩
          unfold Ne_lookIn_l46
          rw [if_neg (by simp), chk_ok to]
          simp only [Option.bind_some]
          rw [o5]
          simp only [Option.bind_some]
          simp only [iLe (show E.length < 2147483648 by omega) (show E.length < 2147483648 by omega)]
          rw [if_pos (Nat.le_refl _)]
      rw [hz]
      refine ⟨z, rfl, b', Kp.tr K Kz (fun _ _ _ _ q => q), Nz, Uz, nB_S Bz (fun t => ?_), Oz⟩
      constructor
      · rintro ⟨s, q1, q2⟩
        by_cases z : s = k
        · subst z
          obtain ⟨q3, q4, q5⟩ := q2
          obtain ⟨m, hm, q6⟩ := List.getElem_of_mem ((p3 (enc t)).mpr ⟨fun q => q4 ((enc_0 q3).mp q), q5⟩)
          refine .inr ⟨q3, m, hm, ?_⟩
          rw [List.getD_eq_getElem?_getD, List.getElem?_eq_getElem hm]
          exact q6
        · exact .inl ⟨s, by omega, q2⟩
      · rintro (⟨s, q1, q2⟩ | ⟨q1, m, q2, q3⟩)
        · exact ⟨s, by omega, q2⟩
        · have q4 := (p3 _).mp (getD_mem (d := 0) q2)
          rw [q3] at q4
          exact ⟨k, by omega, q1, fun q => q4.1 ((enc_0 q1).mpr q), q4.2⟩
    · obtain ⟨b, K, N, U, B, O⟩ := hI
      have VX := V2.kp K (by omega) (fun t a k h1 h2 q => by unfold wCm at q; omega) hi (fun t c k h1 h2 q => by unfold wCm at q; omega)
      have FX := F2.kp K (fun c k hc => ⟨fun q => by unfold wCm at q; omega, fun q => by unfold wCm at q; omega, fun q => by unfold wCm at q; omega⟩)
      obtain ⟨v1, v2, v3, -⟩ := VX.2 ho
      obtain ⟨tv, -⟩ := FX.vt hi
      refine ⟨x, ?_, b, K, N, U, B, O⟩
      unfold Ne_lookIn_l25
      simp (disch := first | assumption | omega | (simp only [gT_sI, gT_sL, gT_sR, gT_sB]; first | assumption | omega)) only [Option.bind_some, ldI_ok, ldL_ok, ldR_ok, ldB_ok, stI_ok, stL_ok, stR_ok, stB_ok, chk_ok, raI_k, raL_k, raR_k, raB_k, waI_k, waL_k, waB_k, waR_k, alen_k, gT_sI, gT_sL, gT_sR, gT_sB, gN_sI, gN_sL, gN_sR, gN_sB, gI_sL, gI_sR, gI_sB, gL_sI, gL_sR, gL_sB, gR_sI, gR_sL, gR_sB, gB_sI, gB_sL, gB_sR, gI_sIs, gL_sLs, gR_sRs, gB_sBs, gI_sIn, gL_sLn, gR_sRn, gB_sBn, rdI_ok, rdL_ok, rdB_ok, wrI_ok, wrL_ok, wrB_ok, v1]
      simp (disch := omega) only [nl, nI_add, nI_mul, iSub, iEq, iLe, iLt, iEqN, iNEq, iNN, iLtN, iNLt, iLeN, iNLe, iAddN, iNAdd, iMin, iMax, iDiv, iRem]
      rw [if_pos (Nat.le_refl _)]
  rw [hz]
  have HZ := H2.kp K3 (fun k q => by unfold wCm at q; omega)
  have TZ := HZ.1
  have B4 := nB_S B3 (fun t => (cand_iff hT hd t).symm)
  obtain ⟨O4, O5⟩ := O3
  have f3 : gL σ3 (e + 351) 0 = gL σ (e + 351) 0 := by
    rw [K3.L (by omega) (by unfold wCm; omega)]
    exact f2
  have K4 : Kp (wNe (e + 351)) σ σ3 := Kp.tr k2 K3 (fun _ _ _ _ q => by unfold wCm at q; unfold wNe; omega)
  simp (disch := first | assumption | omega | (simp only [gT_sI, gT_sL, gT_sR, gT_sB]; first | assumption | omega)) only [Option.bind_some, ldI_ok, ldL_ok, ldR_ok, ldB_ok, stI_ok, stL_ok, stR_ok, stB_ok, chk_ok, raI_k, raL_k, raR_k, raB_k, waI_k, waL_k, waB_k, waR_k, alen_k, gT_sI, gT_sL, gT_sR, gT_sB, gN_sI, gN_sL, gN_sR, gN_sB, gI_sL, gI_sR, gI_sB, gL_sI, gL_sR, gL_sB, gR_sI, gR_sL, gR_sB, gB_sI, gB_sL, gB_sR, gI_sIs, gL_sLs, gR_sRs, gB_sBs, gI_sIn, gL_sLn, gR_sRn, gB_sBn, rdI_ok, rdL_ok, rdB_ok, wrI_ok, wrL_ok, wrB_ok, O4]
  cases b with
  | none =>
    rw [edO_n, if_neg (by decide)]
    exact ⟨σ3, none, rfl, K4, N3, U3, B4, fun _ => f3, fun u hu => by cases hu⟩
  | some b =>
    rw [edO_s]
    have c2 : (nI (edT w b) ≤ 2) = (edT w b ≤ 2) := iLe (b := 2) (by have := B3.2.2.2.1; omega) (by omega)
    rw [if_pos (c2.mpr B3.2.2.2.1)]
    simp (disch := first | assumption | omega | (simp only [gT_sI, gT_sL, gT_sR, gT_sB]; first | assumption | omega)) only [Option.bind_some, ldI_ok, ldL_ok, ldR_ok, ldB_ok, stI_ok, stL_ok, stR_ok, stB_ok, chk_ok, raI_k, raL_k, raR_k, raB_k, waI_k, waL_k, waB_k, waR_k, alen_k, gT_sI, gT_sL, gT_sR, gT_sB, gN_sI, gN_sL, gN_sR, gN_sB, gI_sL, gI_sR, gI_sB, gL_sI, gL_sR, gL_sB, gR_sI, gR_sL, gR_sB, gB_sI, gB_sL, gB_sR, gI_sIs, gL_sLs, gR_sRs, gB_sBs, gI_sIn, gL_sLn, gR_sRn, gB_sBn, rdI_ok, rdL_ok, rdB_ok, wrI_ok, wrL_ok, wrB_ok, (O5 b rfl).2, O4, edO_s]
    exact ⟨_, some b, rfl, Kp.tr K4 (Kp.sL (W := wNe (e + 351)) (by unfold wNe; omega)) (fun _ _ _ _ q => q), N3, U3, B4, fun q => (by cases q), fun u hu => by cases hu; rw [gL_sLs]⟩
