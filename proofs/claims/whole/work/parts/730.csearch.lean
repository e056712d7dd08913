/-! the class: a query's parts are weighed; a document that lives; the hits -/
def wWg (q : Nat) : Nat → Nat → Nat → Prop := fun t a _ => t = 0 ∧ q + 5 ≤ a ∧ a < q + 162 ∧ (a - q) % 4 = 1
theorem wWg_F {e q : Nat} : Wf e (wWg q) := fun c k hc => ⟨fun z => (by unfold wWg at z; omega), fun z => (by unfold wWg at z; omega), fun z => (by unfold wWg at z; omega)⟩
theorem cQuery_wg {σ σ' : Mem} {q : Nat} {P : List PT} (h : cQuery σ q P) (hk : Kp (wWg q) σ σ') (hN : q + 162 ≤ gN σ) : cQuery σ' q P := ⟨by rw [hk.I (by omega) (by unfold wWg; omega)]; exact h.1, h.2.1, fun j hj => (h.2.2 j hj).kp hk (by have := h.2.1; omega) (fun t a k z1 z2 z => by have := h.2.1; unfold wWg at z; omega)⟩
theorem Qu_weigh_ok {e aq i : Nat} {da : Nat → Nat} {σ : Mem} {st sp : Bool} {D : List DocT} {v : VwT} {PP : List PT} (hF : cFix e σ st sp) (hV : cView e da σ D i v) (hi : i < 4) (ho : v.1 = true) (ha : aq = 25 ∨ aq = 189) (hC : cQuery σ (e + aq) PP) (hok : okPs PP) : ∃ σ', Qu_weigh σ (e + aq) (some (e + (8 + 4 * i))) = some σ' ∧ Kp (wWg (e + aq)) σ σ' ∧ ∀ j, j < PP.length → cRar σ' (e + aq + (2 + 4 * j)) D v (PP.getD j default) := by
  have hN := hF.N
  have hl := hC.2.1
  have haq : 25 ≤ aq ∧ aq ≤ 189 := by omega
  have key : ∃ z, lp (fun q : Int32 × Mem => Qu_weigh_l2 q.2 (e + aq) (some (e + (8 + 4 * i))) q.1) (nI 0, σ) = some z ∧ (Kp (wWg (e + aq)) σ z ∧ ∀ k, k < PP.length → cRar z (e + aq + (2 + 4 * k)) D v (PP.getD k default)) := by
    refine lp_for (f := fun q : Int32 × Mem => Qu_weigh_l2 q.2 (e + aq) (some (e + (8 + 4 * i))) q.1) (fun j τ => (nI j, τ)) PP.length (fun j τ => Kp (wWg (e + aq)) σ τ ∧ ∀ k, k < j → cRar τ (e + aq + (2 + 4 * k)) D v (PP.getD k default)) (fun τ => Kp (wWg (e + aq)) σ τ ∧ ∀ k, k < PP.length → cRar τ (e + aq + (2 + 4 * k)) D v (PP.getD k default)) (fun j τ hj hI => Or.inl ?_) (fun τ hI => ⟨τ, ?_, hI⟩) PP.length 0 σ (by omega) ⟨Kp.rf, fun k hk => absurd hk (Nat.not_lt_zero _)⟩
    · obtain ⟨g, hr⟩ := hI
      have hn := g.n
      have hF' := hF.kp g wWg_F
      have hV' : cView e da τ D i v := hV.kp g hN (fun t a k z1 z2 z => by unfold wWg at z; omega) hi (fun t c k z1 z2 z => by unfold wWg at z; omega)
      have hQ := hF'.q ha
      have hC' := cQuery_wg hC g (by omega)
      have tq := hQ.1
      obtain ⟨ta, tb⟩ : (gT τ (e + aq + 1)).1 = 107 ∧ (gT τ (e + aq + 1)).2 = 40 := by rw [hQ.2.2.1]; exact ⟨rfl, rfl⟩
      obtain ⟨rp, pk⟩ := hQ.2.2.2 j (by omega)
      have hx := hC'.2.2 j hj
      have hxm : PP.getD j default ∈ PP := by
        rw [List.getD_eq_getElem?_getD, List.getElem?_eq_getElem hj]
        exact List.getElem_mem hj
      obtain ⟨τ', f1, f2, f3⟩ := Pa_weigh_ok hF' hV' hi ho pk hx (hok _ hxm) (by omega) (by omega)
      refine ⟨τ', ?_, g.tr f2 (fun t a k _ z => by unfold wRr at z; unfold wWg; omega), fun k hk => ?_⟩
      · show Qu_weigh_l2 τ (e + aq) (some (e + (8 + 4 * i))) (nI j) = _
        unfold Qu_weigh_l2
        rw [ldI_ok tq, hC'.1]
        simp only [Option.bind_some]
        rw [if_neg (by rw [iLe (by omega) (by omega)]; omega), ldR_ok tq, hQ.2.1]
        simp only [Option.bind_some]
        rw [raR_k (t := 7) ta (by rw [tb]; omega) (by omega), rp]
        simp only [Option.bind_some]
        rw [chk_ok pk.1]
        simp only [Option.bind_some]
        rw [f1]
        simp only [Option.bind_some]
        rw [show (1 : Int32) = nI 1 from rfl, nI_add]
      · by_cases hkj : k = j
        · rw [hkj]; exact f3
        · have := hr k (by omega)
          intro h1 f h2 h3
          rw [f2.I (by omega) (by unfold wRr; omega)]
          exact this h1 f h2 h3
    · obtain ⟨g, hr⟩ := hI
      have hF' := hF.kp g wWg_F
      have tq := (hF'.q ha).1
      have hC' := cQuery_wg hC g (by omega)
      show Qu_weigh_l2 τ (e + aq) (some (e + (8 + 4 * i))) (nI PP.length) = _
      unfold Qu_weigh_l2
      rw [ldI_ok tq, hC'.1]
      simp only [Option.bind_some]
      rw [if_pos (by rw [iLe (by omega) (by omega)]; omega)]
  obtain ⟨z, e1, e2⟩ := key
  refine ⟨z, ?_, e2⟩
  unfold Qu_weigh
  have e1 : lp (fun q : Int32 × Mem => Qu_weigh_l2 q.2 (e + aq) (some (e + (8 + 4 * i))) q.1) (0, σ) = some z := e1
  rw [e1]
  rfl
theorem Vi_liveAt_ok {e i k : Nat} {da : Nat → Nat} {σ : Mem} {st sp : Bool} {D : List DocT} {v : VwT} (hF : cFix e σ st sp) (hV : cView e da σ D i v) (hi : i < 4) (ho : v.1 = true) (hk : k < (vDocs v).length) : Vi_liveAt σ (e + (8 + 4 * i)) (nI k) = some (if vDead v k = true then none else some (da ((vDocs v).getD k 0))) := by
  obtain ⟨t1, t2, ⟨t3, t4⟩, t5, t6⟩ := hF.vt hi
  obtain ⟨r1, r2, r3, r4⟩ := hF.va hi
  obtain ⟨b1, b2, b3, b4, b5, b6, b7⟩ := hV.2 ho
  obtain ⟨c1, c2⟩ := b6 k hk
  unfold Vi_liveAt
  rw [if_neg (by rw [show (0 : Int32) = nI 0 from rfl, iLt (by omega) (by omega)]; omega), ldI_ok t1, b4]
  simp only [Option.bind_some]
  rw [if_neg (by rw [iLe (by omega) (by omega)]; omega), ldR_ok t1, r4]
  simp only [Option.bind_some]
  rw [raB_k t5 (by rw [t6]; omega) (by omega), c2]
  simp only [Option.bind_some]
  by_cases hd : vDead v k = true
  · rw [if_pos hd, if_pos hd]
  · rw [if_neg hd, if_neg hd, ldR_ok t1, r3]
    simp only [Option.bind_some]
    rw [raR_k (t := 4) t3 (by rw [t4]; omega) (by omega), c1]
    rfl
/-- the hits among the first k places of a view -/
def hitL (v : VwT) (f : Sem) : Nat → List (Nat × Nat)
  | 0 => []
  | k + 1 => hitL v f k ++ (if vDead v k = true then [] else match f ((vDocs v).getD k 0) with
    | none => []
    | some s => [((vDocs v).getD k 0, s)])
theorem hitL_len {v : VwT} {f : Sem} : ∀ k, (hitL v f k).length ≤ k
  | 0 => Nat.le_refl _
  | k + 1 => by
    have := hitL_len (v := v) (f := f) k
    unfold hitL
    rw [List.length_append]
    split
    · simp only [List.length_nil]; omega
    · split
      · simp only [List.length_nil]; omega
      · simp only [List.length_singleton]; omega
theorem hitL_ok {D : List DocT} {v : VwT} {f : Sem} (hv : ∀ d, d ∈ vDocs v → d < D.length) (hD : D.length ≤ 400) (hf : ∀ d w, d < D.length → f d = some w → w ≤ qCap) : ∀ k, k ≤ (vDocs v).length → ∀ x, x ∈ hitL v f k → okH D x
  | 0, _, x, hx => absurd hx (by show ¬ x ∈ []; simp)
  | k + 1, hk, x, hx => by
    have hm : (vDocs v).getD k 0 ∈ vDocs v := by
      rw [List.getD_eq_getElem?_getD, List.getElem?_eq_getElem (show k < (vDocs v).length by omega)]
      exact List.getElem_mem _
    unfold hitL at hx
    rcases List.mem_append.mp hx with hx | hx
    · exact hitL_ok hv hD hf k (by omega) x hx
    · split at hx
      · exact absurd hx (by simp)
      · split at hx
        · exact absurd hx (by simp)
        · next s hs =>
          rw [List.mem_singleton] at hx
          rw [hx]
          exact ⟨hv _ hm, hD, hf _ _ (hv _ hm) hs⟩
/-- a list in its order -/
def srtOf (D : List DocT) (L U : List (Nat × Nat)) : Prop := U.length = L.length ∧ prm L.length (fun k => U.getD k (0, 0)) (fun k => L.getD k (0, 0)) ∧ srt (fun k => hcode D (U.getD k (0, 0))) L.length ∧ ∀ k, k < L.length → okH D (U.getD k (0, 0))
theorem srtOf_uniq {D : List DocT} {L U U' : List (Nat × Nat)} (h : srtOf D L U) (h' : srtOf D L U') : U = U' := by
  obtain ⟨a1, a2, a3, a4⟩ := h
  obtain ⟨b1, b2, b3, b4⟩ := h'
  have key := srt_uniq a3 b3 ((a2.tr b2.sy).map (hcode D))
  refine List.ext_getElem (by omega) (fun k h1 h2 => ?_)
  have h3 := hc_inj (a4 k (by omega)) (b4 k (by omega)) (key k (by omega))
  rw [List.getD_eq_getElem?_getD, List.getElem?_eq_getElem h1, List.getD_eq_getElem?_getD, List.getElem?_eq_getElem h2] at h3
  exact h3
