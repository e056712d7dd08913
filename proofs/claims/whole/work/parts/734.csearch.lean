/-! the class: the hits of a view are collected -/
def wLp (e : Nat) : Nat → Nat → Nat → Prop := fun t a k => (t = 0 ∧ a = e + 24 ∧ k = 4) ∨ wAn e t a k
theorem wLp_Sr {e g q : Nat} : ∀ t a k, wLp e t a k → wSr e g q t a k := fun t a k z => by
  unfold wLp wAn at z
  unfold wSr
  omega
theorem cSc_kp {σ τ : Mem} {e q : Nat} {D : List DocT} {v : VwT} {PP : List PT} (hQ : isQ τ (e + q)) (hq : q = 25 ∨ q = 189) (h : cSc σ (e + q) D v PP) (hN : e + 401 ≤ gN σ) (hk : Kp (wLp e) σ τ) : cSc τ (e + q) D v PP := by
  obtain ⟨a, b, c, d, f⟩ := h
  have hl := b.2.1
  refine ⟨hQ, b.kp hk (by omega) (fun t c k hc z => by unfold wLp wAn at z; omega), c, d, fun j hj h1 g h2 h3 => ?_⟩
  rw [hk.I (by omega) (by unfold wLp wAn; omega)]
  exact f j hj h1 g h2 h3
theorem E_search_loop {e q i g : Nat} {da : Nat → Nat} {σ σ4 : Mem} {tp0 : Nat → Nat} {n0 : Nat} {D : List DocT} {dl : Nat → Bool} {bs : Nat} {G : List SegT} {V : Nat → VwT} {nr : Option (List Nat)} {mg : Nat} {st sp : Bool} {tp : Nat → Nat} {n : Nat} {Y : QSt} {f : Sem} (hA0 : cHa e da σ tp0 n0 D dl bs G V nr mg st sp) (hq : q = 25 ∨ q = 189) (hg : g = gN σ) (hk : Kp (wSr e g q) σ σ4) (hi : i < 4) (ho : (V i).1 = true) (ht : ∀ j, j < 600 → tp j < 256) (hn : n ≤ 600) (hT : okTx D) (hVd : okV D V) (hp : qParse st sp tp n (evA D (V i)) = .inr (Y, f)) (hS : cSc σ4 (e + q) D (V i) Y.1) (h4 : gI σ4 (e + 24) 4 = nI 0) : ∃ τ, lp (fun z : Int32 × Mem => E_search_l94 z.2 e (some (e + (8 + 4 * i))) (some (e + q)) z.1) (0, σ4) = some τ ∧ Kp (wLp e) σ4 τ ∧ gN τ = gN σ4 ∧ gU τ = gU σ4 ∧ gI τ (e + 24) 4 = nI (hitL (V i) f (vDocs (V i)).length).length ∧ ∀ j, j < (hitL (V i) f (vDocs (V i)).length).length → hH e da τ j ((hitL (V i) f (vDocs (V i)).length).getD j (0, 0)) := by
  subst hg
  have hN := hA0.1.N
  have hn4 := hk.n
  have hle : (vDocs (V i)).length ≤ 400 := ((hA0.2.2.2.2.2.1 i hi).2 ho).2.2.2.2.1
  have hD4 : D.length ≤ 400 := hA0.2.2.1.2.1
  let J : Nat → Mem → Prop := fun k τ => Kp (wLp e) σ4 τ ∧ gN τ = gN σ4 ∧ gU τ = gU σ4 ∧ gI τ (e + 24) 4 = nI (hitL (V i) f k).length ∧ ∀ j, j < (hitL (V i) f k).length → hH e da τ j ((hitL (V i) f k).getD j (0, 0))
  show ∃ τ, lp (fun z : Int32 × Mem => E_search_l94 z.2 e (some (e + (8 + 4 * i))) (some (e + q)) z.1) (nI 0, σ4) = some τ ∧ J (vDocs (V i)).length τ
  refine lp_for (f := fun z : Int32 × Mem => E_search_l94 z.2 e (some (e + (8 + 4 * i))) (some (e + q)) z.1) (fun k τ => (nI k, τ)) (vDocs (V i)).length J (J (vDocs (V i)).length) (fun k τ hkk hJ => Or.inl ?_) (fun τ hJ => ⟨τ, ?_, hJ⟩) (vDocs (V i)).length 0 σ4 (by omega) ⟨Kp.rf, rfl, rfl, h4, fun j hj => absurd hj (Nat.not_lt_zero _)⟩
  · obtain ⟨g1, gn, gu, h5, h6⟩ := hJ
    have K := hk.tr g1 (fun t a k _ z => wLp_Sr t a k z)
    have H := cHa_kp hA0 hq K
    have hF := H.1
    have hV := H.2.2.2.2.2.1 i hi
    have hDc := H.2.2.1
    have t0 := iFix0 hF
    have tv := (hF.vt hi).1
    have hS' := cSc_kp (hF.q hq) hq hS (by omega) g1
    have b4 := (hV.2 ho).2.2.2.1
    have hlen := hitL_len (v := V i) (f := f) k
    have hm : (vDocs (V i)).getD k 0 ∈ vDocs (V i) := by
      rw [List.getD_eq_getElem?_getD, List.getElem?_eq_getElem hkk]
      exact List.getElem_mem _
    have hdd := hVd i hi ho _ hm
    have hdoc := (hDc.2.2 _ hdd).2.1
    have hpl : Y.1.length ≤ 40 := hS'.2.1.2.1
    have tq := hS'.1.1
    have hstep : ∀ τ', Kp (wLp e) τ τ' → gN τ' = gN τ → gU τ' = gU τ → gI τ' (e + 24) 4 = nI (hitL (V i) f (k + 1)).length → (∀ j, j < (hitL (V i) f (k + 1)).length → hH e da τ' j ((hitL (V i) f (k + 1)).getD j (0, 0))) → J (k + 1) τ' := fun τ' a b c d e' => ⟨g1.tr a (fun _ _ _ _ z => z), b.trans gn, c.trans gu, d, e'⟩
    have hsame : hitL (V i) f (k + 1) = hitL (V i) f k → J (k + 1) τ := fun z => hstep τ Kp.rf rfl rfl (by rw [z]; exact h5) (by rw [z]; exact h6)
    show ∃ s', E_search_l94 τ e (some (e + (8 + 4 * i))) (some (e + q)) (nI k) = some (.inl (nI (k + 1), s')) ∧ J (k + 1) s'
    unfold E_search_l94
    rw [ldI_ok tv, b4]
    simp only [Option.bind_some]
    rw [if_neg (by rw [iLe (by omega) (by omega)]; omega), chk_ok tv]
    simp only [Option.bind_some]
    rw [Vi_liveAt_ok hF hV hi ho hkk]
    simp only [Option.bind_some]
    by_cases hd : vDead (V i) k = true
    · rw [if_pos hd, if_pos rfl]
      refine ⟨τ, ?_, hsame ?_⟩
      · simp only [Option.bind_some]
        rw [show (1 : Int32) = nI 1 from rfl, nI_add]
      · rw [hitL, if_pos hd, List.append_nil]
    · rw [if_neg hd, if_neg (by simp), ldR_ok t0, hF.an]
      simp only [Option.bind_some]
      rw [ldI_ok tq, hS'.2.1.1]
      simp only [Option.bind_some]
      rw [chk_ok tq]
      simp only [Option.bind_some]
      obtain ⟨s1, s2⟩ := Qu_score_ok ht hn hT hdd hp hS' hdoc
      rw [s1]
      simp only [Option.bind_some]
      have tan := iFix hF 24 0 0 (by decide) rfl
      rw [chk_ok tan.1]
      simp only [Option.bind_some]
      cases hs : f ((vDocs (V i)).getD k 0) with
      | none =>
        refine ⟨τ, ?_, hsame ?_⟩
        · unfold An_take enO
          rw [if_pos rfl]
          simp only [Option.bind_some]
          rw [show (1 : Int32) = nI 1 from rfl, nI_add]
        · rw [hitL, if_neg hd, hs]
          exact List.append_nil _
      | some w =>
        have hw := s2 w hs
        unfold qCap at hw
        have hR := hF.2.1
        have r2 : gR τ (e + 24) 2 = some (e + 187) := hR.2.2.2.2.2.2.2.2.2.2.1
        have r3 : gR τ (e + 24) 3 = some (e + 188) := hR.2.2.2.2.2.2.2.2.2.2.2.1
        have et := An_take_ok (w := w) tan.1 r2 r3 h5 (by omega) (iFix hF 187 104 400 (by decide) rfl) (iFix hF 188 100 400 (by decide) rfl) hdoc.1.t (by omega)
        have hL : hitL (V i) f (k + 1) = hitL (V i) f k ++ [((vDocs (V i)).getD k 0, w)] := by
          rw [hitL, if_neg hd, hs]
        show ∃ s', ((An_take τ (e + 24) (some (da ((vDocs (V i)).getD k 0))) (nI w)).bind fun v34 => some v34).bind (fun q27 => some (Sum.inl (nI k + 1, q27))) = _ ∧ _
        rw [et]
        simp only [Option.bind_some]
        have kk : Kp (wLp e) τ (sI (sI (sR τ (e + 187) (hitL (V i) f k).length (some (da ((vDocs (V i)).getD k 0)))) (e + 188) (hitL (V i) f k).length (nI w)) (e + 24) 4 (nI ((hitL (V i) f k).length + 1))) := by
          refine (Kp.sR (W := wLp e) (.inr (.inl ⟨rfl, rfl⟩))).tr (W' := wLp e) ((Kp.sI (W := wLp e) (.inr (.inr ⟨rfl, rfl⟩))).tr (W' := wLp e) (Kp.sI (W := wLp e) (.inl ⟨rfl, rfl, rfl⟩)) (fun _ _ _ _ z => z)) (fun _ _ _ _ z => z)
        refine ⟨_, ?_, hstep _ kk rfl rfl ?_ ?_⟩
        · rw [show (1 : Int32) = nI 1 from rfl, nI_add]
        · rw [gI_sIs, hL, List.length_append, List.length_singleton]
        · rw [hL, List.length_append, List.length_singleton]
          intro j hj
          unfold hH
          by_cases hjk : j = (hitL (V i) f k).length
          · subst hjk
            have eg : (hitL (V i) f k ++ [((vDocs (V i)).getD k 0, w)]).getD (hitL (V i) f k).length (0, 0) = ((vDocs (V i)).getD k 0, w) := by
              rw [List.getD_eq_getElem?_getD, List.getElem?_append_right (Nat.le_refl _), Nat.sub_self]
              rfl
            rw [eg]
            refine ⟨?_, ?_⟩
            · rw [gR_sI, gR_sI, gR_sRs]
            · rw [gI_sIn (by omega), gI_sIs]
          · have eg : (hitL (V i) f k ++ [((vDocs (V i)).getD k 0, w)]).getD j (0, 0) = (hitL (V i) f k).getD j (0, 0) := by
              rw [List.getD_eq_getElem?_getD, List.getElem?_append_left (by omega), ← List.getD_eq_getElem?_getD]
            rw [eg]
            obtain ⟨z1, z2⟩ := h6 j (by omega)
            refine ⟨?_, ?_⟩
            · rw [gR_sI, gR_sI, gR_sRn (by omega)]; exact z1
            · rw [gI_sIn (by omega), gI_sIn (by omega), gI_sR]; exact z2
  · obtain ⟨g1, gn, gu, h5, h6⟩ := hJ
    have K := hk.tr g1 (fun t a k _ z => wLp_Sr t a k z)
    have H := cHa_kp hA0 hq K
    have hV := H.2.2.2.2.2.1 i hi
    have tv := (H.1.vt hi).1
    have b4 := (hV.2 ho).2.2.2.1
    show E_search_l94 τ e (some (e + (8 + 4 * i))) (some (e + q)) (nI (vDocs (V i)).length) = _
    unfold E_search_l94
    rw [ldI_ok tv, b4]
    simp only [Option.bind_some]
    rw [if_pos (by rw [iLe (by omega) (by omega)]; omega)]
