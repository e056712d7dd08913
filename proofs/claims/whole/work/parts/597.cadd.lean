/-! THE CLASS'S CALLS: add, the whole; frames that keep off the reference's block -/
def ke (e : Nat) (σ σ' : Mem) : Prop := ∃ W, Kp W σ σ' ∧ Wb e W
theorem ke.rf {e : Nat} {σ : Mem} : ke e σ σ := ⟨fun _ _ _ => False, Kp.rf, fun _ _ _ q => q.elim⟩
theorem ke.of {e : Nat} {σ σ' : Mem} {W : Nat → Nat → Nat → Prop} (h : Kp W σ σ') (hw : ∀ t a k, a < gN σ → W t a k → a < e + 355 ∨ e + 401 ≤ a) : ke e σ σ' := ⟨fun t a k => a < gN σ ∧ W t a k, h.mono (fun t a k ha q => ⟨ha, q⟩), fun t a k q => hw t a k q.1 q.2⟩
theorem ke.tr {e : Nat} {σ σ' σ'' : Mem} (h : ke e σ σ') (h' : ke e σ' σ'') : ke e σ σ'' := by
  obtain ⟨W, k, w⟩ := h
  obtain ⟨W', k', w'⟩ := h'
  exact ⟨fun t a k => W t a k ∨ W' t a k, Kp.tr (k.mono (fun _ _ _ _ q => Or.inl q)) k' (fun _ _ _ _ q => Or.inr q), fun t a k q => by
    rcases q with q | q
    · exact w _ _ _ q
    · exact w' _ _ _ q⟩
/-- an engine after an add: documents, deleted, buffer, segments, merges -/
abbrev AdT : Type := List DocT × (Nat → Bool) × Nat × List SegT × Nat
def addS (st sp : Bool) (tp : Nat → Nat) (n : Nat) (D : List DocT) (dl : Nat → Bool) (bs : Nat) (G : List SegT) (mg : Nat) (key : Int64) (x y : Int32) : AdT :=
  if 16 ≤ bufS (D ++ [addD st sp tp n key x y]) (dlS D dl key) bs then (D ++ [addD st sp tp n key x y], dlS D dl key, D.length + 1, (flS (dlS D dl key) bs (D.length + 1) G mg).1, (flS (dlS D dl key) bs (D.length + 1) G mg).2) else (D ++ [addD st sp tp n key x y], dlS D dl key, bs, G, mg)
theorem addD_len {st sp : Bool} {tp : Nat → Nat} {n : Nat} {key : Int64} {x y : Int32} (h : ¬ addBad tp n) (f : Nat) (hf : f < 2) : (dTok (addD st sp tp n key x y) f).length ≤ 50 + 150 * f := by
  unfold addBad at h
  have hle := fz_le tp n
  have : f = 0 ∨ f = 1 := by omega
  rcases this with rfl | rfl
  · show (toks st sp tp 0 (fz tp n)).length ≤ _
    have := toks_len (st := st) (sp := sp) (tp := tp) (a := 0) (b := fz tp n) (by omega)
    omega
  · show (toks st sp tp (min (fz tp n + 1) n) n).length ≤ _
    have := toks_len (st := st) (sp := sp) (tp := tp) (a := min (fz tp n + 1) n) (b := n) (by omega)
    omega
theorem E_add_ok {e : Nat} {da : Nat → Nat} {σ : Mem} {tp : Nat → Nat} {n : Nat} {D : List DocT} {dl : Nat → Bool} {bs : Nat} {G : List SegT} {V : Nat → VwT} {A : AnT} {nr : Option (List Nat)} {mg : Nat} {st sp : Bool} (h : cH e da σ tp n D dl bs G V A nr mg st sp) (ok : okG D bs G mg) (hD : D.length < 64) (hVd : okV D V) (hAd : okA D A) (hdl : ∀ i, D.length ≤ i → dl i = false) (key : Int64) (x y : Int32) :
    (addBad tp n → ∃ σ', E_add σ e key x y = some (-2, σ') ∧ ke e σ σ' ∧ gN σ' = gN σ ∧ gU σ' = gU σ ∧ cH e da σ' tp 0 D dl bs G V A nr mg st sp) ∧
    (¬ addBad tp n → ∃ σ' da', E_add σ e key x y = some (nI (D.length + 1), σ') ∧ ke e σ σ' ∧ gN σ' ≤ gN σ + 17 + 10 * (1 + ((addS st sp tp n D dl bs G mg key x y).2.2.2.2 - mg)) ∧ gU σ' ≤ gU σ + 6015 + 48072 * (1 + ((addS st sp tp n D dl bs G mg key x y).2.2.2.2 - mg)) ∧ cH e da' σ' tp 0 (addS st sp tp n D dl bs G mg key x y).1 (addS st sp tp n D dl bs G mg key x y).2.1 (addS st sp tp n D dl bs G mg key x y).2.2.1 (addS st sp tp n D dl bs G mg key x y).2.2.2.1 V A nr (addS st sp tp n D dl bs G mg key x y).2.2.2.2 st sp) := by
  have t0 := iFix0 h.1
  have hN := h.1.N
  have hn := h.2.1.1
  obtain ⟨e1, k1, H1⟩ := cH_tape h
  have t01 := iFix0 H1.1
  have hle := fz_le tp n
  have e2 := E_firstZero_ok H1.1 (H1.1.tape H1.2.1) hn
  have K1 : ke e σ (sI σ e 2 0) := ke.of k1 (fun t a k _ q => by omega)
  have n1 : gN (sI σ e 2 0) = gN σ := rfl
  have u1 : gU (sI σ e 2 0) = gU σ := rfl
  have hpre : E_add σ e key x y = (if 100 < nI (fz tp n) then some (-2, sI σ e 2 0) else if (nI n - (minI (nI (fz tp n) + 1) (nI n))) ≤ 400 then (ldI (sI σ e 2 0) 11 4 (some e)).bind fun v7 => if v7 < 400 then (E_drop (sI σ e 2 0) e key).bind fun v10 => ((some (nwO v10.2 8)).bind fun m11 => (ldR m11 11 1 (some e)).bind fun v12 => (ldR m11 11 0 (some e)).bind fun v13 => (Te_init m11 (gN v10.2) v12 0 (nI (fz tp n)) v13).bind fun v14 => (some (nwO v14 8)).bind fun m15 => (ldR m15 11 1 (some e)).bind fun v16 => (ldR m15 11 0 (some e)).bind fun v17 => (Te_init m15 (gN v14) v16 (minI (nI (fz tp n) + 1) (nI n)) (nI n) v17).bind fun v18 => (ldR v18 11 3 (some e)).bind fun v19 => (ldI v18 11 4 (some e)).bind fun v20 => (some (nwO v18 1)).bind fun m21 => (ldI m21 11 4 (some e)).bind fun v22 => (Do_init m21 (gN v18) key x y v22 (some (gN v10.2)) (some (gN v14))).bind fun v23 => (waR v23 4 1 v19 v20 (some (gN v18))).bind fun m24 => (ldI m24 11 4 (some e)).bind fun v25 => (stI m24 11 4 (some e) (v25 + 1)).bind fun m26 => some m26).bind fun m26 => (chk m26 11 (some e)).bind fun a27 => (E_liveInBuffer m26 a27).bind fun v28 => Option.bind (if v28 < 16 then some m26 else (chk m26 11 (some e)).bind fun a31 => (E_flush m26 a31).bind fun v32 => some v32) fun q29 => (ldI q29 11 4 (some e)).bind fun v33 => some (v33, q29) else some (-3, sI σ e 2 0) else some (-2, sI σ e 2 0)) := by
    unfold E_add
    rw [chk_ok t0]
    simp only [Option.bind_some]
    rw [e1]
    simp only [Option.bind_some]
    rw [chk_ok t01]
    simp only [Option.bind_some]
    rw [e2]
    simp only [Option.bind_some, Option.bind_assoc]
  rw [hpre]
  have c1 : (100 < nI (fz tp n)) = (100 < fz tp n) := iLt (a := 100) (by omega) (by omega)
  have em : minI (nI (fz tp n) + 1) (nI n) = nI (min (fz tp n + 1) n) := by
    simp only [nl, nI_add]
    exact iMin (by omega) (by omega)
  have c2 : (nI n - nI (min (fz tp n + 1) n) ≤ 400) = (n - min (fz tp n + 1) n ≤ 400) := by
    rw [iSub (by omega)]
    exact iLe (b := 400) (by omega) (by omega)
  simp only [c1, c2, em]
  constructor
  · intro hbad
    unfold addBad at hbad
    refine ⟨_, ?_, K1, n1, u1, H1⟩
    by_cases q : 100 < fz tp n
    · rw [if_pos q]
    · rw [if_neg q, if_neg (by omega)]
  · intro hbad
    have hbad' := hbad
    unfold addBad at hbad
    obtain ⟨o1, o2, o3, o4, o5, o6, o7, o8⟩ := ok
    rw [if_neg (by omega), if_pos (by omega), ldI_ok t01, H1.2.2.1.1]
    have c3 : (nI D.length < 400) = (D.length < 400) := iLt (b := 400) (by omega) (by omega)
    simp only [Option.bind_some, c3]
    rw [if_pos (by omega)]
    obtain ⟨σ2, e3, k2, n2, u2, H2⟩ := E_delete_ok H1 key
    have e3' : E_drop (sI σ e 2 0) e key = some (decide (fdS D dl key < D.length), σ2) := by
      unfold E_delete at e3
      rw [chk_ok t01] at e3
      simp only [Option.bind_some] at e3
      cases hq : E_drop (sI σ e 2 0) e key with
      | none => rw [hq] at e3; cases e3
      | some v => rw [hq] at e3; exact e3
    have K2 : ke e (sI σ e 2 0) σ2 := ke.of k2 (fun t a k _ q => Or.inr (by have := (H1.2.2.1.d q.1).1.1; rw [q.2.2.1]; exact this))
    rw [e3']
    simp only [Option.bind_some]
    have hdl2 : dlS D dl key D.length = false := by
      unfold dlS
      rw [if_neg (by omega)]
      exact hdl _ (Nat.le_refl _)
    obtain ⟨σ3, da', e4, k3, n3, u3, H3⟩ := cH_add (n := n) H2 hn (by omega) (by omega) o5 hVd hAd hdl2 key x y
    have K3 : ke e σ2 σ3 := ke.of k3 (fun t a k _ q => by unfold wAdd at q; omega)
    simp only [Option.bind_some] at e4
    rw [e4]
    have t03 := iFix0 H3.1
    simp only [Option.bind_some]
    rw [chk_ok t03]
    simp only [Option.bind_some]
    have hlen1 : (D ++ [addD st sp tp n key x y]).length = D.length + 1 := by rw [List.length_append]; rfl
    rw [E_liveInBuffer_ok H3.1 H3.2.2.1 H3.2.2.2.1 (by omega)]
    have hbl : bufS (D ++ [addD st sp tp n key x y]) (dlS D dl key) bs ≤ 64 := by
      have := cN_le (fun k => !dlS D dl key (bs + k)) ((D ++ [addD st sp tp n key x y]).length - bs)
      unfold bufS
      omega
    have c4 : (nI (bufS (D ++ [addD st sp tp n key x y]) (dlS D dl key) bs) < 16) = (bufS (D ++ [addD st sp tp n key x y]) (dlS D dl key) bs < 16) := iLt (b := 16) (by omega) (by omega)
    simp only [Option.bind_some, c4]
    unfold addS
    by_cases cf : 16 ≤ bufS (D ++ [addD st sp tp n key x y]) (dlS D dl key) bs
    · rw [if_neg (by omega), if_pos cf]
      have ok3 : okG (D ++ [addD st sp tp n key x y]) bs G mg := ⟨by omega, by omega, o3, o4, fun s hs d hd => by have := o5 s hs d hd; omega, o6, fun i f hi hf => by
        by_cases q : i = D.length
        · subst q; rw [dA_new]; exact addD_len hbad' f hf
        · rw [dA_app (by omega)]; exact o7 i f (by omega) hf, o8⟩
      obtain ⟨σ4, e5, k4, n4, u4, H4⟩ := cH_flush H3 ok3
      have K4 : ke e σ3 σ4 := ke.of k4 (fun t a k _ q => by unfold wF at q; omega)
      rw [e5]
      simp only [Option.bind_some]
      rw [ldI_ok (iFix0 H4.1), H4.2.2.1.1]
      simp only [Option.bind_some, hlen1] at n4 u4 H4 ⊢
      exact ⟨σ4, da', rfl, K1.tr (K2.tr (K3.tr K4)), by omega, by omega, H4⟩
    · rw [if_pos (by omega), if_neg cf]
      simp only [Option.bind_some]
      rw [ldI_ok t03, H3.2.2.1.1, hlen1]
      simp only [Option.bind_some]
      exact ⟨σ3, da', rfl, K1.tr (K2.tr K3), by omega, by omega, H3⟩
