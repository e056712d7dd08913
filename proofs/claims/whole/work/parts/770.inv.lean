/-! THE LAW: what holds between the calls, by itself -/
/-- after c calls at most -/
def okS (c : Nat) (D : List DocT) (dl : Nat → Bool) (bs : Nat) (G : List SegT) (V : Nat → VwT) (A : AnT) (nr : Option (List Nat)) (mg : Nat) : Prop :=
  (D.length ≤ c ∧ bs ≤ D.length ∧ G.length ≤ 12 ∧ mass G ≤ c ∧ 3 * mg + G.length ≤ c ∧ (∀ s, s ∈ G → ∀ d, d ∈ s.2 → d < D.length) ∧ tot G ≤ bs) ∧ okTx D ∧ bufS D dl bs < 16 ∧ (∀ i, D.length ≤ i → dl i = false) ∧ uqK D dl ∧ okV D V ∧ okVl V ∧ okA D A ∧ okPs A.2.2 ∧ okN nr
theorem okS.up {c : Nat} {D : List DocT} {dl : Nat → Bool} {bs : Nat} {G : List SegT} {V : Nat → VwT} {A : AnT} {nr : Option (List Nat)} {mg : Nat} (h : okS c D dl bs G V A nr mg) : okS (c + 1) D dl bs G V A nr mg :=
  ⟨⟨Nat.le_succ_of_le h.1.1, h.1.2.1, h.1.2.2.1, Nat.le_succ_of_le h.1.2.2.2.1, Nat.le_succ_of_le h.1.2.2.2.2.1, h.1.2.2.2.2.2⟩, h.2⟩
theorem okS.g {c : Nat} {D : List DocT} {dl : Nat → Bool} {bs : Nat} {G : List SegT} {V : Nat → VwT} {A : AnT} {nr : Option (List Nat)} {mg : Nat} (h : okS c D dl bs G V A nr mg) (hc : c < 64) : okG D bs G mg := by
  obtain ⟨⟨h1, h2, h3, h4, h5, h6, h7⟩, hT, -⟩ := h
  exact ⟨h2, by omega, h3, by omega, h6, h7, fun i f hi hf => (hT i f hi hf).1, by omega⟩
theorem okS_0 (V : Nat → VwT) (hV : ∀ i, i < 4 → (V i).1 = false) : okS 0 [] (fun _ => false) 0 [] V (-1, [], []) none 0 := by
  refine ⟨⟨Nat.le_refl _, Nat.le_refl _, by decide, by decide, by decide, fun s hs => absurd hs (by simp), by decide⟩, fun i f hi => absurd hi (Nat.not_lt_zero _), by decide, fun _ _ => rfl, fun i k hi => absurd hi (Nat.not_lt_zero _), fun i hi ho => ?_, fun i hi ho => ?_, fun k hk => absurd hk (Nat.not_lt_zero _), fun x hx => absurd hx (by simp), fun t ht => by cases ht⟩
  · rw [hV i hi] at ho; cases ho
  · rw [hV i hi] at ho; cases ho
/-- a flush -/
theorem flG_ok {dl : Nat → Bool} {bs n : Nat} {G : List SegT} (hbs : bs ≤ n) (hd : ∀ s, s ∈ G → ∀ d, d ∈ s.2 → d < n) : (flG dl bs n G).length ≤ G.length + 1 ∧ mass (flG dl bs n G) ≤ mass G + 1 ∧ tot (flG dl bs n G) ≤ tot G + (n - bs) ∧ ∀ s, s ∈ flG dl bs n G → ∀ d, d ∈ s.2 → d < n := by
  have hbl : (bufL dl bs n).length ≤ n - bs := by
    have := liv_len dl (List.range' bs (n - bs))
    rw [List.length_range'] at this
    exact this
  have hbd : ∀ d, d ∈ bufL dl bs n → d < n := fun d hd => by
    have := (List.mem_range'_1.mp (List.mem_filter.mp hd).1)
    omega
  unfold flG
  by_cases c : bufL dl bs n = []
  · rw [if_pos c]
    exact ⟨by omega, by omega, by omega, hd⟩
  · rw [if_neg c]
    refine ⟨by rw [List.length_append]; exact Nat.le_refl _, ?_, ?_, fun s hs d hd' => ?_⟩
    · unfold mass
      rw [sm_app, sm_one]
      exact Nat.le_refl _
    · unfold tot
      rw [sm_app, sm_one]
      show _ + (bufL dl bs n).length ≤ _
      omega
    · rcases List.mem_append.mp hs with h | h
      · exact hd s h d hd'
      · rw [List.mem_singleton] at h
        rw [h] at hd'
        exact hbd d hd'
theorem flS_ok {dl : Nat → Bool} {bs n mg : Nat} {G : List SegT} (hbs : bs ≤ n) (hd : ∀ s, s ∈ G → ∀ d, d ∈ s.2 → d < n) (hl : G.length ≤ 12) (hm : mass G < 64) (ht : tot G ≤ bs) : (flS dl bs n G mg).1.length ≤ 12 ∧ mass (flS dl bs n G mg).1 ≤ mass G + 1 ∧ 3 * (flS dl bs n G mg).2 + (flS dl bs n G mg).1.length ≤ 3 * mg + G.length + 1 ∧ (∀ s, s ∈ (flS dl bs n G mg).1 → ∀ d, d ∈ s.2 → d < n) ∧ tot (flS dl bs n G mg).1 ≤ n ∧ mg ≤ (flS dl bs n G mg).2 := by
  obtain ⟨a1, a2, a3, a4⟩ := flG_ok (dl := dl) hbs hd
  obtain ⟨b1, b2, b3, b4, b5, b6⟩ := mgL_ok dl 20 (flG dl bs n G) mg
  unfold flS
  refine ⟨rest_len (by omega) (b6 (by omega)), by omega, by omega, fun s hs d hd' => ?_, by omega, b5⟩
  obtain ⟨s', h1, h2⟩ := b1 s hs d hd'
  exact a4 s' h1 d h2
theorem bufS_z (D : List DocT) (dl : Nat → Bool) : bufS D dl D.length = 0 := by
  unfold bufS
  rw [Nat.sub_self]
  rfl
theorem okS.refresh {c : Nat} {D : List DocT} {dl : Nat → Bool} {bs : Nat} {G : List SegT} {V : Nat → VwT} {A : AnT} {nr : Option (List Nat)} {mg : Nat} (h : okS c D dl bs G V A nr mg) (hc : c < 64) : okS (c + 1) D dl D.length (flS dl bs D.length G mg).1 V A nr (flS dl bs D.length G mg).2 ∧ mg ≤ (flS dl bs D.length G mg).2 := by
  obtain ⟨⟨h1, h2, h3, h4, h5, h6, h7⟩, hT, hb, hr⟩ := h
  obtain ⟨a1, a2, a3, a4, a5, a6⟩ := flS_ok (dl := dl) (mg := mg) h2 h6 h3 (by omega) h7
  exact ⟨⟨⟨by omega, Nat.le_refl _, a1, by omega, by omega, a4, a5⟩, hT, by rw [bufS_z]; decide, hr⟩, a6⟩
/-- deletes -/
theorem dlS_f {D : List DocT} {dl : Nat → Bool} {key : Int64} {i : Nat} (h : dlS D dl key i = false) : dl i = false := by
  unfold dlS at h
  split at h
  · cases h
  · exact h
theorem dlS_key {D : List DocT} {dl : Nat → Bool} {key : Int64} {i : Nat} (hu : uqK D dl) (hi : i < D.length) (h : dlS D dl key i = false) : dKey (dA D i) ≠ key := fun hk => by
  have h0 := dlS_f h
  have hle : fdS D dl key ≤ i := by
    apply Nat.le_of_not_lt
    intro q
    have := fdS_not q
    unfold fdP at this
    rw [h0, hk] at this
    simp at this
  obtain ⟨b1, b2⟩ := fdS_at (show fdS D dl key < D.length by omega)
  have := hu _ _ (by omega) hi b1 h0 (by rw [b2, hk])
  unfold dlS at h
  rw [if_pos ⟨this.symm, hi⟩] at h
  cases h
theorem bufS_dl (D : List DocT) (dl : Nat → Bool) (key : Int64) (bs m : Nat) : cN (fun k => !dlS D dl key (bs + k)) m ≤ cN (fun k => !dl (bs + k)) m := sN_mono _ (fun i hi => by
  dsimp only
  by_cases q : dlS D dl key (bs + i) = false
  · simp only [q, dlS_f q]
    exact Nat.le_refl _
  · have q : dlS D dl key (bs + i) = true := by simpa using q
    simp only [q, Bool.not_true, Bool.false_eq_true, if_false]
    exact Nat.zero_le _)
theorem okS.delete {c : Nat} {D : List DocT} {dl : Nat → Bool} {bs : Nat} {G : List SegT} {V : Nat → VwT} {A : AnT} {nr : Option (List Nat)} {mg : Nat} (h : okS c D dl bs G V A nr mg) (key : Int64) : okS (c + 1) D (dlS D dl key) bs G V A nr mg := by
  obtain ⟨h1, hT, hb, hn, hu, hr⟩ := okS.up h
  refine ⟨h1, hT, ?_, dlS_new hn, fun i k hi hk h1 h2 h3 => hu i k hi hk (dlS_f h1) (dlS_f h2) h3, hr⟩
  have := bufS_dl D dl key bs (D.length - bs)
  unfold bufS at hb ⊢
  omega
/-- views -/
theorem okS.close {c : Nat} {D : List DocT} {dl : Nat → Bool} {bs : Nat} {G : List SegT} {V : Nat → VwT} {A : AnT} {nr : Option (List Nat)} {mg : Nat} (h : okS c D dl bs G V A nr mg) (x : Int32) : okS (c + 1) D dl bs G (closeS V x).2 A nr mg := by
  obtain ⟨h1, hT, hb, hn, hu, hV, hl, hr⟩ := okS.up h
  have key : ∀ i, i < 4 → ((closeS V x).2 i).1 = true → (V i).1 = true ∧ (closeS V x).2 i = V i := fun i hi ho => by
    unfold closeS at ho ⊢
    split at ho
    · exact ⟨ho, rfl⟩
    · next j e =>
      simp only [vSet] at ho ⊢
      by_cases c : i = j
      · rw [if_pos c] at ho; cases ho
      · rw [if_neg c] at ho ⊢
        exact ⟨ho, rfl⟩
  refine ⟨h1, hT, hb, hn, hu, fun i hi ho => ?_, fun i hi ho => ?_, hr⟩
  · obtain ⟨a, b⟩ := key i hi ho
    rw [b]
    exact hV i hi a
  · obtain ⟨a, b⟩ := key i hi ho
    rw [b]
    exact hl i hi a
theorem dsOf_len : ∀ G : List SegT, (dsOf G).flatten.length = tot G
  | [] => rfl
  | s :: G => by
    have := dsOf_len G
    unfold dsOf tot sm at *
    simp only [List.map_cons, List.flatten_cons, List.length_append, List.sum_cons, this]
theorem okS.opened {c : Nat} {D : List DocT} {dl : Nat → Bool} {bs : Nat} {G : List SegT} {V : Nat → VwT} {A : AnT} {nr : Option (List Nat)} {mg : Nat} (h : okS c D dl bs G V A nr mg) (hc : c < 64) : okS (c + 1) D dl bs G (if opS V < 4 then vSet V (opS V) (vwS G dl) else V) A nr mg := by
  obtain ⟨h1, hT, hb, hn, hu, hV, hl, hr⟩ := okS.up h
  refine ⟨h1, hT, hb, hn, hu, fun i hi ho d hd => ?_, fun i hi ho => ?_, hr⟩
  · by_cases c4 : opS V < 4
    · rw [if_pos c4] at ho hd
      unfold vSet at ho hd
      by_cases ci : i = opS V
      · rw [if_pos ci] at hd
        have hd : d ∈ (dsOf G).flatten := hd
        obtain ⟨l, hl1, hl2⟩ := List.mem_flatten.mp hd
        obtain ⟨s, hs, rfl⟩ := List.mem_map.mp hl1
        exact h1.2.2.2.2.2.1 s hs d hl2
      · rw [if_neg ci] at ho hd
        exact hV i hi ho d hd
    · rw [if_neg c4] at ho hd
      exact hV i hi ho d hd
  · by_cases c4 : opS V < 4
    · rw [if_pos c4] at ho ⊢
      unfold vSet at ho ⊢
      by_cases ci : i = opS V
      · rw [if_pos ci]
        show (dsOf G).flatten.length ≤ 400
        rw [dsOf_len]
        omega
      · rw [if_neg ci] at ho ⊢
        exact hl i hi ho
    · rw [if_neg c4] at ho ⊢
      exact hl i hi ho
/-- adds -/
theorem okS.add {c : Nat} {tp : Nat → Nat} {n : Nat} {D : List DocT} {dl : Nat → Bool} {bs : Nat} {G : List SegT} {V : Nat → VwT} {A : AnT} {nr : Option (List Nat)} {mg : Nat} {st sp : Bool} (h : okS c D dl bs G V A nr mg) (hc : c < 64) (ht : ∀ i, i < 600 → tp i < 256) (hn : n ≤ 600) (hbad : ¬ addBad tp n) (key : Int64) (x y : Int32) : okS (c + 1) (addS st sp tp n D dl bs G mg key x y).1 (addS st sp tp n D dl bs G mg key x y).2.1 (addS st sp tp n D dl bs G mg key x y).2.2.1 (addS st sp tp n D dl bs G mg key x y).2.2.2.1 V A nr (addS st sp tp n D dl bs G mg key x y).2.2.2.2 ∧ mg ≤ (addS st sp tp n D dl bs G mg key x y).2.2.2.2 := by
  obtain ⟨⟨h1, h2, h3, h4, h5, h6, h7⟩, hT, hb, hdl, hu, hV, hl, hA, hP, hnr⟩ := h
  have hle := fz_le tp n
  have hlen : (D ++ [addD st sp tp n key x y]).length = D.length + 1 := by rw [List.length_append]; rfl
  have hT2 : okTx (D ++ [addD st sp tp n key x y]) := fun i f hi hf => by
    by_cases q : i = D.length
    · subst q
      rw [dA_new]
      refine ⟨addD_len hbad f hf, fun t htk => ?_⟩
      have : f = 0 ∨ f = 1 := by omega
      rcases this with rfl | rfl
      · exact toks_ok (st := st) (sp := sp) ht (by omega) (Nat.zero_le _) t htk
      · exact toks_ok (st := st) (sp := sp) ht hn (by omega) t htk
    · rw [dA_app (by omega)]
      exact hT i f (by omega) hf
  have hdl2 := dlS_new (key := key) hdl
  have hdl3 : ∀ i, (D ++ [addD st sp tp n key x y]).length ≤ i → dlS D dl key i = false := fun i hi => hdl2 i (by omega)
  have hu2 : uqK (D ++ [addD st sp tp n key x y]) (dlS D dl key) := fun i k hi hk a1 a2 a3 => by
    rw [hlen] at hi hk
    by_cases qi : i = D.length
    · by_cases qk : k = D.length
      · omega
      · exfalso
        rw [qi, dA_new, dA_app (by omega)] at a3
        exact dlS_key hu (by omega) a2 a3.symm
    · by_cases qk : k = D.length
      · exfalso
        rw [qk, dA_new, dA_app (by omega)] at a3
        exact dlS_key hu (by omega) a1 a3
      · rw [dA_app (by omega), dA_app (by omega)] at a3
        exact hu i k (by omega) (by omega) (dlS_f a1) (dlS_f a2) a3
  have hV2 : okV (D ++ [addD st sp tp n key x y]) V := fun i hi ho d hd => by
    have := hV i hi ho d hd
    omega
  have hA2 : okA (D ++ [addD st sp tp n key x y]) A := fun k hk => by
    have := hA k hk
    omega
  unfold addS
  by_cases cf : 16 ≤ bufS (D ++ [addD st sp tp n key x y]) (dlS D dl key) bs
  · rw [if_pos cf]
    dsimp only
    obtain ⟨a1, a2, a3, a4, a5, a6⟩ := flS_ok (dl := dlS D dl key) (mg := mg) (bs := bs) (n := D.length + 1) (G := G) (by omega) (fun s hs d hd => by have := h6 s hs d hd; omega) h3 (by omega) h7
    refine ⟨⟨⟨by omega, by omega, a1, by omega, by omega, fun s hs d hd => by rw [hlen]; exact a4 s hs d hd, a5⟩, hT2, ?_, hdl3, hu2, hV2, hl, hA2, hP, hnr⟩, a6⟩
    have := bufS_z (D ++ [addD st sp tp n key x y]) (dlS D dl key)
    rw [hlen] at this
    rw [this]
    decide
  · rw [if_neg cf]
    dsimp only
    exact ⟨⟨⟨by omega, by omega, h3, by omega, by omega, fun s hs d hd => by have := h6 s hs d hd; omega, h7⟩, hT2, by omega, hdl3, hu2, hV2, hl, hA2, hP, hnr⟩, Nat.le_refl _⟩
/-- searches -/
theorem okS.search {c : Nat} {tp : Nat → Nat} {n : Nat} {D : List DocT} {dl : Nat → Bool} {bs : Nat} {G : List SegT} {V : Nat → VwT} {A A' : AnT} {nr : Option (List Nat)} {mg : Nat} {st sp : Bool} {x r : Int32} (h : okS c D dl bs G V A nr mg) (ht : ∀ i, i < 600 → tp i < 256) (hn : n ≤ 600) (hs : srchR D V st sp tp n x A r A') : okS (c + 1) D dl bs G V A' nr mg := by
  obtain ⟨h1, hT, hb, hdl, hu, hV, hl, hA, hP, hnr⟩ := okS.up h
  have key : okA D A' ∧ okPs A'.2.2 := by
    unfold srchR at hs
    split at hs
    · rw [hs.2]; exact ⟨hA, hP⟩
    · next i e =>
      split at hs
      · rw [hs.2]; exact ⟨hA, hP⟩
      · next Y f e =>
        obtain ⟨a1, a2, a3, a4⟩ := hs
        refine ⟨fun k hk => (a4.2.2.2 k (by rw [← a4.1]; exact hk)).1, ?_⟩
        rw [a3]
        exact (parse_okPs ht hn e).1
  exact ⟨h1, hT, hb, hdl, hu, hV, hl, key.1, key.2, hnr⟩
theorem okS.near {c : Nat} {tp : Nat → Nat} {n : Nat} {D : List DocT} {dl : Nat → Bool} {bs : Nat} {G : List SegT} {V : Nat → VwT} {A : AnT} {nr nr' : Option (List Nat)} {mg : Nat} {x r : Int32} (h : okS c D dl bs G V A nr mg) (hs : nearR D V tp n nr x r nr') : okS (c + 1) D dl bs G V A nr' mg := by
  obtain ⟨h1, hT, hb, hdl, hu, hV, hl, hA, hP, hnr⟩ := okS.up h
  exact ⟨h1, hT, hb, hdl, hu, hV, hl, hA, hP, nearR_ok hs hnr⟩
