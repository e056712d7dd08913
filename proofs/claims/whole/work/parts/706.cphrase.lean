/-! the class: phrases in a text -/
def incT (T : List (List Nat × Nat)) : Prop := T.Pairwise (fun a b => a.2 < b.2)
theorem atW_inc {y : AtX} (h : okAt y) : incT (atW y) := by
  unfold incT
  rw [List.pairwise_iff_getElem]
  intro i j hi hj hij
  have h10 := h.2.2.2.2.2.2.2.2.2.1
  have e1 := h10 i hi
  have e2 := h10 j hj
  rw [List.getD_eq_getElem?_getD, List.getElem?_eq_getElem hi] at e1
  rw [List.getD_eq_getElem?_getD, List.getElem?_eq_getElem hj] at e2
  simp only [Option.getD_some] at e1 e2
  omega
theorem parse_inc {st sp : Bool} {tp : Nat → Nat} {n : Nat} {ev : AtX → Sem} (ht : ∀ j, j < 600 → tp j < 256) (hn : n ≤ 600) {Y : QSt} {f : Sem} (h : qParse st sp tp n ev = .inr (Y, f)) : ∀ x, x ∈ Y.1 → incT (pTms x) := by
  refine qParse_inv ht hn (fun X => ∀ x, x ∈ X.1 → incT (pTms x)) (fun X ng br sa hI => ?_) (fun X y ng br sa hI hy => ?_) (fun Y k b en hI hk hb => ?_) (fun Y O hI => hI) (fun x hx => absurd hx (by simp)) h
  · intro x hx
    rcases List.mem_append.mp hx with hx | hx
    · exact hI x hx
    · rw [List.mem_singleton] at hx
      rw [hx]
      exact List.Pairwise.nil
  · intro x hx
    rcases List.mem_append.mp hx with hx | hx
    · exact hI x hx
    · rw [List.mem_singleton] at hx
      rw [hx]
      unfold atP
      split
      · exact List.Pairwise.nil
      · split
        · exact List.Pairwise.nil
        · exact List.Pairwise.filter _ (atW_inc hy)
  · intro x hx
    rcases List.mem_or_eq_of_mem_set hx with hx | hx
    · exact hI x hx
    · have := hI _ (getD_mem (d := default) hk)
      rw [hx]
      exact this
def goB (D : List DocT) (f d last : Nat) : List (List Nat × Nat) → Nat → Nat → Option Nat
  | [], a, _ => some a
  | z :: l, a, m => if nxt D f d z.1 (a + (z.2 - m)) < tkN D f d ∧ nxt D f d z.1 (a + (z.2 - m)) ≤ last then goB D f d last l (nxt D f d z.1 (a + (z.2 - m))) z.2 else none
theorem nxt_ge {D : List DocT} {f d : Nat} {t : List Nat} {a : Nat} : a ≤ nxt D f d t a := (run_ge _ _ _).1
theorem goL_ge {D : List DocT} {f d : Nat} : ∀ (l : List (List Nat × Nat)) (a m b : Nat), goL D f d l a m = some b → a ≤ b
  | [], a, m, b, h => by cases h; exact Nat.le_refl _
  | z :: l, a, m, b, h => by
    unfold goL at h
    split at h
    · have h1 := goL_ge l _ _ _ h
      have h2 := nxt_ge (D := D) (f := f) (d := d) (t := z.1) (a := a + (z.2 - m))
      omega
    · cases h
theorem goB_eq {D : List DocT} {f d last : Nat} : ∀ (l : List (List Nat × Nat)) (a m : Nat), a ≤ last → goB D f d last l a m = match goL D f d l a m with
    | none => none
    | some b => if b ≤ last then some b else none
  | [], a, m, h => by
    show some a = (if a ≤ last then some a else none)
    rw [if_pos h]
  | z :: l, a, m, h => by
    unfold goB goL
    by_cases c : nxt D f d z.1 (a + (z.2 - m)) < tkN D f d
    · rw [if_pos c]
      by_cases c2 : nxt D f d z.1 (a + (z.2 - m)) ≤ last
      · rw [if_pos ⟨c, c2⟩]
        exact goB_eq l _ _ c2
      · rw [if_neg (fun z => c2 z.2)]
        cases hg : goL D f d l (nxt D f d z.1 (a + (z.2 - m))) z.2 with
        | none => rfl
        | some b =>
          have := goL_ge l _ _ _ hg
          show none = (if b ≤ last then some b else none)
          rw [if_neg (by omega)]
    · rw [if_neg c, if_neg (fun z => c z.1)]
theorem lastN_ge : ∀ (l : List (List Nat × Nat)) (m : Nat), (∀ z, z ∈ l → m < z.2) → m ≤ lastN l m := fun l m h => by
  unfold lastN
  cases hl : l.getLast? with
  | none => exact Nat.le_refl _
  | some z => exact Nat.le_of_lt (h z (List.mem_of_getLast? hl))
theorem lastN_at {z : List Nat × Nat} {l : List (List Nat × Nat)} : ((z :: l).getD l.length ([], 0)).2 = lastN l z.2 := by
  unfold lastN
  rw [List.getLast?_eq_getElem?, List.getD_eq_getElem?_getD]
  cases l with
  | nil => rfl
  | cons a l =>
    simp only [List.length_cons, Nat.add_sub_cancel, List.getElem?_cons_succ]
    rw [List.getElem?_eq_getElem (by simp)]
    rfl
theorem txt {lo : Nat} {σ : Mem} {p : Nat} {ts : List Tok} (h : isText lo σ p ts) : ∃ c v, (gT σ p).1 = 8 ∧ gR σ p 2 = some c ∧ gR σ p 3 = some v ∧ (gT σ c).1 = 101 ∧ (gT σ c).2 = ts.length ∧ (∀ j, j < ts.length → gL σ c j = lN (enc (tA ts j).2.2)) ∧ isVoc lo σ v (tcn ts) := by
  obtain ⟨a, b, c, v, h1, h2, h3, h4, h5, h6, h7, h8, h9, h10⟩ := h
  exact ⟨c, v, h1.t, h4, h5, h8.t, h8.m, fun j hj => (h9 j hj).2.2, h10⟩
theorem Te_positionOf_ok {lo : Nat} {σ : Mem} {p f d : Nat} {D : List DocT} (h : isText lo σ p (dTok (dA D d) f)) (hT : okTx D) (hd : d < D.length) (hf : f < 2) {t : List Nat} (ht : isTerm t) {a last : Nat} (ha : a < 2000) (hl : last < 2000) : Te_positionOf σ p (lN (enc t)) (nI a) (nI last) = some (if nxt D f d t a < tkN D f d ∧ nxt D f d t a ≤ last then nI (nxt D f d t a) else -1) := by
  obtain ⟨c, v, tp, r2, -, tc, tc2, vals, -⟩ := txt h
  obtain ⟨hlen, hok⟩ := hT d f hd hf
  have hlen : tkN D f d ≤ 50 + 150 * f := hlen
  have tc2 : (gT σ c).2 = tkN D f d := tc2
  have htm : ∀ j, j < tkN D f d → isTerm (tmA D f d j) := fun j hj => (hok _ (getD_mem (d := (0, 0, [])) hj)).2.2
  have hte := enc_lt ht.1
  have hN : ∀ j, j < tkN D f d → j ≤ last → Te_positionOf_l11 σ p (lN (enc t)) (nI last) (nI j) = some (if tmA D f d j = t then .inr (.inl (nI j)) else .inl (nI (j + 1))) := fun j hj hjl => by
    have v1 : gL σ c j = lN (enc (tmA D f d j)) := vals j hj
    have h2 := enc_lt (htm j hj).1
    unfold Te_positionOf_l11
    rw [if_neg (fun z => by have := (iLt (by omega) (by omega)).mp z; omega), ldR_ok tp, r2]
    simp only [Option.bind_some]
    rw [alen_k (t := 1) tc, tc2]
    simp only [Option.bind_some]
    have e0 : ¬ nI (tkN D f d) ≤ nI j := fun z => by
      have := (iLe (by omega) (by omega)).mp z
      omega
    rw [if_neg e0, raL_k (t := 1) tc (by rw [tc2]; exact hj) (by omega), v1]
    simp only [Option.bind_some]
    have e1 : (lN (enc (tmA D f d j)) = lN (enc t)) = (tmA D f d j = t) := by
      rw [lEq (by omega) (by omega)]
      exact propext ⟨fun z => enc_inj (htm j hj) ht z, fun z => by rw [z]⟩
    simp only [e1]
    by_cases q : tmA D f d j = t
    · rw [if_neg (fun z => z q), if_pos q]
    · rw [if_pos q, if_neg q, show (1 : Int32) = nI 1 from rfl, nI_add]
  have hE : ∀ j, j < 3000 → (tkN D f d ≤ j ∨ last < j) → Te_positionOf_l11 σ p (lN (enc t)) (nI last) (nI j) = some (.inr (.inr ())) := fun j hj3 hj => by
    unfold Te_positionOf_l11
    by_cases c0 : last < j
    · rw [if_pos ((iLt (by omega) (by omega)).mpr c0)]
    · rw [if_neg (fun z => c0 ((iLt (by omega) (by omega)).mp z)), ldR_ok tp, r2]
      simp only [Option.bind_some]
      rw [alen_k (t := 1) tc, tc2]
      simp only [Option.bind_some]
      rw [if_pos ((iLe (by omega) (by omega)).mpr (by omega))]
  unfold Te_positionOf
  have e0 : (0 : Int32) ≤ nI a := by
    rw [show (0 : Int32) = nI 0 from rfl]
    exact (iLe (by omega) (by omega)).mpr (by omega)
  rw [if_pos e0, Option.bind_some]
  have hge := nxt_ge (D := D) (f := f) (d := d) (t := t) (a := a)
  have hge2 := (run_ge (fun j => !decide (tmA D f d j = t)) (tkN D f d - a) a).2
  have hge2 : nxt D f d t a ≤ a + (tkN D f d - a) := hge2
  have hin := fun j (h1 : a ≤ j) (h2 : j < nxt D f d t a) => run_in (fun j => !decide (tmA D f d j = t)) (tkN D f d - a) a j h1 h2
  have hin : ∀ j, a ≤ j → j < nxt D f d t a → ¬ tmA D f d j = t := fun j h1 h2 => by
    have := hin j h1 h2
    simpa using this
  have hout : nxt D f d t a < a + (tkN D f d - a) → tmA D f d (nxt D f d t a) = t := fun z => by
    have := run_out (fun j => !decide (tmA D f d j = t)) (tkN D f d - a) a z
    have this : (!decide (tmA D f d (nxt D f d t a) = t)) = false := this
    simpa using this
  generalize nxt D f d t a = b at *
  by_cases c : b < tkN D f d ∧ b ≤ last
  · rw [if_pos c]
    have := lp_seq (f := fun q : Int32 => Te_positionOf_l11 σ p (lN (enc t)) (nI last) q) (fun j => nI (a + j)) (m := b - a) (b := .inl (nI b)) (fun j hj => by
      show Te_positionOf_l11 σ p (lN (enc t)) (nI last) (nI (a + j)) = _
      rw [hN (a + j) (by omega) (by omega), if_neg (hin _ (by omega) (by omega)), Nat.add_assoc]) (by
      rw [Nat.add_sub_cancel' hge]
      show Te_positionOf_l11 σ p (lN (enc t)) (nI last) (nI b) = _
      rw [hN b c.1 c.2, if_pos (hout (by omega))])
    have this : lp (fun q : Int32 => Te_positionOf_l11 σ p (lN (enc t)) (nI last) q) (nI a) = some (.inl (nI b)) := this
    rw [this]
    rfl
  · rw [if_neg c]
    have hm : ∃ k, a + k < 3000 ∧ (tkN D f d ≤ a + k ∨ last < a + k) ∧ (∀ j, j < k → a + j < b ∧ a + j < tkN D f d ∧ a + j ≤ last) := by
      by_cases c1 : tkN D f d ≤ a ∨ last < a
      · exact ⟨0, by omega, by omega, fun j hj => absurd hj (Nat.not_lt_zero _)⟩
      · by_cases c2 : tkN D f d ≤ last
        · exact ⟨tkN D f d - a, by omega, by omega, fun j hj => by omega⟩
        · exact ⟨last + 1 - a, by omega, by omega, fun j hj => by omega⟩
    obtain ⟨k, k1, k2, k3⟩ := hm
    have := lp_seq (f := fun q : Int32 => Te_positionOf_l11 σ p (lN (enc t)) (nI last) q) (fun j => nI (a + j)) (m := k) (b := .inr ()) (fun j hj => by
      obtain ⟨k4, k5, k6⟩ := k3 j hj
      show Te_positionOf_l11 σ p (lN (enc t)) (nI last) (nI (a + j)) = _
      rw [hN (a + j) k5 k6, if_neg (hin _ (by omega) k4), Nat.add_assoc]) (hE _ k1 k2)
    have this : lp (fun q : Int32 => Te_positionOf_l11 σ p (lN (enc t)) (nI last) q) (nI a) = some (.inr ()) := this
    rw [this]
    rfl
theorem inc_at {T : List (List Nat × Nat)} (h : incT T) {i j : Nat} (hij : i < j) (hj : j < T.length) : (T.getD i ([], 0)).2 < (T.getD j ([], 0)).2 := by
  have := List.pairwise_iff_getElem.mp h i j (by omega) hj hij
  rw [List.getD_eq_getElem?_getD, List.getElem?_eq_getElem (by omega), List.getD_eq_getElem?_getD, List.getElem?_eq_getElem hj]
  exact this
theorem Pa_goes {lo : Nat} {σ : Mem} {p tx f d last : Nat} {x : PT} {D : List DocT} (h : isText lo σ tx (dTok (dA D d) f)) (hT : okTx D) (hd : d < D.length) (hf : f < 2) (hp : isP σ p) (hx : cPart σ p x) (ok : okPt x) (hinc : incT (pTms x)) (hl : last < 1000) : ∀ (l : List (List Nat × Nat)) (i a m : Nat), 1 ≤ i → i ≤ (pTms x).length → (pTms x).drop i = l → ((pTms x).getD (i - 1) ([], 0)).2 = m → a ≤ 400 → lp (fun q : Int32 × Int32 => Pa_occursAt_l51 σ p (some tx) (nI last) q.1 q.2) (nI a, nI i) = some (match goB D f d last l a m with | none => -1 | some b => nI b)
  | [], i, a, m, hi, hil, hdr, hm, ha => by
    have hxl : (pTms x).length ≤ 8 := hx.2.2.2.2.2.2.2.2.1
    have hle : (pTms x).length ≤ i := by
      apply Nat.le_of_not_lt
      intro q
      rw [List.drop_eq_getElem_cons q] at hdr
      cases hdr
    refine lp_out ?_
    show Pa_occursAt_l51 σ p (some tx) (nI last) (nI a) (nI i) = some (.inr (nI a))
    unfold Pa_occursAt_l51
    rw [ldI_ok hp.1, hx.2.2.2.2.2.2.2.1]
    simp only [Option.bind_some]
    rw [if_pos ((iLe (by omega) (by omega)).mpr hle)]
  | z :: l, i, a, m, hi, hil, hdr, hm, ha => by
    have hxl : (pTms x).length ≤ 8 := hx.2.2.2.2.2.2.2.2.1
    have hlt : i < (pTms x).length := by
      apply Nat.lt_of_not_le
      intro q
      rw [List.drop_eq_nil_of_le q] at hdr
      cases hdr
    have hz : (pTms x).getD i ([], 0) = z ∧ (pTms x).drop (i + 1) = l := by
      rw [List.drop_eq_getElem_cons hlt] at hdr
      injection hdr with h1 h2
      refine ⟨?_, h2⟩
      rw [List.getD_eq_getElem?_getD, List.getElem?_eq_getElem hlt, h1]
      rfl
    have hzok := ok.2.2.2.2.2.2 _ (getD_mem (d := (([], 0) : List Nat × Nat)) hlt)
    rw [hz.1] at hzok
    have hlt2 : m < z.2 := by
      rw [← hm, ← hz.1]
      exact inc_at hinc (by omega) hlt
    have tp := hp.1
    obtain ⟨ta, tb⟩ : (gT σ (p + 1)).1 = 101 ∧ (gT σ (p + 1)).2 = 8 := by rw [hp.2.1]; exact ⟨rfl, rfl⟩
    obtain ⟨tc, td⟩ : (gT σ (p + 2)).1 = 100 ∧ (gT σ (p + 2)).2 = 8 := by rw [hp.2.2.1]; exact ⟨rfl, rfl⟩
    obtain ⟨x1, x2⟩ := hx.2.2.2.2.2.2.2.2.2.1 i hlt
    obtain ⟨-, x3⟩ := hx.2.2.2.2.2.2.2.2.2.1 (i - 1) (by omega)
    rw [hz.1] at x1 x2
    rw [hm] at x3
    have tx8 : (gT σ tx).1 = 8 := (txt h).choose_spec.choose_spec.1
    have hpos := Te_positionOf_ok h hT hd hf hzok.1 (a := a + (z.2 - m)) (last := last) (by omega) (by omega)
    have hst : Pa_occursAt_l51 σ p (some tx) (nI last) (nI a) (nI i) = some (.inl ((if nxt D f d z.1 (a + (z.2 - m)) < tkN D f d ∧ nxt D f d z.1 (a + (z.2 - m)) ≤ last then nI (nxt D f d z.1 (a + (z.2 - m))) else -1), nI (i + 1))) := by
      unfold Pa_occursAt_l51
      rw [ldI_ok tp, hx.2.2.2.2.2.2.2.1]
      simp only [Option.bind_some]
      rw [if_neg (fun q => by have := (iLe (by omega) (by omega)).mp q; omega), if_neg (fun q => by have := (iLt (b := 0) (by omega) (by omega)).mp q; omega), ldR_ok tp, hp.2.2.2.2.1]
      simp only [Option.bind_some]
      rw [raL_k (t := 1) ta (by rw [tb]; omega) (by omega), x1]
      simp only [Option.bind_some]
      rw [ldR_ok tp, hp.2.2.2.2.2.1]
      simp only [Option.bind_some]
      rw [raI_k (t := 0) tc (by rw [td]; omega) (by omega), x2]
      simp only [Option.bind_some]
      rw [show (1 : Int32) = nI 1 from rfl, iSub hi, raI_k (t := 0) tc (by rw [td]; omega) (by omega), x3]
      simp only [Option.bind_some]
      rw [chk_ok tx8]
      simp only [Option.bind_some]
      rw [nI_add, iSub (by omega), show a + z.2 - m = a + (z.2 - m) by omega, hpos]
      simp only [Option.bind_some]
      rw [nI_add]
      rfl
    rw [lp_on (f := fun q : Int32 × Int32 => Pa_occursAt_l51 σ p (some tx) (nI last) q.1 q.2) (a := (nI a, nI i)) hst]
    unfold goB
    have hlen : tkN D f d ≤ 200 := tkN_le hT hd hf
    by_cases c : nxt D f d z.1 (a + (z.2 - m)) < tkN D f d ∧ nxt D f d z.1 (a + (z.2 - m)) ≤ last
    · rw [if_pos c, if_pos c]
      exact Pa_goes h hT hd hf hp hx ok hinc hl l (i + 1) _ z.2 (by omega) (by omega) hz.2 (by rw [Nat.add_sub_cancel, hz.1]) (by omega)
    · rw [if_neg c, if_neg c]
      refine lp_out ?_
      show Pa_occursAt_l51 σ p (some tx) (nI last) (-1) (nI (i + 1)) = some (.inr (-1))
      unfold Pa_occursAt_l51
      rw [ldI_ok tp, hx.2.2.2.2.2.2.2.1]
      simp only [Option.bind_some]
      split
      · rfl
      · rw [if_pos (by decide)]
theorem Pa_occursAt_ok {lo : Nat} {σ : Mem} {p tx f d pos : Nat} {x : PT} {D : List DocT} {z : List Nat × Nat} {l : List (List Nat × Nat)} (h : isText lo σ tx (dTok (dA D d) f)) (hT : okTx D) (hd : d < D.length) (hf : f < 2) (hp : isP σ p) (hx : cPart σ p x) (ok : okPt x) (hinc : incT (pTms x)) (hz : pTms x = z :: l) (hpos : pos < tkN D f d) : Pa_occursAt σ p (some tx) (nI pos) = some (match goL D f d l pos z.2 with | none => false | some b => decide (b ≤ pos + (lastN l z.2 - z.2) + pSlack x)) := by
  have hxl : (pTms x).length ≤ 8 := hx.2.2.2.2.2.2.2.2.1
  have hlen : tkN D f d ≤ 200 := tkN_le hT hd hf
  have hl1 : (pTms x).length = l.length + 1 := by rw [hz]; rfl
  have tp := hp.1
  have x9 := hx.2.2.2.2.2.2.2.1
  have x11 := hx.2.2.2.2.2.2.2.2.2.2.1
  have hsl := ok.2.2.2.1
  obtain ⟨tc, td⟩ : (gT σ (p + 2)).1 = 100 ∧ (gT σ (p + 2)).2 = 8 := by rw [hp.2.2.1]; exact ⟨rfl, rfl⟩
  obtain ⟨-, n0⟩ := hx.2.2.2.2.2.2.2.2.2.1 0 (by omega)
  obtain ⟨-, nl'⟩ := hx.2.2.2.2.2.2.2.2.2.1 l.length (by omega)
  rw [hz] at n0
  rw [hz, lastN_at] at nl'
  have hmem : ∀ y, y ∈ pTms x → y.2 < 8 := fun y hy => (ok.2.2.2.2.2.2 y hy).2.2
  have hz8 : z.2 < 8 := hmem z (by rw [hz]; exact List.mem_cons_self)
  have hlast : z.2 ≤ lastN l z.2 := lastN_ge l z.2 (fun y hy => by
    have := hinc
    rw [hz] at this
    exact (List.pairwise_cons.mp this).1 y hy)
  have hlast8 : lastN l z.2 < 8 := by
    rw [← lastN_at]
    exact hmem _ (by rw [← hz]; exact getD_mem (by omega))
  have r8 := hp.2.2.2.2.2.1
  have e0 : raI σ 0 (some (p + 2)) 0 = some (nI z.2) := by
    have := raI_k (σ := σ) (t := 0) (a := p + 2) (i := 0) tc (by rw [td]; omega) (by omega)
    rw [show (0 : Int32) = nI 0 from rfl, this, n0]
    rfl
  have e7 : raI σ 0 (some (p + 2)) (nI (pTms x).length - 1) = some (nI (lastN l z.2)) := by
    rw [show (1 : Int32) = nI 1 from rfl, iSub (by omega), show (pTms x).length - 1 = l.length by omega, raI_k (t := 0) tc (by rw [td]; omega) (by omega), nl']
  unfold Pa_occursAt
  simp only [ldI_ok tp, ldR_ok tp, x9, r8, x11, Option.bind_some, e0, e7]
  rw [if_neg (fun q => by have := (iLt (b := 1) (by omega) (by omega)).mp q; omega), if_pos (show nI (pTms x).length ≤ 8 from (iLe (b := 8) (by omega) (by omega)).mpr hxl)]
  rw [nI_add, iSub (by omega), nI_add, show pos + lastN l z.2 - z.2 + pSlack x = pos + (lastN l z.2 - z.2) + pSlack x by omega]
  have hg := Pa_goes (last := pos + (lastN l z.2 - z.2) + pSlack x) h hT hd hf hp hx ok hinc (by omega) l 1 pos z.2 (Nat.le_refl _) (by omega) (by rw [hz]; rfl) (by rw [hz]; rfl) (by omega)
  rw [show (1 : Int32) = nI 1 from rfl, hg, goB_eq l pos z.2 (by omega)]
  cases hgl : goL D f d l pos z.2 with
  | none => rfl
  | some b =>
    simp only
    by_cases c : b ≤ pos + (lastN l z.2 - z.2) + pSlack x
    · rw [if_pos c, decide_eq_true c]
      simp only [Option.bind_some]
      rw [if_neg (fun q => by have := (iLt (b := 0) (by omega) (by omega)).mp q; omega)]
    · rw [if_neg c, decide_eq_false c]
      rfl
theorem Pa_occurrences_ok {lo : Nat} {σ : Mem} {p tx f d : Nat} {x : PT} {D : List DocT} (h : isText lo σ tx (dTok (dA D d) f)) (hT : okTx D) (hd : d < D.length) (hf : f < 2) (hp : isP σ p) (hx : cPart σ p x) (ok : okPt x) (hinc : incT (pTms x)) (hne : pTms x ≠ []) : Pa_occurrences σ p (some tx) = some (nI (phS D f d (pTms x) (pSlack x))) := by
  obtain ⟨z, l, hz⟩ : ∃ z l, pTms x = z :: l := by
    cases hh : pTms x with
    | nil => exact absurd hh hne
    | cons z l => exact ⟨z, l, rfl⟩
  obtain ⟨c, v, t8, r2, -, tc, tc2, vals, -⟩ := txt h
  have hxl : (pTms x).length ≤ 8 := hx.2.2.2.2.2.2.2.2.1
  have hlen : tkN D f d ≤ 200 := tkN_le hT hd hf
  have tp := hp.1
  have tkl := Te_tokens_ok h
  have htkl : (dTok (dA D d) f).length = tkN D f d := rfl
  rw [htkl] at tkl tc2 vals
  obtain ⟨hlen', hok⟩ := hT d f hd hf
  have htm : ∀ j, j < tkN D f d → isTerm (tmA D f d j) := fun j hj => (hok _ (getD_mem (d := (0, 0, [])) hj)).2.2
  obtain ⟨ta, tb⟩ : (gT σ (p + 1)).1 = 101 ∧ (gT σ (p + 1)).2 = 8 := by rw [hp.2.1]; exact ⟨rfl, rfl⟩
  obtain ⟨n0, -⟩ := hx.2.2.2.2.2.2.2.2.2.1 0 (by rw [hz]; exact Nat.succ_pos _)
  rw [hz] at n0
  have n0 : gL σ (p + 1) 0 = lN (enc z.1) := n0
  have hzt := (ok.2.2.2.2.2.2 z (by rw [hz]; exact List.mem_cons_self)).1
  have hte := enc_lt hzt.1
  have e0 : raL σ 1 (some (p + 1)) 0 = some (lN (enc z.1)) := by
    have := raL_k (σ := σ) (t := 1) (a := p + 1) (i := 0) ta (by rw [tb]; omega) (by omega)
    rw [show (0 : Int32) = nI 0 from rfl, this, n0]
  unfold Pa_occurrences
  have hlp : lp (fun q : Int32 × Int32 => Pa_occurrences_l4 σ p (some tx) q.1 q.2) (nI 0, nI 0) = some (nI (phS D f d (pTms x) (pSlack x))) := by
    refine lp_sum (c := fun i => if goS D f d (pTms x) (pSlack x) i = true then 1 else 0) (tkN D f d) 0 (fun j hj => ?_) ?_
    · simp only [Nat.zero_add]
      have hv : gL σ c j = lN (enc (tmA D f d j)) := vals j hj
      have h2 := enc_lt (htm j hj).1
      have hterm : Te_termAt σ tx (nI j) = some (lN (enc (tmA D f d j))) := by
        unfold Te_termAt
        rw [if_neg (fun q => by have := (iLt (b := 0) (by omega) (by omega)).mp q; omega)]
        simp (disch := first | assumption | omega | (simp only [gT_sI, gT_sL, gT_sR, gT_sB]; first | assumption | omega)) only [Option.bind_some, ldI_ok, ldL_ok, ldR_ok, ldB_ok, stI_ok, stL_ok, stR_ok, stB_ok, chk_ok, raI_k, raL_k, raR_k, raB_k, waI_k, waL_k, waB_k, waR_k, alen_k, gT_sI, gT_sL, gT_sR, gT_sB, gN_sI, gN_sL, gN_sR, gN_sB, gI_sL, gI_sR, gI_sB, gL_sI, gL_sR, gL_sB, gR_sI, gR_sL, gR_sB, gB_sI, gB_sL, gB_sR, gI_sIs, gL_sLs, gR_sRs, gB_sBs, gI_sIn, gL_sLn, gR_sRn, gB_sBn, rdI_ok, rdL_ok, rdB_ok, wrI_ok, wrL_ok, wrB_ok, r2, tc2]
        have : ¬ nI (tkN D f d) ≤ nI j := fun q => by
          have := (iLe (by omega) (by omega)).mp q
          omega
        rw [if_neg this]
        simp (disch := first | assumption | omega | (simp only [gT_sI, gT_sL, gT_sR, gT_sB]; first | assumption | omega)) only [Option.bind_some, ldI_ok, ldL_ok, ldR_ok, ldB_ok, stI_ok, stL_ok, stR_ok, stB_ok, chk_ok, raI_k, raL_k, raR_k, raB_k, waI_k, waL_k, waB_k, waR_k, alen_k, gT_sI, gT_sL, gT_sR, gT_sB, gN_sI, gN_sL, gN_sR, gN_sB, gI_sL, gI_sR, gI_sB, gL_sI, gL_sR, gL_sB, gR_sI, gR_sL, gR_sB, gB_sI, gB_sL, gB_sR, gI_sIs, gL_sLs, gR_sRs, gB_sBs, gI_sIn, gL_sLn, gR_sRn, gB_sBn, rdI_ok, rdL_ok, rdB_ok, wrI_ok, wrL_ok, wrB_ok, r2, tc2, hv]
      have hc9 := cN_le (goS D f d (pTms x) (pSlack x)) j
      show Pa_occurrences_l4 σ p (some tx) (nI (sN (fun i => if goS D f d (pTms x) (pSlack x) i = true then 1 else 0) j)) (nI j) = _
      generalize sN (fun i => if goS D f d (pTms x) (pSlack x) i = true then 1 else 0) j = s
      unfold Pa_occurrences_l4
      rw [chk_ok t8]
      simp only [Option.bind_some]
      rw [tkl]
      simp only [Option.bind_some]
      have : ¬ nI (tkN D f d) ≤ nI j := fun q => by
        have := (iLe (by omega) (by omega)).mp q
        omega
      rw [if_neg this]
      rw [hterm]
      simp only [Option.bind_some]
      rw [ldR_ok tp, hp.2.2.2.2.1]
      simp only [Option.bind_some]
      rw [e0]
      simp only [Option.bind_some]
      have e1 : (lN (enc (tmA D f d j)) = lN (enc z.1)) = (tmA D f d j = z.1) := by
        rw [lEq (by omega) (by omega)]
        exact propext ⟨fun q => enc_inj (htm j hj) hzt q, fun q => by rw [q]⟩
      simp only [e1]
      have hgo : goS D f d (pTms x) (pSlack x) j = (decide (tmA D f d j = z.1) && (match goL D f d l j z.2 with | none => false | some b => decide (b ≤ j + (lastN l z.2 - z.2) + pSlack x))) := by rw [hz]; rfl
      by_cases q : tmA D f d j = z.1
      · rw [if_neg (fun y => y q), chk_ok tp]
        simp only [Option.bind_some]
        rw [Pa_occursAt_ok h hT hd hf hp hx ok hinc hz hj, hgo, decide_eq_true q, Bool.true_and]
        simp only [Option.bind_some]
        generalize (match goL D f d l j z.2 with | none => false | some b => decide (b ≤ j + (lastN l z.2 - z.2) + pSlack x)) = b
        cases b
        · simp only [Bool.false_eq_true, if_false, Option.bind_some, show (1 : Int32) = nI 1 from rfl, nI_add, Nat.add_zero]
        · simp only [if_true, Option.bind_some, show (1 : Int32) = nI 1 from rfl, nI_add]
      · rw [if_pos q, hgo, decide_eq_false q, Bool.false_and]
        simp only [Bool.false_eq_true, if_false, Option.bind_some, show (1 : Int32) = nI 1 from rfl, nI_add, Nat.add_zero]
    · rw [Nat.zero_add]
      unfold Pa_occurrences_l4
      rw [chk_ok t8]
      simp only [Option.bind_some]
      rw [tkl]
      simp only [Option.bind_some]
      rw [if_pos ((iLe (by omega) (by omega)).mpr (Nat.le_refl _))]
      rfl
  have hlp : lp (fun q : Int32 × Int32 => Pa_occurrences_l4 σ p (some tx) q.1 q.2) (0, 0) = some (nI (phS D f d (pTms x) (pSlack x))) := hlp
  rw [hlp]
  rfl
