/-! the reference: phrases scored -/
def neW (z : List Nat × Nat) : Bool := !z.1.isEmpty
theorem neW_t {z : List Nat × Nat} : neW z = true ↔ z.1 ≠ [] := by
  unfold neW
  cases z.1 with
  | nil => simp
  | cons a l => simp
def rVw (R : RS) (w0 : Nat) (V : List (List Nat × Nat)) : Prop := ∀ k, k < V.length → rWd R (w0 + k) (V.getD k ([], 0)).1 ∧ R.1 35 (w0 + k) = nI (V.getD k ([], 0)).2
theorem drop_f {V : List (List Nat × Nat)} {j : Nat} (h : j < V.length) : (V.drop j).filter neW = if (V.getD j ([], 0)).1 = [] then (V.drop (j + 1)).filter neW else V.getD j ([], 0) :: (V.drop (j + 1)).filter neW := by
  have e : V[j] = V.getD j ([], 0) := by
    rw [List.getD_eq_getElem?_getD, List.getElem?_eq_getElem h]
    rfl
  rw [List.drop_eq_getElem_cons h, e, List.filter_cons]
  by_cases c : (V.getD j ([], 0)).1 = []
  · rw [if_pos c, if_neg (fun z => neW_t.mp z c)]
  · rw [if_neg c, if_pos (neW_t.mpr c)]
theorem drop_none {V : List (List Nat × Nat)} : ∀ (m j : Nat), V.length - j ≤ m → (∀ k, j ≤ k → k < V.length → (V.getD k ([], 0)).1 = []) → (V.drop j).filter neW = []
  | 0, j, hm, h => by
    rw [List.drop_eq_nil_of_le (by omega)]
    rfl
  | m + 1, j, hm, h => by
    by_cases c : j < V.length
    · rw [drop_f c, if_pos (h j (Nat.le_refl _) c)]
      exact drop_none m (j + 1) (by omega) (fun k h1 h2 => h k (by omega) h2)
    · rw [List.drop_eq_nil_of_le (by omega)]
      rfl
theorem drop_to {V : List (List Nat × Nat)} : ∀ (kf : Nat), kf < V.length → (∀ k, k < kf → (V.getD k ([], 0)).1 = []) → V.filter neW = (V.drop kf).filter neW
  | 0, h, _ => by rw [List.drop_zero]
  | kf + 1, h, h2 => by
    rw [drop_to kf (by omega) (fun k hk => h2 k (by omega)), drop_f (by omega), if_pos (h2 kf (by omega))]
theorem lastN_cons {z : List Nat × Nat} {l : List (List Nat × Nat)} {m : Nat} : lastN (z :: l) m = lastN l z.2 := by
  unfold lastN
  cases l with
  | nil => rfl
  | cons a l => rw [List.getLast?_cons_cons]; cases h : (a :: l).getLast? with
    | none => rw [List.getLast?_eq_none_iff] at h; cases h
    | some y => rfl
theorem goL_occ {D : List DocT} {f d : Nat} : ∀ (l : List (List Nat × Nat)) (a m b : Nat), goL D f d l a m = some b → ∀ z, z ∈ l → ∃ j, j < tkN D f d ∧ tmA D f d j = z.1
  | [], a, m, b, h, z, hz => by cases hz
  | y :: l, a, m, b, h, z, hz => by
    unfold goL at h
    split at h
    · next c =>
      rcases List.mem_cons.mp hz with e | hz
      · subst e
        refine ⟨_, c, ?_⟩
        have ho := run_out (fun j => !decide (tmA D f d j = z.1)) (tkN D f d - (a + (z.2 - m))) (a + (z.2 - m)) (by
          have hg := nxt_ge (D := D) (f := f) (d := d) (t := z.1) (a := a + (z.2 - m))
          have c : run (fun j => !decide (tmA D f d j = z.1)) (tkN D f d - (a + (z.2 - m))) (a + (z.2 - m)) < tkN D f d := c
          have hg : a + (z.2 - m) ≤ run (fun j => !decide (tmA D f d j = z.1)) (tkN D f d - (a + (z.2 - m))) (a + (z.2 - m)) := hg
          omega)
        have ho : (!decide (tmA D f d (nxt D f d z.1 (a + (z.2 - m))) = z.1)) = false := ho
        simpa using ho
      · exact goL_occ l _ _ _ h z hz
    · cases h
theorem tcn_occ {D : List DocT} {f d j : Nat} {t : List Nat} (hj : j < tkN D f d) (h : tmA D f d j = t) : 0 < tcn (dTok (dA D d) f) (enc t) := cN_pos.mpr ⟨j, hj, by unfold tmA at h; rw [h]; exact decide_eq_true rfl⟩
theorem M_base_eq {d f : Nat} : M_base (nI d) (nI f) = some (nI (250 * d + 50 * f)) := by
  unfold M_base
  rw [show (250 : Int32) = nI 250 from rfl, show (50 : Int32) = nI 50 from rfl, nI_mul, nI_mul, nI_add]
theorem M_goes {R : RS} {D : List DocT} {dl : Nat → Bool} {d f w0 kl : Nat} {x3 x4 x6 : Int32} {V : List (List Nat × Nat)} (hD : rDocs R D dl) (hDL : D.length ≤ 400) (hT : okTx D) (hd : d < D.length) (hf : f < 2) (hV : rVw R w0 V) (hw4 : w0 + V.length ≤ 400) (hV8 : V.length ≤ 8) (hVt : ∀ z, z ∈ V → isTerm z.1) (hVn : ∀ k, k < V.length → (V.getD k ([], 0)).2 = k) (hkl : kl < V.length) (hkl2 : ∀ k, kl < k → k < V.length → (V.getD k ([], 0)).1 = []) : ∀ (c j a m : Nat), kl + 1 - j = c → j ≤ kl + 1 → m < j → a ≤ 400 → lp (fun q : Int32 × Int32 × Int32 => M_goesOn_l18 R (nI d) (nI f) x3 x4 (nI (w0 + kl)) x6 q.1 q.2.1 q.2.2) (nI a, nI m, nI (w0 + j)) = some (match goL D f d ((V.drop j).filter neW) a m with | none => .inl () | some b => .inr (nI b, nI (lastN ((V.drop j).filter neW) m)))
  | 0, j, a, m, hc, hj, hm, ha => by
    have hj2 : j = kl + 1 := by omega
    have hnil : (V.drop j).filter neW = [] := drop_none V.length j (by omega) (fun k h1 h2 => hkl2 k (by omega) h2)
    rw [hnil]
    refine lp_out ?_
    show M_goesOn_l18 R (nI d) (nI f) x3 x4 (nI (w0 + kl)) x6 (nI a) (nI m) (nI (w0 + j)) = some (.inr (.inr (nI a, nI m)))
    unfold M_goesOn_l18
    rw [if_pos ((iLt (by omega) (by omega)).mpr (by omega))]
  | c + 1, j, a, m, hc, hj, hm, ha => by
    have hjl : j < V.length := by omega
    obtain ⟨v1, v2⟩ := hV j hjl
    have hvn := hVn j hjl
    have hlen := tkN_le hT hd hf
    have htm : isTerm (V.getD j ([], 0)).1 := hVt _ (getD_mem hjl)
    have ht12 := htm.1
    obtain ⟨u0, -⟩ := hD.2.2.2 d f hd hf
    have u0 : R.1 6 (2 * d + f) = nI (tkN D f d) := u0
    have h6 : rdI R 6 800 ((2 * nI d) + nI f) = some (nI (tkN D f d)) := by
      rw [show (2 : Int32) = nI 2 from rfl, nI_mul, nI_add, rdI_ok (by omega) (by omega), u0]
    rw [drop_f hjl]
    have e33 : rdI R 33 400 (nI (w0 + j)) = some (nI (V.getD j ([], 0)).1.length) := by rw [rdI_ok (by omega) (by omega), v1.1]
    have e0 : (nI (V.getD j ([], 0)).1.length = 0) = ((V.getD j ([], 0)).1 = []) := by
      have : (nI (V.getD j ([], 0)).1.length = 0) = ((V.getD j ([], 0)).1.length = 0) := iEq (b := 0) (by omega) (by omega)
      rw [this]
      exact propext List.length_eq_zero_iff
    by_cases ce : (V.getD j ([], 0)).1 = []
    · have hst : M_goesOn_l18 R (nI d) (nI f) x3 x4 (nI (w0 + kl)) x6 (nI a) (nI m) (nI (w0 + j)) = some (.inl (nI a, nI m, nI (w0 + (j + 1)))) := by
        unfold M_goesOn_l18
        rw [if_neg (fun z => by have := (iLt (by omega) (by omega)).mp z; omega), e33]
        simp only [Option.bind_some, e0]
        rw [if_neg (fun z => z ce)]
        simp only [jn_r]
        rw [show (1 : Int32) = nI 1 from rfl, nI_add, Nat.add_assoc]
      rw [lp_on (f := fun q : Int32 × Int32 × Int32 => M_goesOn_l18 R (nI d) (nI f) x3 x4 (nI (w0 + kl)) x6 q.1 q.2.1 q.2.2) (a := (nI a, nI m, nI (w0 + j))) hst, if_pos ce]
      exact M_goes hD hDL hT hd hf hV hw4 hV8 hVt hVn hkl hkl2 c (j + 1) a m (by omega) (by omega) (by omega) ha
    · rw [if_neg ce]
      have hnx : lp (fun q : Int32 => M_goesOn_l62 R (nI d) (nI f) x3 x4 (nI (w0 + kl)) x6 q (nI (V.getD j ([], 0)).2) (nI (w0 + j))) (nI (a + ((V.getD j ([], 0)).2 - m))) = some (nI (nxt D f d (V.getD j ([], 0)).1 (a + ((V.getD j ([], 0)).2 - m)))) := by
        have hs : ∀ p, p < tkN D f d → M_goesOn_l62 R (nI d) (nI f) x3 x4 (nI (w0 + kl)) x6 (nI p) (nI (V.getD j ([], 0)).2) (nI (w0 + j)) = some (if tmA D f d p = (V.getD j ([], 0)).1 then .inr (nI p) else .inl (nI (p + 1))) := fun p hp => by
          have hto := M_isToken_ok hD hDL hT hd hf hp v1 (by omega) htm ce
          unfold M_goesOn_l62
          rw [h6]
          simp only [Option.bind_some]
          rw [if_neg (fun z => by have := (iLe (by omega) (by omega)).mp z; omega), M_base_eq]
          simp only [Option.bind_some]
          rw [nI_add, hto]
          simp only [Option.bind_some]
          show (if decide (tmA D f d p = (V.getD j ([], 0)).1) = true then _ else _) = _
          by_cases q : tmA D f d p = (V.getD j ([], 0)).1
          · rw [if_pos (decide_eq_true q), if_pos q]
          · rw [if_neg (fun z => q (of_decide_eq_true z)), if_neg q, show (1 : Int32) = nI 1 from rfl, nI_add]
        have hge := nxt_ge (D := D) (f := f) (d := d) (t := (V.getD j ([], 0)).1) (a := a + ((V.getD j ([], 0)).2 - m))
        refine lp_run (p := fun p => !decide (tmA D f d p = (V.getD j ([], 0)).1)) (tkN D f d - (a + ((V.getD j ([], 0)).2 - m))) (a + ((V.getD j ([], 0)).2 - m)) (fun p h1 h2 h3 => ?_) ?_
        · have h3 : ¬ tmA D f d p = (V.getD j ([], 0)).1 := by simpa using h3
          rw [hs p (by omega), if_neg h3]
        · show M_goesOn_l62 R (nI d) (nI f) x3 x4 (nI (w0 + kl)) x6 (nI (nxt D f d (V.getD j ([], 0)).1 (a + ((V.getD j ([], 0)).2 - m)))) (nI (V.getD j ([], 0)).2) (nI (w0 + j)) = some (.inr (nI (nxt D f d (V.getD j ([], 0)).1 (a + ((V.getD j ([], 0)).2 - m)))))
          by_cases q : nxt D f d (V.getD j ([], 0)).1 (a + ((V.getD j ([], 0)).2 - m)) < tkN D f d
          · have ho := run_out (fun p => !decide (tmA D f d p = (V.getD j ([], 0)).1)) (tkN D f d - (a + ((V.getD j ([], 0)).2 - m))) (a + ((V.getD j ([], 0)).2 - m)) (by
              have q : run (fun p => !decide (tmA D f d p = (V.getD j ([], 0)).1)) (tkN D f d - (a + ((V.getD j ([], 0)).2 - m))) (a + ((V.getD j ([], 0)).2 - m)) < tkN D f d := q
              omega)
            have ho : (!decide (tmA D f d (nxt D f d (V.getD j ([], 0)).1 (a + ((V.getD j ([], 0)).2 - m))) = (V.getD j ([], 0)).1)) = false := ho
            rw [hs _ q, if_pos (by simpa using ho)]
          · have hup := (run_ge (fun p => !decide (tmA D f d p = (V.getD j ([], 0)).1)) (tkN D f d - (a + ((V.getD j ([], 0)).2 - m))) (a + ((V.getD j ([], 0)).2 - m))).2
            have hup : nxt D f d (V.getD j ([], 0)).1 (a + ((V.getD j ([], 0)).2 - m)) ≤ _ := hup
            unfold M_goesOn_l62
            rw [h6]
            simp only [Option.bind_some]
            rw [if_pos ((iLe (by omega) (by omega)).mpr (by omega))]
      unfold goL
      have hup := (run_ge (fun p => !decide (tmA D f d p = (V.getD j ([], 0)).1)) (tkN D f d - (a + ((V.getD j ([], 0)).2 - m))) (a + ((V.getD j ([], 0)).2 - m))).2
      have hup : nxt D f d (V.getD j ([], 0)).1 (a + ((V.getD j ([], 0)).2 - m)) ≤ a + ((V.getD j ([], 0)).2 - m) + (tkN D f d - (a + ((V.getD j ([], 0)).2 - m))) := hup
      have hst : M_goesOn_l18 R (nI d) (nI f) x3 x4 (nI (w0 + kl)) x6 (nI a) (nI m) (nI (w0 + j)) = some (if nxt D f d (V.getD j ([], 0)).1 (a + ((V.getD j ([], 0)).2 - m)) < tkN D f d then .inl (nI (nxt D f d (V.getD j ([], 0)).1 (a + ((V.getD j ([], 0)).2 - m))), nI (V.getD j ([], 0)).2, nI (w0 + (j + 1))) else .inr (.inl ())) := by
        unfold M_goesOn_l18
        rw [if_neg (fun z => by have := (iLt (by omega) (by omega)).mp z; omega), e33]
        simp only [Option.bind_some, e0]
        rw [if_pos ce, rdI_ok (c := 35) (by omega) (by omega), v2]
        simp only [Option.bind_some]
        rw [iSub (by omega), nI_add, hnx]
        simp only [Option.bind_some]
        rw [h6]
        simp only [Option.bind_some]
        have e1 : (nI (nxt D f d (V.getD j ([], 0)).1 (a + ((V.getD j ([], 0)).2 - m))) < nI (tkN D f d)) = (nxt D f d (V.getD j ([], 0)).1 (a + ((V.getD j ([], 0)).2 - m)) < tkN D f d) := iLt (by omega) (by omega)
        simp only [e1]
        by_cases q : nxt D f d (V.getD j ([], 0)).1 (a + ((V.getD j ([], 0)).2 - m)) < tkN D f d
        · rw [if_pos q, if_pos q]
          simp only [jn_r]
          rw [show (1 : Int32) = nI 1 from rfl, nI_add, Nat.add_assoc]
        · rw [if_neg q, if_neg q]
          rfl
      by_cases q : nxt D f d (V.getD j ([], 0)).1 (a + ((V.getD j ([], 0)).2 - m)) < tkN D f d
      · rw [if_pos q] at hst
        rw [if_pos q, lp_on (f := fun q : Int32 × Int32 × Int32 => M_goesOn_l18 R (nI d) (nI f) x3 x4 (nI (w0 + kl)) x6 q.1 q.2.1 q.2.2) (a := (nI a, nI m, nI (w0 + j))) hst, lastN_cons]
        exact M_goes hD hDL hT hd hf hV hw4 hV8 hVt hVn hkl hkl2 c (j + 1) _ _ (by omega) (by omega) (by omega) (by omega)
      · rw [if_neg q] at hst
        rw [if_neg q]
        exact lp_out (f := fun q : Int32 × Int32 × Int32 => M_goesOn_l18 R (nI d) (nI f) x3 x4 (nI (w0 + kl)) x6 q.1 q.2.1 q.2.2) (a := (nI a, nI m, nI (w0 + j))) hst
theorem M_goesOn_ok {R : RS} {D : List DocT} {dl : Nat → Bool} {d f w0 kf kl p gap : Nat} {V : List (List Nat × Nat)} (hD : rDocs R D dl) (hDL : D.length ≤ 400) (hT : okTx D) (hd : d < D.length) (hf : f < 2) (hV : rVw R w0 V) (hw4 : w0 + V.length ≤ 400) (hV8 : V.length ≤ 8) (hVt : ∀ z, z ∈ V → isTerm z.1) (hVn : ∀ k, k < V.length → (V.getD k ([], 0)).2 = k) (hkl : kl < V.length) (hkl2 : ∀ k, kl < k → k < V.length → (V.getD k ([], 0)).1 = []) (hkf : kf ≤ kl) (hp : p < tkN D f d) (hg : gap < 10) : M_goesOn R (nI d) (nI f) (nI p) (nI (w0 + kf)) (nI (w0 + kl)) (nI gap) = some (match goL D f d ((V.drop (kf + 1)).filter neW) p (V.getD kf ([], 0)).2 with | none => false | some b => decide (b ≤ p + (lastN ((V.drop (kf + 1)).filter neW) (V.getD kf ([], 0)).2 - (V.getD kf ([], 0)).2) + gap)) := by
  obtain ⟨v1, v2⟩ := hV kf (by omega)
  have hvn := hVn kf (by omega)
  have hlen := tkN_le hT hd hf
  have e35 : rdI R 35 400 (nI (w0 + kf)) = some (nI (V.getD kf ([], 0)).2) := by rw [rdI_ok (by omega) (by omega), v2]
  unfold M_goesOn
  rw [e35]
  simp only [Option.bind_some]
  rw [show (1 : Int32) = nI 1 from rfl, nI_add, Nat.add_assoc, M_goes (x3 := nI p) (x4 := nI (w0 + kf)) (x6 := nI gap) hD hDL hT hd hf hV hw4 hV8 hVt hVn hkl hkl2 (kl + 1 - (kf + 1)) (kf + 1) p (V.getD kf ([], 0)).2 rfl (by omega) (by omega) (by omega)]
  cases hgl : goL D f d ((V.drop (kf + 1)).filter neW) p (V.getD kf ([], 0)).2 with
  | none => rfl
  | some b =>
    have hge := goL_ge _ _ _ _ hgl
    have hlN : (V.getD kf ([], 0)).2 ≤ lastN ((V.drop (kf + 1)).filter neW) (V.getD kf ([], 0)).2 := lastN_ge _ _ (fun z hz => by
      have hz := (List.mem_filter.mp hz).1
      obtain ⟨k, hk, e⟩ := List.getElem_of_mem hz
      rw [List.getElem_drop] at e
      rw [List.length_drop] at hk
      have := hVn (kf + 1 + k) (by omega)
      rw [List.getD_eq_getElem?_getD, List.getElem?_eq_getElem (by omega)] at this
      simp only [Option.getD_some] at this
      rw [e] at this
      omega)
    have hlN2 : lastN ((V.drop (kf + 1)).filter neW) (V.getD kf ([], 0)).2 < 20 := by
      unfold lastN
      cases hl : ((V.drop (kf + 1)).filter neW).getLast? with
      | none => show (V.getD kf ([], 0)).2 < 20; omega
      | some z =>
        have hz := List.mem_of_getLast? hl
        have hz := (List.mem_filter.mp hz).1
        obtain ⟨k, hk, e⟩ := List.getElem_of_mem hz
        rw [List.getElem_drop] at e
        rw [List.length_drop] at hk
        have := hVn (kf + 1 + k) (by omega)
        rw [List.getD_eq_getElem?_getD, List.getElem?_eq_getElem (by omega)] at this
        simp only [Option.getD_some] at this
        rw [e] at this
        show z.2 < 20
        omega
    have hb : b < 2000 := by
      have h := goL_occ _ _ _ _ hgl
      cases hL : (V.drop (kf + 1)).filter neW with
      | nil =>
        rw [hL] at hgl
        cases hgl
        omega
      | cons z l =>
        have : ∀ (l : List (List Nat × Nat)) (a m b : Nat), goL D f d l a m = some b → a < 2000 → b < 2000 := fun l => by
          induction l with
          | nil => intro a m b h ha; cases h; exact ha
          | cons y l ih =>
            intro a m b h ha
            unfold goL at h
            split at h
            · exact ih _ _ _ h (by omega)
            · cases h
        exact this _ _ _ _ hgl (by omega)
    simp only [Option.bind_some, se_r]
    rw [iSub hlN, nI_add, iSub hge]
    have e1 : (nI (lastN ((V.drop (kf + 1)).filter neW) (V.getD kf ([], 0)).2 - (V.getD kf ([], 0)).2 + gap) < nI (b - p)) = (lastN ((V.drop (kf + 1)).filter neW) (V.getD kf ([], 0)).2 - (V.getD kf ([], 0)).2 + gap < b - p) := iLt (by omega) (by omega)
    simp only [e1]
    by_cases q : lastN ((V.drop (kf + 1)).filter neW) (V.getD kf ([], 0)).2 - (V.getD kf ([], 0)).2 + gap < b - p
    · rw [if_pos q, decide_eq_false (by omega)]
    · rw [if_neg q, decide_eq_true (by omega)]
