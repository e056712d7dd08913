/-! the reference: a phrase's score -/
theorem rarS_t {D : List DocT} {v : VwT} {f : Nat} {z : List Nat × Nat} : rarS D v f [z] = rrS (vDocs v).length (dfS D v f (enc z.1)) := by
  unfold rarS
  rw [List.map_cons, List.map_nil, List.sum_cons, List.sum_nil, Nat.add_zero]
theorem M_ph_ends {R : RS} {w0 o d : Nat} {x4 : Int32} {V : List (List Nat × Nat)} (hV : rVw R w0 V) (hw4 : w0 + V.length ≤ 400) (hVt : ∀ z, z ∈ V → isTerm z.1) (ho : o < 400) (h31 : R.1 31 o = nI w0) (hV8 : V.length ≤ 8) : ∃ s : Int32 × Int32, lp (fun q : Int32 × Int32 × Int32 => M_matchPhrase_l30 R (nI d) (nI o) (nI V.length) x4 q.1 q.2.1 q.2.2) (-1, -1, 0) = some s ∧ ((s = (-1, -1) ∧ ∀ j, j < V.length → (V.getD j ([], 0)).1 = []) ∨ ∃ kf kl, s = (nI (w0 + kf), nI (w0 + kl)) ∧ kf ≤ kl ∧ kl < V.length ∧ (V.getD kf ([], 0)).1 ≠ [] ∧ (∀ j, j < kf → (V.getD j ([], 0)).1 = []) ∧ ∀ j, kl < j → j < V.length → (V.getD j ([], 0)).1 = []) := by
  have := lp_for (f := fun q : Int32 × Int32 × Int32 => M_matchPhrase_l30 R (nI d) (nI o) (nI V.length) x4 q.1 q.2.1 q.2.2) (fun (k : Nat) (s : Int32 × Int32) => (s.1, s.2, nI k)) V.length (fun k s => (s = (-1, -1) ∧ ∀ j, j < k → (V.getD j ([], 0)).1 = []) ∨ ∃ kf kl, s = (nI (w0 + kf), nI (w0 + kl)) ∧ kf ≤ kl ∧ kl < k ∧ (V.getD kf ([], 0)).1 ≠ [] ∧ (∀ j, j < kf → (V.getD j ([], 0)).1 = []) ∧ ∀ j, kl < j → j < k → (V.getD j ([], 0)).1 = []) (fun s => (s = (-1, -1) ∧ ∀ j, j < V.length → (V.getD j ([], 0)).1 = []) ∨ ∃ kf kl, s = (nI (w0 + kf), nI (w0 + kl)) ∧ kf ≤ kl ∧ kl < V.length ∧ (V.getD kf ([], 0)).1 ≠ [] ∧ (∀ j, j < kf → (V.getD j ([], 0)).1 = []) ∧ ∀ j, kl < j → j < V.length → (V.getD j ([], 0)).1 = []) (fun k s hk hI => ?_) (fun s hI => ⟨s, ?_, hI⟩) V.length 0 (-1, -1) (by omega) (.inl ⟨rfl, fun j hj => absurd hj (Nat.not_lt_zero _)⟩)
  · exact this
  · left
    obtain ⟨v1, v2⟩ := hV k hk
    have hl12 := (hVt _ (getD_mem (d := ([], 0)) hk)).1
    have e33 : rdI R 33 400 (nI (w0 + k)) = some (nI (V.getD k ([], 0)).1.length) := by rw [rdI_ok (by omega) (by omega), v1.1]
    have e31 : rdI R 31 400 (nI o) = some (nI w0) := by rw [rdI_ok ho (by omega), h31]
    have e0 : (nI (V.getD k ([], 0)).1.length = 0) = ((V.getD k ([], 0)).1 = []) := by
      have : (nI (V.getD k ([], 0)).1.length = 0) = ((V.getD k ([], 0)).1.length = 0) := iEq (b := 0) (by omega) (by omega)
      rw [this]
      exact propext List.length_eq_zero_iff
    have hst : M_matchPhrase_l30 R (nI d) (nI o) (nI V.length) x4 s.1 s.2 (nI k) = some (.inl (if (V.getD k ([], 0)).1 = [] then s.1 else if s.1 = -1 then nI (w0 + k) else s.1, if (V.getD k ([], 0)).1 = [] then s.2 else nI (w0 + k), nI (k + 1))) := by
      unfold M_matchPhrase_l30
      rw [if_neg (fun z => by have := (iLe (by omega) (by omega)).mp z; omega), e31]
      simp only [Option.bind_some]
      rw [nI_add, e33]
      simp only [Option.bind_some, e0]
      rw [show (1 : Int32) = nI 1 from rfl, nI_add]
      by_cases ce : (V.getD k ([], 0)).1 = []
      · rw [if_neg (fun z => z ce), if_pos ce, if_pos ce]
        rfl
      · rw [if_pos ce, if_neg ce, if_neg ce]
        by_cases c1 : s.1 = -nI 1
        · rw [if_pos c1, if_neg (fun z => z c1)]
          rfl
        · rw [if_neg c1, if_pos c1]
          rfl
    refine ⟨(if (V.getD k ([], 0)).1 = [] then s.1 else if s.1 = -1 then nI (w0 + k) else s.1, if (V.getD k ([], 0)).1 = [] then s.2 else nI (w0 + k)), hst, ?_⟩
    by_cases ce : (V.getD k ([], 0)).1 = []
    · rw [if_pos ce, if_pos ce]
      rcases hI with ⟨hs, h1⟩ | ⟨kf, kl, hs, h1, h2, h3, h4, h5⟩
      · left
        refine ⟨hs, fun j hj => ?_⟩
        by_cases z : j = k
        · rw [z]; exact ce
        · exact h1 j (by omega)
      · right
        refine ⟨kf, kl, hs, h1, by omega, h3, h4, fun j h6 h7 => ?_⟩
        by_cases z : j = k
        · rw [z]; exact ce
        · exact h5 j h6 (by omega)
    · rw [if_neg ce, if_neg ce]
      right
      rcases hI with ⟨hs, h1⟩ | ⟨kf, kl, hs, h1, h2, h3, h4, h5⟩
      · rw [hs, if_pos rfl]
        exact ⟨k, k, rfl, Nat.le_refl _, by omega, ce, fun j hj => h1 j hj, fun j h6 h7 => by omega⟩
      · rw [hs]
        have : ¬ nI (w0 + kf) = -1 := nI_n1 (by omega)
        rw [if_neg this]
        exact ⟨kf, k, rfl, by omega, by omega, h3, h4, fun j h6 h7 => by omega⟩
  · show M_matchPhrase_l30 R (nI d) (nI o) (nI V.length) x4 s.1 s.2 (nI V.length) = some (.inr s)
    unfold M_matchPhrase_l30
    rw [if_pos ((iLe (by omega) (by omega)).mpr (Nat.le_refl _))]
theorem goS_occ {D : List DocT} {f d sl : Nat} {z : List Nat × Nat} {l : List (List Nat × Nat)} (h : 0 < phS D f d (z :: l) sl) : ∀ y, y ∈ z :: l → 0 < tcn (dTok (dA D d) f) (enc y.1) := by
  obtain ⟨p, hp, hg⟩ := cN_pos.mp h
  have hg : (decide (tmA D f d p = z.1) && (match goL D f d l p z.2 with | none => false | some a => decide (a ≤ p + (lastN l z.2 - z.2) + sl))) = true := hg
  rw [Bool.and_eq_true] at hg
  intro y hy
  rcases List.mem_cons.mp hy with e | hy
  · subst e
    exact tcn_occ hp (of_decide_eq_true hg.1)
  · cases hgl : goL D f d l p z.2 with
    | none =>
      rw [hgl] at hg
      cases hg.2
    | some b =>
      obtain ⟨j, j1, j2⟩ := goL_occ l _ _ _ hgl y hy
      exact tcn_occ j1 j2
theorem take_f {V : List (List Nat × Nat)} {j : Nat} (h : j < V.length) : (V.take (j + 1)).filter neW = (V.take j).filter neW ++ (if (V.getD j ([], 0)).1 = [] then [] else [V.getD j ([], 0)]) := by
  rw [take_sT h, List.filter_append]
  congr 1
  by_cases c : (V.getD j ([], 0)).1 = []
  · rw [if_pos c, List.filter_cons, if_neg (fun z => neW_t.mp z c)]
    rfl
  · rw [if_neg c, List.filter_cons, if_pos (neW_t.mpr c)]
    rfl
theorem M_matchPhrase_ok {R : RS} {D : List DocT} {dl : Nat → Bool} {i o w0 d sl : Nat} {v : VwT} {g : Option Nat} {V : List (List Nat × Nat)} (h : rSc R D dl i v) (hd : d < D.length) (hm : d ∈ vDocs v) (ho : o < 400) (h30 : R.1 30 o = fI g) (hg : ∀ x, g = some x → x < 2) (h31 : R.1 31 o = nI w0) (h32 : R.1 32 o = nI (16 * sl + V.length)) (hsl : sl < 10) (hV : rVw R w0 V) (hw4 : w0 + V.length ≤ 400) (hV8 : V.length ≤ 8) (hVt : ∀ z, z ∈ V → isTerm z.1) (hVn : ∀ k, k < V.length → (V.getD k ([], 0)).2 = k) (ha : rAc R none) : ∃ R', M_matchPhrase R (nI d) (nI o) = some R' ∧ Rp wAc R R' ∧ rAc R' (evP D v (mkPT 1 g false false false 1 0 (V.filter neW) sl 0 0 0 []) d) := by
  have e32 : rdI R 32 400 (nI o) = some (nI (16 * sl + V.length)) := by rw [rdI_ok ho (by omega), h32]
  obtain ⟨s, e1, hs⟩ := M_ph_ends (d := d) (x4 := nI (16 * sl + V.length) / 16) hV hw4 hVt ho h31 hV8
  unfold M_matchPhrase
  rw [e32]
  simp only [Option.bind_some]
  rw [nI_mod16 (by omega) (by omega), e1]
  simp only [Option.bind_some]
  have ediv : nI (16 * sl + V.length) / 16 = nI sl := by
    rw [show (16 : Int32) = nI 16 from rfl, iDiv (by omega) (by omega), show (16 * sl + V.length) / 16 = sl by omega]
  rw [ediv]
  rcases hs with ⟨rfl, hall⟩ | ⟨kf, kl, rfl, hkf, hkl, hne, hbef, haft⟩
  · have hnil : V.filter neW = [] := by
      have := drop_none (V := V) V.length 0 (by omega) (fun k _ hk => hall k hk)
      rw [List.drop_zero] at this
      exact this
    rw [hnil, if_neg (fun z => z rfl)]
    refine ⟨_, rfl, Rp.pB ⟨rfl, .inl ⟨rfl, rfl⟩⟩, ?_, ?_⟩
    · simp only [pI, pL, pB, up2_s, up2_ne]
      rfl
    · simp only [pI, pL, pB, up2_s, up2_ne]
      exact ha.2
  · have hT1 : V.filter neW = V.getD kf ([], 0) :: (V.drop (kf + 1)).filter neW := by
      rw [drop_to kf (by omega) hbef, drop_f (by omega), if_neg hne]
    have hTl : (V.filter neW).length ≤ 8 := Nat.le_trans (List.length_filter_le _ _) hV8
    have hTt : ∀ z, z ∈ V.filter neW → isTerm z.1 ∧ z.1 ≠ [] := fun z hz => ⟨hVt z (List.mem_filter.mp hz).1, neW_t.mp (List.mem_filter.mp hz).2⟩
    generalize hz : V.getD kf ([], 0) = z at *
    generalize hl : (V.drop (kf + 1)).filter neW = l at *
    have hx : ∀ f, inF D v (mkPT 1 g false false false 1 0 (V.filter neW) sl 0 0 0 []) f d = if phS D f d (V.filter neW) sl = 0 then none else some (64 * phS D f d (V.filter neW) sl * rarS D v f (V.filter neW) * wtS f / (8 + tkN D f d)) := fun f => rfl
    have hev : evP D v (mkPT 1 g false false false 1 0 (V.filter neW) sl 0 0 0 []) d = eitS (if fFor g 0 = true then inF D v (mkPT 1 g false false false 1 0 (V.filter neW) sl 0 0 0 []) 0 d else none) (if fFor g 1 = true then inF D v (mkPT 1 g false false false 1 0 (V.filter neW) sl 0 0 0 []) 1 d else none) := by
      have hk : pKind (mkPT 1 g false false false 1 0 (V.filter neW) sl 0 0 0 []) = 1 := rfl
      have ht : pTms (mkPT 1 g false false false 1 0 (V.filter neW) sl 0 0 0 []) = V.filter neW := rfl
      unfold evP
      rw [hk, ht, if_neg (by decide), if_neg (fun y => by have := y.2; rw [hT1] at this; cases this)]
      rfl
    have hle : ∀ f, f < 2 → ∀ y, inF D v (mkPT 1 g false false false 1 0 (V.filter neW) sl 0 0 0 []) f d = some y → y ≤ qCap := fun f hf y hy => by
      have := inF_le (x := mkPT 1 g false false false 1 0 (V.filter neW) sl 0 0 0 []) h.2.2.1 hd hf hTl y hy
      rw [qC]
      omega
    have hstep : ∀ (f : Nat) (m : RS) (acc : Option Nat), f < 2 → Rp wAc R m → rAc m acc → (∀ y, acc = some y → y ≤ qCap) → ∃ m', M_matchPhrase_l110 m (nI d) (nI o) (nI sl) (nI (w0 + kf)) (nI (w0 + kl)) (nI f) = some (.inl (nI (f + 1), m')) ∧ Rp wAc R m' ∧ rAc m' (eitS acc (if fFor g f = true then inF D v (mkPT 1 g false false false 1 0 (V.filter neW) sl 0 0 0 []) f d else none)) := fun f m acc hf gm ham hacc => by
      have hS := h.rp gm wAc_sc
      obtain ⟨s1, s2, s3, s4, s5, s6, s7, s8, s9⟩ := hS
      have m30 : m.1 30 o = fI g := by rw [gm.I (by decide) (by unfold wAc; omega)]; exact h30
      have mV : rVw m w0 V := fun k hk => ⟨⟨by rw [gm.I (by decide) (by unfold wAc; omega)]; exact (hV k hk).1.1, fun j hj => by rw [gm.I (by decide) (by unfold wAc; omega)]; exact (hV k hk).1.2 j hj⟩, by rw [gm.I (by decide) (by unfold wAc; omega)]; exact (hV k hk).2⟩
      obtain ⟨u0, -⟩ := s1.2.2.2 d f hd hf
      have u0 : m.1 6 (2 * d + f) = nI (tkN D f d) := u0
      have hlen := tkN_le s3 hd hf
      have h6 : rdI m 6 800 ((2 * nI d) + nI f) = some (nI (tkN D f d)) := by
        rw [show (2 : Int32) = nI 2 from rfl, nI_mul, nI_add, rdI_ok (by omega) (by omega), u0]
      have hzt := hTt z (by rw [hT1]; exact List.mem_cons_self)
      rw [evF_step]
      unfold M_matchPhrase_l110
      rw [if_neg (fun y => by have := (iLe (a := 2) (b := f) (by omega) (by omega)).mp y; omega), rdI_ok ho (by omega), m30]
      simp only [Option.bind_some]
      rw [fF_if hg hf, show (1 : Int32) = nI 1 from rfl, nI_add]
      by_cases cf : fFor g f = true
      · rw [if_pos cf, if_pos cf]
        simp only [jn_r]
        rw [hx f]
        -- how many
        have hcnt : lp (fun q : Int32 × Int32 => M_matchPhrase_l146 m (nI d) (nI o) (nI sl) (nI (w0 + kf)) (nI (w0 + kl)) (nI f) q.1 q.2) (0, 0) = some (nI (phS D f d (V.filter neW) sl)) := by
          have := lp_sum (f := fun q : Int32 × Int32 => M_matchPhrase_l146 m (nI d) (nI o) (nI sl) (nI (w0 + kf)) (nI (w0 + kl)) (nI f) q.1 q.2) (c := fun p => if goS D f d (V.filter neW) sl p = true then 1 else 0) (b := nI (phS D f d (V.filter neW) sl)) (tkN D f d) 0 (fun p hp => ?_) ?_
          · exact this
          · simp only [Nat.zero_add]
            have hto := M_isToken_ok s1 s2 s3 hd hf hp (mV kf (by omega)).1 (by omega) (by rw [hz]; exact hzt.1) (by rw [hz]; exact hzt.2)
            rw [hz] at hto
            have hgo := M_goesOn_ok (p := p) (gap := sl) s1 s2 s3 hd hf mV hw4 hV8 hVt hVn hkl haft hkf hp hsl
            rw [hz, hl] at hgo
            have hgs : goS D f d (V.filter neW) sl p = (decide (tmA D f d p = z.1) && (match goL D f d l p z.2 with | none => false | some b => decide (b ≤ p + (lastN l z.2 - z.2) + sl))) := by rw [hT1]; rfl
            generalize sN (fun p => if goS D f d (V.filter neW) sl p = true then 1 else 0) p = c
            unfold M_matchPhrase_l146
            rw [h6]
            simp only [Option.bind_some]
            rw [if_neg (fun y => by have := (iLe (by omega) (by omega)).mp y; omega), M_base_eq]
            simp only [Option.bind_some]
            rw [nI_add, hto]
            simp only [Option.bind_some]
            rw [hgs]
            show (Option.bind (if decide (tmA D f d p = z.1) = true then _ else some 0) _) = _
            by_cases q : tmA D f d p = z.1
            · rw [decide_eq_true q, if_pos rfl, hgo, Bool.true_and]
              simp only [Option.bind_some]
              rw [show (1 : Int32) = nI 1 from rfl, nI_add]
              cases goL D f d l p z.2 with
              | none => simp only [Bool.false_eq_true, if_false, Option.bind_some, show (0 : Int32) = nI 0 from rfl, nI_add]
              | some b =>
                simp only
                by_cases cb : b ≤ p + (lastN l z.2 - z.2) + sl
                · simp only [decide_eq_true cb, if_true, Option.bind_some, nI_add]
                · simp only [decide_eq_false cb, Bool.false_eq_true, if_false, Option.bind_some, show (0 : Int32) = nI 0 from rfl, nI_add]
            · rw [decide_eq_false q, if_neg (by decide), Bool.false_and]
              simp only [Option.bind_some, Bool.false_eq_true, if_false]
              rw [show (1 : Int32) = nI 1 from rfl, nI_add, show (0 : Int32) = nI 0 from rfl, nI_add]
          · rw [Nat.zero_add]
            show M_matchPhrase_l146 m (nI d) (nI o) (nI sl) (nI (w0 + kf)) (nI (w0 + kl)) (nI f) _ (nI (tkN D f d)) = _
            unfold M_matchPhrase_l146
            rw [h6]
            simp only [Option.bind_some]
            rw [if_pos ((iLe (by omega) (by omega)).mpr (Nat.le_refl _))]
            rfl
        rw [hcnt]
        simp only [Option.bind_some]
        have hphl := phS_le (D := D) (f := f) (d := d) (T := V.filter neW) (sl := sl)
        have e0 : (nI (phS D f d (V.filter neW) sl) = 0) = (phS D f d (V.filter neW) sl = 0) := iEq (b := 0) (by omega) (by omega)
        simp only [e0]
        by_cases c0 : phS D f d (V.filter neW) sl = 0
        · rw [if_neg (fun y => y c0), if_pos c0]
          refine ⟨m, rfl, gm, ?_⟩
          have : eitS acc none = acc := by cases acc <;> rfl
          rw [this]
          exact ham
        · rw [if_pos c0, if_neg c0]
          have hocc : ∀ y, y ∈ V.filter neW → 0 < tcn (dTok (dA D d) f) (enc y.1) := by
            have hpos : 0 < phS D f d (V.filter neW) sl := by omega
            rw [hT1] at hpos ⊢
            exact goS_occ hpos
          have hrl := rarS_le (D := D) (v := v) (f := f) (V.filter neW)
          -- the rarenesses' sum
          have hsum : lp (fun q : Int64 × Int32 => M_matchPhrase_l229 m (nI d) (nI o) (nI sl) (nI (w0 + kf)) (nI (w0 + kl)) (nI f) (nI (phS D f d (V.filter neW) sl)) q.1 q.2) ((0 : Int64), nI (w0 + kf)) = some (lN (rarS D v f (V.filter neW))) := by
            have hfin : (V.take (kl + 1)).filter neW = V.filter neW := by
              have e : V.filter neW = ((V.take (kl + 1)) ++ V.drop (kl + 1)).filter neW := by rw [List.take_append_drop]
              rw [e, List.filter_append, drop_none V.length (kl + 1) (by omega) (fun k h1 h2 => haft k (by omega) h2), List.append_nil]
            have hbeg : (V.take kf).filter neW = [] := by
              rw [List.filter_eq_nil_iff]
              intro y hy
              obtain ⟨k, hk, e⟩ := List.getElem_of_mem hy
              rw [List.getElem_take] at e
              rw [List.length_take] at hk
              have := hbef k (by omega)
              rw [List.getD_eq_getElem?_getD, List.getElem?_eq_getElem (by omega)] at this
              simp only [Option.getD_some] at this
              rw [e] at this
              rw [neW_t]
              exact fun q => q this
            have hrt : ∀ j, rarS D v f ((V.take j).filter neW) ≤ 31 * 8 := fun j => by
              have h1 := rarS_le (D := D) (v := v) (f := f) ((V.take j).filter neW)
              have h2 := List.length_filter_le neW (V.take j)
              rw [List.length_take] at h2
              omega
            have := lp_seq (f := fun q : Int64 × Int32 => M_matchPhrase_l229 m (nI d) (nI o) (nI sl) (nI (w0 + kf)) (nI (w0 + kl)) (nI f) (nI (phS D f d (V.filter neW) sl)) q.1 q.2) (fun j => (lN (rarS D v f ((V.take (kf + j)).filter neW)), nI (w0 + kf + j))) (m := kl + 1 - kf) (b := lN (rarS D v f (V.filter neW))) (fun j hj => ?_) ?_
            · rw [Nat.add_zero, hbeg] at this
              exact this
            · have hkj : kf + j < V.length := by omega
              obtain ⟨v1, v2⟩ := mV (kf + j) hkj
              have hyt : isTerm (V.getD (kf + j) ([], 0)).1 := hVt _ (getD_mem hkj)
              have hl12 := hyt.1
              have e33 : rdI m 33 400 (nI (w0 + kf + j)) = some (nI (V.getD (kf + j) ([], 0)).1.length) := by rw [Nat.add_assoc, rdI_ok (by omega) (by omega), v1.1]
              have hrj := hrt (kf + j)
              show M_matchPhrase_l229 m (nI d) (nI o) (nI sl) (nI (w0 + kf)) (nI (w0 + kl)) (nI f) (nI (phS D f d (V.filter neW) sl)) (lN (rarS D v f ((V.take (kf + j)).filter neW))) (nI (w0 + kf + j)) = some (.inl (lN (rarS D v f ((V.take (kf + (j + 1))).filter neW)), nI (w0 + kf + (j + 1))))
              rw [show kf + (j + 1) = kf + j + 1 by omega, take_f hkj, rarS_app]
              unfold M_matchPhrase_l229
              rw [if_neg (fun y => by have := (iLt (by omega) (by omega)).mp y; omega), e33]
              simp only [Option.bind_some]
              have el : (nI (V.getD (kf + j) ([], 0)).1.length ≤ 0) = ((V.getD (kf + j) ([], 0)).1 = []) := by
                have : (nI (V.getD (kf + j) ([], 0)).1.length ≤ 0) = ((V.getD (kf + j) ([], 0)).1.length ≤ 0) := iLe (b := 0) (by omega) (by omega)
                rw [this]
                exact propext ⟨fun y => List.length_eq_zero_iff.mp (by omega), fun y => by rw [y]; exact Nat.le_refl _⟩
              simp only [el]
              rw [show (1 : Int32) = nI 1 from rfl, nI_add, show w0 + kf + j + 1 = w0 + kf + (j + 1) by omega]
              by_cases ce : (V.getD (kf + j) ([], 0)).1 = []
              · rw [if_pos ce, if_pos ce]
                rfl
              · rw [if_neg ce, if_neg ce, rarS_t]
                have hyT : V.getD (kf + j) ([], 0) ∈ V.filter neW := List.mem_filter.mpr ⟨getD_mem hkj, neW_t.mpr ce⟩
                have hdf := dfS_pos (D := D) (v := v) (f := f) hm (hocc _ hyT)
                have hrr := rrS_le (vDocs v).length (dfS D v f (enc (V.getD (kf + j) ([], 0)).1))
                have hM := M_rare_ok s1 s2 s3 s4 s5 s6 s7 s8 s9 hf v1 (by omega) hyt ce hdf
                rw [← Nat.add_assoc] at hM
                rw [hM]
                simp only [Option.bind_some]
                rw [nI_l (by omega), lN_add]
            · rw [show w0 + kf + (kl + 1 - kf) = w0 + (kl + 1) by omega, show kf + (kl + 1 - kf) = kl + 1 by omega, hfin]
              show M_matchPhrase_l229 m (nI d) (nI o) (nI sl) (nI (w0 + kf)) (nI (w0 + kl)) (nI f) (nI (phS D f d (V.filter neW) sl)) (lN (rarS D v f (V.filter neW))) (nI (w0 + (kl + 1))) = _
              unfold M_matchPhrase_l229
              rw [if_pos ((iLt (by omega) (by omega)).mpr (by omega))]
          rw [hsum]
          simp only [Option.bind_some]
          rw [M_least_ok (by omega)]
          simp only [Option.bind_some]
          rw [Nat.min_eq_left (by rw [qC]; omega), M_score_ok s1 s2 s3 hd hf (by omega) (by omega)]
          simp only [Option.bind_some]
          have htop := top_le (show phS D f d (V.filter neW) sl ≤ 200 by omega) (show rarS D v f (V.filter neW) ≤ 248 by omega) (wtS_le f)
          obtain ⟨m', e2, g2, a2⟩ := M_come_ok (v := 64 * phS D f d (V.filter neW) sl * rarS D v f (V.filter neW) * wtS f / (8 + tkN D f d)) ham hacc (by have := Nat.div_le_self (64 * phS D f d (V.filter neW) sl * rarS D v f (V.filter neW) * wtS f) (8 + tkN D f d); rw [qC]; omega)
          rw [e2]
          exact ⟨m', rfl, gm.tr g2 (fun _ _ _ y => y), a2⟩
      · rw [if_neg cf, if_neg cf]
        exact ⟨m, rfl, gm, ham⟩
    have hn1 : ¬ nI (w0 + kf) = -1 := nI_n1 (by omega)
    rw [if_pos hn1]
    obtain ⟨m1, f1, g1, a1⟩ := hstep 0 R none (by decide) Rp.rf ha (fun y q => by cases q)
    rw [eitS_n] at a1
    obtain ⟨m2, f2, g2, a2⟩ := hstep 1 m1 _ (by decide) g1 a1 (fun y q => by
      split at q
      · exact hle 0 (by decide) y q
      · cases q)
    have f3 : M_matchPhrase_l110 m2 (nI d) (nI o) (nI sl) (nI (w0 + kf)) (nI (w0 + kl)) (nI 2) = some (.inr m2) := by
      unfold M_matchPhrase_l110
      rw [if_pos (show (2 : Int32) ≤ nI 2 by decide)]
    rw [lp_on (f := fun q : Int32 × RS => M_matchPhrase_l110 q.2 (nI d) (nI o) (nI sl) (nI (w0 + kf)) (nI (w0 + kl)) q.1) (a := (0, R)) f1, lp_on (f := fun q : Int32 × RS => M_matchPhrase_l110 q.2 (nI d) (nI o) (nI sl) (nI (w0 + kf)) (nI (w0 + kl)) q.1) (a := (nI (0 + 1), m1)) f2, lp_out (f := fun q : Int32 × RS => M_matchPhrase_l110 q.2 (nI d) (nI o) (nI sl) (nI (w0 + kf)) (nI (w0 + kl)) q.1) (a := (nI (1 + 1), m2)) f3]
    refine ⟨m2, rfl, g2, ?_⟩
    rw [hev]
    exact a2
