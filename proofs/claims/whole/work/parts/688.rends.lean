/-! the reference's parser: marks, ends of parts and ALLS -/
theorem qAny_len {st sp : Bool} {tp : Nat → Nat} {n : Nat} {ev : AtX → Sem} (ht : ∀ j, j < 600 → tp j < 256) (hn : n ≤ 600) : ∀ (k d : Nat) (br sa : Bool) (i : Nat) (X : QSt) (L : QLo) (i' : Nat) (Y : QSt) (Q : QLo), i ≤ n → qAny st sp tp n ev k d br sa i X L = .inr (i', Y, Q) → qLen X Y 0
  | 0, d, br, sa, i, X, L, i', Y, Q, hi, h => by cases h
  | k + 1, d, br, sa, i, X, L, i', Y, Q, hi, h => by
    unfold qAny at h
    have hnn := fun a b c X L i' Y Q => qAny_n (ev := ev) (st := st) (sp := sp) ht hn k (d + 1) a b c X L i' Y Q
    have hll := fun a b c X L i' Y Q => qAny_len (ev := ev) (st := st) (sp := sp) ht hn k (d + 1) a b c X L i' Y Q
    cases hr : qPt st sp tp n ev (qAny st sp tp n ev k (d + 1)) d br sa i X with
    | inl p =>
      rw [hr] at h
      cases h
    | inr r =>
      obtain ⟨i3, Z, f⟩ := r
      have h3 := qPt_n ht hn hi hnn hr
      obtain ⟨a, b, c⟩ := qPt_len ht hn hi hll hr
      rw [hr] at h
      simp only at h
      split at h
      · have hz := qAny_len ht hn k d _ _ _ _ _ _ _ _ (pE_b h3).2 h
        obtain ⟨a', b', c'⟩ := hz
        have a' : Y.2.1.length + 5 * Z.1.length + 0 ≤ (Z.2.1 ++ [((7 : Nat), (0 : Int32), nI (L.1 + 1), (0 : Int32))]).length + 5 * Y.1.length := a'
        rw [List.length_append] at a'
        simp only [List.length_cons, List.length_nil] at a'
        have b' : Y.2.2.1.length + 8 * Z.1.length ≤ Z.2.2.1.length + 8 * Y.1.length := b'
        have c' : Y.2.2.2.length + 8 * Z.1.length ≤ Z.2.2.2.length + 8 * Y.1.length := c'
        exact ⟨by omega, by omega, by omega⟩
      · split at h
        · obtain ⟨a', b', c'⟩ := qAny_len ht hn k d _ _ _ _ _ _ _ _ h3 h
          exact ⟨by omega, by omega, by omega⟩
        · cases h
          exact ⟨by omega, by omega, by omega⟩
def rM (R : RS) (M : List MrT) : Prop := R.1 0 30 = nI M.length ∧ ∀ k, k < M.length → R.1 39 k = nI (M.getD k (0, none, 0)).1 ∧ R.1 40 k = fI (M.getD k (0, none, 0)).2.1 ∧ R.1 41 k = nI (M.getD k (0, none, 0)).2.2
def wMk : Nat → Nat → Nat → Prop := fun t c j => t = 0 ∧ ((c = 0 ∧ j = 30) ∨ (39 ≤ c ∧ c ≤ 41))
theorem rM.rp {R R' : RS} {M : List MrT} {W : Nat → Nat → Nat → Prop} (h : rM R M) (hk : Rp W R R') (h1 : ¬ W 0 0 30) (h2 : ∀ c j, 39 ≤ c → c ≤ 41 → ¬ W 0 c j) : rM R' M := by
  refine ⟨by rw [hk.I (by decide) h1]; exact h.1, fun k hk' => ?_⟩
  rw [hk.I (by decide) (h2 _ _ (by decide) (by decide)), hk.I (by decide) (h2 _ _ (by decide) (by decide)), hk.I (by decide) (h2 _ _ (by decide) (by decide))]
  exact h.2 k hk'
theorem wMk_env : ∀ t c j, wMk t c j → ¬ (t = 0 ∧ c = 1) ∧ ¬ (t = 0 ∧ c = 0 ∧ (j = 44 ∨ j = 45)) ∧ ¬ (t = 3 ∧ c = 0) := fun t c j z => by unfold wMk at z; omega
def atMk (y : AtX) (w k : Nat) : List MrT := ((List.range k).filter (fun k => !((atW y).getD k ([], 0)).1.isEmpty)).map (fun k => ((if y.1 = 2 then 2 else 1), y.2.1, w + k))
theorem atMk_s {y : AtX} {w k : Nat} : atMk y w (k + 1) = atMk y w k ++ (if ((atW y).getD k ([], 0)).1 = [] then [] else [((if y.1 = 2 then 2 else 1), y.2.1, w + k)]) := by
  unfold atMk
  rw [List.range_succ, List.filter_append, List.map_append]
  congr 1
  by_cases c : ((atW y).getD k ([], 0)).1 = []
  · have hb : (!((atW y).getD k ([], 0)).1.isEmpty) = false := by rw [c]; rfl
    rw [if_pos c]
    simp only [List.filter_cons, List.filter_nil, hb, Bool.false_eq_true, if_false, List.map_nil]
  · have hb : (!((atW y).getD k ([], 0)).1.isEmpty) = true := by
      cases h : ((atW y).getD k ([], 0)).1 with
      | nil => exact absurd h c
      | cons a l => rfl
    rw [if_neg c]
    simp only [List.filter_cons, List.filter_nil, hb, if_true, List.map_cons, List.map_nil]
theorem atMk_len {y : AtX} {w k : Nat} : (atMk y w k).length ≤ k := by
  unfold atMk
  rw [List.length_map]
  have := List.length_filter_le (fun k => !((atW y).getD k ([], 0)).1.isEmpty) (List.range k)
  rw [List.length_range] at this
  exact this
theorem nI_mod16 {a b : Nat} (hb : b < 16) (ha : a < 100) : remI (nI (16 * a + b)) 16 = nI b := by
  rw [show (16 : Int32) = nI 16 from rfl, iRem (by omega) (by omega), show (16 * a + b) % 16 = b by omega]
theorem M_mark_ok {R : RS} {O : List OpT} {Ws : List (List Nat × Nat)} {M : List MrT} {y : AtX} (hy : okAt y) (hO : rO R (O ++ [atO y Ws.length])) (hW : rW R (Ws ++ atW y)) (hM : rM R M) (h1 : O.length < 400) (h2 : Ws.length + 8 ≤ 400) (h3 : M.length + 8 ≤ 400) : ∃ R', M_mark R (nI O.length) = some R' ∧ Rp wMk R R' ∧ rM R' (M ++ atM y Ws.length) := by
  obtain ⟨y1, y2, y3, y4, y5, y6, y7, y8, y9, y10, y11⟩ := hy
  have hlast : qoA (O ++ [atO y Ws.length]) O.length = atO y Ws.length := by
    unfold qoA
    rw [getD_app, if_neg (Nat.lt_irrefl _), if_pos rfl]
  obtain ⟨o1, o2, o3, o4⟩ := hO.2 O.length (by rw [List.length_append]; show O.length < O.length + 1; omega)
  rw [hlast] at o1 o2 o3 o4
  unfold M_mark
  rw [rdI_ok h1 (by omega), o1]
  simp only [Option.bind_some]
  by_cases c4 : y.1 = 4
  · have e1 : (atO y Ws.length).1 = 4 := by unfold atO; rw [if_pos c4]
    rw [e1, if_neg (fun z => z rfl)]
    refine ⟨R, rfl, Rp.rf, ?_⟩
    unfold atM
    rw [if_pos c4, List.append_nil]
    exact hM
  · have hA : atM y Ws.length = atMk y Ws.length (atW y).length := by unfold atM atMk; rw [if_neg c4]
    have e1 : (atO y Ws.length).1 = y.1 ∧ (atO y Ws.length).2.1 = fI y.2.1 ∧ (atO y Ws.length).2.2.1 = nI Ws.length ∧ (y.1 = 3 → (atO y Ws.length).2.2.2 = nI (16 * y.2.2.2.1 + (atW y).length)) := by
      unfold atO
      rw [if_neg c4]
      by_cases c3 : y.1 = 3
      · rw [if_pos c3]
        exact ⟨c3.symm, rfl, rfl, fun _ => rfl⟩
      · rw [if_neg c3]
        exact ⟨rfl, rfl, rfl, fun z => absurd z c3⟩
    obtain ⟨e1, e2, e3, e4⟩ := e1
    rw [e1] at o1 ⊢
    rw [e2] at o2
    rw [e3] at o3
    have hy1 : y.1 < 5 := by omega
    have c4' : ¬ nI y.1 = 4 := by
      have : (nI y.1 = 4) = (y.1 = 4) := iEq (b := 4) (by omega) (by omega)
      rw [this]
      exact c4
    rw [if_pos c4']
    have eN : (if ¬ nI y.1 = 3 then some (1 : Int32) else (rdI R 32 400 (nI O.length)).bind fun v6 => some (remI v6 16)) = some (nI (atW y).length) := by
      have : (nI y.1 = 3) = (y.1 = 3) := iEq (b := 3) (by omega) (by omega)
      simp only [this]
      by_cases c3 : y.1 = 3
      · rw [if_neg (fun z => z c3), rdI_ok h1 (by omega), o4, e4 c3]
        simp only [Option.bind_some]
        rw [nI_mod16 (by omega) (by omega)]
      · rw [if_pos c3, y3 (by omega)]
        rfl
    rw [eN]
    simp only [Option.bind_some]
    obtain ⟨Z, f1, g1, m1⟩ : ∃ Z, lp (fun q : Int32 × RS => M_mark_l37 q.2 (nI O.length) (nI (atW y).length) q.1) ((fun k (Q : RS) => (nI k, Q)) 0 R) = some Z ∧ (Rp wMk R Z ∧ rM Z (M ++ atMk y Ws.length (atW y).length)) := by
      refine lp_for (fun k (Q : RS) => (nI k, Q)) (atW y).length (fun k Q => Rp wMk R Q ∧ rM Q (M ++ atMk y Ws.length k)) _ (fun k Q hk hI => ?_) (fun Q hI => ?_) (atW y).length 0 R (by omega) ⟨Rp.rf, by show rM R (M ++ []); rw [List.append_nil]; exact hM⟩
      · left
        obtain ⟨q1, q2, q3⟩ := hI
        have hml := atMk_len (y := y) (w := Ws.length) (k := k)
        have hl : (M ++ atMk y Ws.length k).length < M.length + 8 := by rw [List.length_append]; omega
        have rI : ∀ c j, ¬ wMk 0 c j → c < 46 → Q.1 c j = R.1 c j := fun c j z hc => q1.I hc z
        obtain ⟨w1, w2, w3, w4⟩ := hW.2 (Ws.length + k) (by rw [List.length_append]; omega)
        have ew : qwA (Ws ++ atW y) (Ws.length + k) = (atW y).getD k ([], 0) := by
          unfold qwA
          rw [List.getD_eq_getElem?_getD, List.getElem?_append_right (by omega), Nat.add_sub_cancel_left, ← List.getD_eq_getElem?_getD]
        rw [ew] at w1 w2
        have hst : ∃ Q', M_mark_l37 Q (nI O.length) (nI (atW y).length) (nI k) = some (.inl (nI (k + 1), Q')) ∧ Rp wMk R Q' ∧ rM Q' (M ++ atMk y Ws.length (k + 1)) := by
          unfold M_mark_l37
          have e0 : (nI (atW y).length ≤ nI k) = ((atW y).length ≤ k) := iLe (by omega) (by omega)
          simp only [e0]
          rw [if_neg (by omega), rdI_ok h1 (by omega), rI 31 _ (by unfold wMk; omega) (by decide), o3]
          simp only [Option.bind_some]
          rw [nI_add, rdI_ok (by omega) (by omega), rI 33 _ (by unfold wMk; omega) (by decide), w2]
          simp only [Option.bind_some]
          have e00 : (nI ((atW y).getD k ([], 0)).1.length = 0) = (((atW y).getD k ([], 0)).1 = []) := by
            have : (nI ((atW y).getD k ([], 0)).1.length = 0) = (((atW y).getD k ([], 0)).1.length = 0) := iEq (b := 0) (by omega) (by omega)
            rw [this]
            exact propext List.length_eq_zero_iff
          simp only [e00]
          rw [show (1 : Int32) = nI 1 from rfl, nI_add]
          by_cases ce : ((atW y).getD k ([], 0)).1 = []
          · rw [if_neg (fun z => z ce)]
            refine ⟨Q, rfl, q1, ?_⟩
            rw [atMk_s, if_pos ce, List.append_nil]
            exact ⟨q2, q3⟩
          · rw [if_pos ce, rdI_ok h1 (by omega), rI 29 _ (by unfold wMk; omega) (by decide), o1]
            simp only [Option.bind_some]
            have e2' : (if ¬ nI y.1 = 2 then some (nI 1) else some (2 : Int32)) = some (nI (if y.1 = 2 then 2 else 1)) := by
              have : (nI y.1 = 2) = (y.1 = 2) := iEq (b := 2) (by omega) (by omega)
              simp only [this]
              by_cases c2 : y.1 = 2
              · rw [if_neg (fun z => z c2), if_pos c2]; rfl
              · rw [if_pos c2, if_neg c2]
            rw [e2']
            simp only [Option.bind_some]
            have r30 : Q.1 30 O.length = fI y.2.1 := by rw [rI 30 _ (by unfold wMk; omega) (by decide), o2]
            have r31 : Q.1 31 O.length = nI Ws.length := by rw [rI 31 _ (by unfold wMk; omega) (by decide), o3]
            generalize hML : (M ++ atMk y Ws.length k) = ML at *
            have hlt : ML.length < 400 := by omega
            simp (disch := first | assumption | omega) only [q2, wrI_ok, rdI_ok, r30, r31, Option.bind_some, pI, pL, pB, up2_s, up2_ne, nI_add]
            have g : Rp wMk Q (up2 (up2 (up2 (up2 Q.1 39 ML.length (nI (if y.1 = 2 then 2 else 1))) 40 ML.length (fI y.2.1)) 41 ML.length (nI (Ws.length + k))) 0 30 (nI (ML.length + 1)), Q.2) := by
              refine Rp.tr (W' := wMk) (R' := (up2 (up2 (up2 Q.1 39 ML.length (nI (if y.1 = 2 then 2 else 1))) 40 ML.length (fI y.2.1)) 41 ML.length (nI (Ws.length + k)), Q.2)) ?_ (Rp.wI (by unfold wMk; omega)) (fun _ _ _ z => z)
              refine Rp.tr (W' := wMk) (R' := (up2 (up2 Q.1 39 ML.length (nI (if y.1 = 2 then 2 else 1))) 40 ML.length (fI y.2.1), Q.2)) ?_ (Rp.wI (by unfold wMk; omega)) (fun _ _ _ z => z)
              exact Rp.tr (W' := wMk) (R' := (up2 Q.1 39 ML.length (nI (if y.1 = 2 then 2 else 1)), Q.2)) (Rp.wI (by unfold wMk; omega)) (Rp.wI (by unfold wMk; omega)) (fun _ _ _ z => z)
            refine ⟨_, rfl, q1.tr g (fun _ _ _ z => z), ?_⟩
            rw [atMk_s, if_neg ce, ← List.append_assoc, hML]
            refine ⟨?_, fun j hj => ?_⟩
            · simp only [up2_s]
              rw [List.length_append]
              rfl
            · rw [List.length_append] at hj
              have hj : j < ML.length + 1 := hj
              rw [getD_app]
              by_cases z : j < ML.length
              · rw [if_pos z]
                have := q3 j z
                simp (disch := omega) only [pI, pL, pB, up2_s, up2_ne]
                exact this
              · rw [if_neg z, if_pos (show j = ML.length by omega), show j = ML.length by omega]
                simp (disch := omega) only [pI, pL, pB, up2_s, up2_ne]
                refine ⟨?_, ?_, ?_⟩ <;> trivial
        obtain ⟨Q', e5, e6, e7⟩ := hst
        exact ⟨Q', e5, e6, e7⟩
      · refine ⟨Q, ?_, hI⟩
        unfold M_mark_l37
        have e0 : (nI (atW y).length ≤ nI (atW y).length) := (iLe (by omega) (by omega)).mpr (Nat.le_refl _)
        rw [if_pos e0]
    have f1 : lp (fun q : Int32 × RS => M_mark_l37 q.2 (nI O.length) (nI (atW y).length) q.1) (0, R) = some Z := f1
    rw [f1]
    refine ⟨Z, rfl, g1, ?_⟩
    rw [hA]
    exact m1
theorem M_isWithinMinus_ok {R : RS} {d : Nat} {br : Bool} (hd : R.1 0 58 = nI d) (hd8 : d ≤ 9) (hb : br = true ↔ ∃ k, k < d ∧ R.2.2 38 k = true) : M_isWithinMinus R = some br := by
  unfold M_isWithinMinus
  obtain ⟨b, e1, e2⟩ : ∃ b, lp (fun q : Bool × Int32 => M_isWithinMinus_l4 R q.1 q.2) ((fun k (b : Bool) => (b, nI k)) 0 false) = some b ∧ (b = true ↔ ∃ k, k < d ∧ R.2.2 38 k = true) := by
    refine lp_for (fun k (b : Bool) => (b, nI k)) d (fun k b => b = true ↔ ∃ j, j < k ∧ R.2.2 38 j = true) _ (fun k b hk hI => ?_) (fun b hI => ?_) d 0 false (by omega) ⟨fun z => (by cases z), fun ⟨j, z, _⟩ => absurd z (Nat.not_lt_zero _)⟩
    · left
      refine ⟨(b || R.2.2 38 k), ?_, ?_⟩
      · show M_isWithinMinus_l4 R b (nI k) = some (.inl ((b || R.2.2 38 k), nI (k + 1)))
        unfold M_isWithinMinus_l4
        rw [hd]
        have e0 : (nI d ≤ nI k) = (d ≤ k) := iLe (by omega) (by omega)
        simp only [e0]
        rw [if_neg (by omega), rdB_ok (by omega) (by omega), show (1 : Int32) = nI 1 from rfl, nI_add]
        cases b
        · cases R.2.2 38 k <;> rfl
        · rfl
      · rw [Bool.or_eq_true, hI]
        constructor
        · rintro (⟨j, h1, h2⟩ | h)
          · exact ⟨j, by omega, h2⟩
          · exact ⟨k, by omega, h⟩
        · rintro ⟨j, h1, h2⟩
          by_cases z : j = k
          · right; rw [← z]; exact h2
          · left; exact ⟨j, by omega, h2⟩
    · refine ⟨b, ?_, hI⟩
      show M_isWithinMinus_l4 R b (nI d) = some (.inr b)
      unfold M_isWithinMinus_l4
      rw [hd]
      rw [if_pos ((iLe (by omega) (by omega)).mpr (Nat.le_refl _))]
  have e1 : lp (fun q : Bool × Int32 => M_isWithinMinus_l4 R q.1 q.2) (false, 0) = some b := e1
  rw [e1]
  have : b = br := by
    rw [Bool.eq_iff_iff, e2, hb]
  rw [this]
  rfl
/-- what the end of a part writes -/
def wEP (d : Nat) : Nat → Nat → Nat → Prop := fun t c j => t = 0 ∧ ((c = 0 ∧ ((40 ≤ j ∧ j ≤ 43) ∨ j = 50)) ∨ (29 ≤ c ∧ c ≤ 32) ∨ (c = 36 ∧ j = d))
theorem wEP_env {d : Nat} : ∀ t c j, wEP d t c j → ¬ (t = 0 ∧ c = 1) ∧ ¬ (t = 0 ∧ c = 0 ∧ (j = 44 ∨ j = 45)) ∧ ¬ (t = 3 ∧ c = 0) := fun t c j z => by unfold wEP at z; omega
theorem wEm_wEP {N d : Nat} : ∀ t c j, wEm N t c j → wEP d t c j := fun t c j z => by unfold wEm at z; unfold wEP; omega
theorem wRd_wEP {d : Nat} : ∀ t c j, wRd t c j → wEP d t c j := fun t c j z => by unfold wRd at z; unfold wEP; omega
theorem M_endPart_ok {R : RS} {tp : Nat → Nat} {n i d np : Nat} {st sp ng : Bool} {O : List OpT} (h : rEnv R tp n st sp) (hc : rPc R tp n i) (hO : rO R O) (hl : O.length + 2 ≤ 400) (hd : R.1 0 58 = nI d) (hd8 : d ≤ 9) (hp : R.1 36 d = nI np) : match qBoost tp n i with
    | .inl p => ∃ R', M_endPart R ng = some R' ∧ R'.1 0 45 = nI p ∧ p < 1000 ∧ Rp (fun t c j => wEP d t c j ∨ wFl t c j) R R'
    | .inr (i3, b) => ∃ R', M_endPart R ng = some R' ∧ Rp (wEP d) R R' ∧ rEnv R' tp n st sp ∧ rPc R' tp n i3 ∧ rO R' (O ++ opsB tp n i ng b) ∧ R'.1 36 d = nI (np + 1) := by
  have hn := h.1
  have hk := h.k hc.1
  obtain ⟨R1, e1, g1, o1, l1⟩ : ∃ R1, (if ng = true then (M_emit R 5 0 0 0).bind fun v3 => some v3 else some R) = some R1 ∧ Rp (wEP d) R R1 ∧ rO R1 (O ++ (if ng = true then [(5, 0, 0, 0)] else [])) ∧ (O ++ (if ng = true then [((5 : Nat), (0 : Int32), (0 : Int32), (0 : Int32))] else [])).length < 400 := by
    cases ng with
    | true =>
      obtain ⟨R1, e1, g1, o1⟩ := M_emit_ok hO (by omega) 5 0 0 0
      rw [if_pos rfl, if_pos rfl, show (5 : Int32) = nI 5 from rfl, e1]
      exact ⟨R1, rfl, g1.mono wEm_wEP, o1, by rw [List.length_append]; show O.length + 1 < 400; omega⟩
    | false =>
      rw [if_neg (by decide), if_neg (by decide), List.append_nil]
      exact ⟨R, rfl, Rp.rf, hO, by omega⟩
  have h1 := h.rp g1 wEP_env
  -- the piece is as it was
  obtain ⟨R1', hR1'⟩ : ∃ x, x = R1 := ⟨R1, rfl⟩
  have c1 : rPc R1 tp n i := by
    cases ng with
    | true =>
      obtain ⟨R2, e2, g2, o2⟩ := M_emit_ok hO (by omega) 5 0 0 0
      rw [if_pos rfl, show (5 : Int32) = nI 5 from rfl, e2] at e1
      have e1 : some R2 = some R1 := e1
      cases e1
      exact hc.rp g2 (fun j z1 z2 z => by unfold wEm at z; omega)
    | false =>
      rw [if_neg (by decide)] at e1
      cases e1
      exact hc
  have d1 : R1.1 0 58 = nI d := by rw [g1.I (by decide) (by unfold wEP; omega)]; exact hd
  have p1 : R1.1 36 d = nI np := by
    cases ng with
    | true =>
      obtain ⟨R2, e2, g2, o2⟩ := M_emit_ok hO (by omega) 5 0 0 0
      rw [if_pos rfl, show (5 : Int32) = nI 5 from rfl, e2] at e1
      have e1 : some R2 = some R1 := e1
      cases e1
      rw [g2.I (by decide) (by unfold wEm; omega)]
      exact hp
    | false =>
      rw [if_neg (by decide)] at e1
      cases e1
      exact hp
  unfold M_endPart
  rw [e1]
  simp only [Option.bind_some]
  rw [c1.2.1, show (94 : Int32) = nI 94 from rfl]
  simp only [rk_c hk (c := 94) (by decide)]
  have hend : ∀ (m : RS) (Om : List OpT), Rp (wEP d) R m → rEnv m tp n st sp → m.1 0 58 = nI d → m.1 36 d = nI np → rO m Om → ∃ R', ((rdI m 36 10 (m.1 0 58)).bind fun v10 => (wrI m 36 10 (m.1 0 58) (v10 + 1)).bind fun R11 => some R11) = some R' ∧ Rp (wEP d) R R' ∧ Rp (fun t c j => t = 0 ∧ c = 36) m R' ∧ rEnv R' tp n st sp ∧ rO R' Om ∧ R'.1 36 d = nI (np + 1) := fun m Om gm hm dm pm om => by
    have g : Rp (fun t c j => t = 0 ∧ c = 36) m (up2 m.1 36 d (nI (np + 1)), m.2) := Rp.wI ⟨rfl, rfl⟩
    refine ⟨(up2 m.1 36 d (nI (np + 1)), m.2), ?_, gm.tr (Rp.wI (W := wEP d) (by unfold wEP; omega)) (fun _ _ _ z => z), g, hm.rp g (fun t c j z => by omega), om.rp g (by omega) (fun c j z1 z2 z => by omega), by simp only [up2_s]⟩
    rw [dm, rdI_ok (by omega) (by omega), pm]
    simp only [Option.bind_some]
    rw [show (1 : Int32) = nI 1 from rfl, nI_add, wrI_ok (by omega) (by omega)]
    rfl
  unfold qBoost
  by_cases c94 : pK tp n i = 94
  · rw [if_pos c94, if_neg (fun z => z c94)]
    obtain ⟨R2, e2, g2, c2, h2⟩ := rdv h1 c1
    have G2 := g1.tr g2 wRd_wEP
    have o2 := o1.rp g2 (by unfold wRd; omega) (fun c j z1 z2 z => by unfold wRd at z; omega)
    rw [e2]
    simp only [Option.bind_some]
    rcases M_digit_ok h2 c2 (lo := 1) (by decide) with ⟨v, R3, hq, hv, e3, g3, c3, h3⟩ | ⟨hq, e3⟩
    · have e3 : M_digit R2 1 = some (nI v, R3) := e3
      rw [e3, hq]
      simp only [Option.bind_some]
      rw [if_pos h3.2.2.2.2.2, if_neg (by omega)]
      have o3 := o2.rp g3 (by unfold wRd; omega) (fun c j z1 z2 z => by unfold wRd at z; omega)
      obtain ⟨R4, e4, g4, o4⟩ := M_emit_ok o3 l1 6 0 (nI v) 0
      rw [show (6 : Int32) = nI 6 from rfl, e4]
      simp only [Option.bind_some, jn_r]
      have G3 := G2.tr g3 wRd_wEP
      have d4 : R4.1 0 58 = nI d := by rw [g4.I (by decide) (by unfold wEm; omega), g3.I (by decide) (by unfold wRd; omega), g2.I (by decide) (by unfold wRd; omega)]; exact d1
      have p4 : R4.1 36 d = nI np := by rw [g4.I (by decide) (by unfold wEm; omega), g3.I (by decide) (by unfold wRd; omega), g2.I (by decide) (by unfold wRd; omega)]; exact p1
      obtain ⟨R5, e5, g5, g5', h5, o5, p5⟩ := hend R4 _ (G3.tr g4 wEm_wEP) (h3.rp g4 wEm_env) d4 p4 o4
      refine ⟨R5, e5, g5, h5, (c3.rp g4 (fun j z1 z2 z => by unfold wEm at z; omega)).rp g5' (fun j z1 z2 z => by omega), ?_, p5⟩
      unfold opsB
      rw [if_pos c94, ← List.append_assoc]
      exact o5
    · have e3 : M_digit R2 1 = some (0, pI R2 45 (nI (pS tp n (pE tp n i)))) := e3
      have hps := pS_lt (tp := tp) c2.1 hn
      have hz : ∃ R', (jn ((M_digit R2 1).bind fun v7 => if v7.2.1 0 45 = -1 then (M_emit v7.2 6 0 v7.1 0).bind fun v9 => some (Sum.inr v9) else some (Sum.inl v7.2)) fun q4 => (rdI q4 36 10 (q4.1 0 58)).bind fun v10 => (wrI q4 36 10 (q4.1 0 58) (v10 + 1)).bind fun R11 => some R11) = some R' ∧ R'.1 0 45 = nI (pS tp n (pE tp n i)) ∧ pS tp n (pE tp n i) < 1000 ∧ Rp (fun t c j => wEP d t c j ∨ wFl t c j) R R' := by
        rw [e3]
        simp only [Option.bind_some]
        rw [if_neg (by rw [fl45]; exact nI_n1 (by omega))]
        exact ⟨_, rfl, fl45, hps, (G2.mono (fun _ _ _ z => .inl z)).tr rp_fl (fun _ _ _ z => .inr z)⟩
      cases hh : qNum tp n 1 (pE tp n i) with
      | none => exact hz
      | some v =>
        have hv := hq v hh
        simp only
        rw [if_pos (by omega)]
        exact hz
  · rw [if_pos c94, if_neg c94]
    simp only [jn_r]
    obtain ⟨R5, e5, g5, g5', h5, o5, p5⟩ := hend R1 _ g1 h1 d1 p1 o1
    refine ⟨R5, e5, g5, h5, c1.rp g5' (fun j z1 z2 z => by omega), ?_, p5⟩
    unfold opsB
    rw [if_neg c94, List.append_nil]
    exact o5
/-- what the end of an ALL writes -/
def wEA (d : Nat) : Nat → Nat → Nat → Prop := fun t c j => t = 0 ∧ ((c = 0 ∧ j = 50) ∨ (29 ≤ c ∧ c ≤ 32) ∨ ((c = 36 ∨ c = 37) ∧ j = d))
theorem wEA_env {d : Nat} : ∀ t c j, wEA d t c j → ¬ (t = 0 ∧ c = 1) ∧ ¬ (t = 0 ∧ c = 0 ∧ (j = 44 ∨ j = 45)) ∧ ¬ (t = 3 ∧ c = 0) := fun t c j z => by unfold wEA at z; omega
theorem M_endAll_ok {R : RS} {d np na : Nat} {O : List OpT} (hO : rO R O) (hl : O.length < 400) (hd : R.1 0 58 = nI d) (hd8 : d ≤ 9) (hp : R.1 36 d = nI np) (ha : R.1 37 d = nI na) : ∃ R', M_endAll R = some R' ∧ Rp (wEA d) R R' ∧ rO R' (O ++ [(7, 0, nI np, 0)]) ∧ R'.1 36 d = nI 0 ∧ R'.1 37 d = nI (na + 1) := by
  unfold M_endAll
  rw [hd, rdI_ok (by omega) (by omega), hp]
  simp only [Option.bind_some]
  obtain ⟨R1, e1, g1, o1⟩ := M_emit_ok hO hl 7 0 (nI np) 0
  rw [show (7 : Int32) = nI 7 from rfl, e1]
  simp only [Option.bind_some]
  have d1 : R1.1 0 58 = nI d := by rw [g1.I (by decide) (by unfold wEm; omega)]; exact hd
  have a1 : R1.1 37 d = nI na := by rw [g1.I (by decide) (by unfold wEm; omega)]; exact ha
  simp (disch := first | assumption | omega) only [d1, a1, wrI_ok, rdI_ok, Option.bind_some, pI, pL, pB, up2_s, up2_ne]
  have g2 : Rp (fun t c j => t = 0 ∧ (c = 36 ∨ c = 37) ∧ j = d) R1 (up2 (up2 R1.1 36 d 0) 37 d (nI na + 1), R1.2) := Rp.tr (R' := (up2 R1.1 36 d 0, R1.2)) (Rp.wI ⟨rfl, .inl rfl, rfl⟩) (Rp.wI ⟨rfl, .inr rfl, rfl⟩) (fun _ _ _ z => z)
  refine ⟨_, rfl, ((g1.mono (W' := wEA d) (fun t c j z => by unfold wEm at z; unfold wEA; omega)).tr g2 (fun t c j z => by unfold wEA; omega)), o1.rp g2 (by omega) (fun c j z1 z2 z => by omega), ?_, ?_⟩
  · simp (disch := omega) only [pI, pL, pB, up2_s, up2_ne]; rfl
  · simp only [up2_s]
    rw [show (1 : Int32) = nI 1 from rfl, nI_add]
