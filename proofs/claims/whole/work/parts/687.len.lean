/-! what the parse makes: atoms, lengths -/
def okAt (y : AtX) : Prop := (y.1 = 1 ∨ y.1 = 2 ∨ y.1 = 3 ∨ y.1 = 4) ∧ (atW y).length ≤ 8 ∧ (y.1 ≤ 2 → (atW y).length = 1) ∧ (y.1 = 4 → atW y = []) ∧ (∀ z, z ∈ atW y → isTerm z.1 ∧ z.2 < 8) ∧ (∀ f, y.2.1 = some f → f < 2) ∧ y.2.2.2.1 < 10 ∧ y.2.2.2.2.1 < 2 ∧ (y.1 = 3 → atW y ≠ []) ∧ (∀ k, k < (atW y).length → ((atW y).getD k ([], 0)).2 = k) ∧ (y.1 = 2 → ((atW y).getD 0 ([], 0)).1 ≠ [])
theorem qRange_ok {tp : Nat → Nat} {n i j : Nat} {y : AtX} (h : qRange tp n i = .inr (j, y)) : okAt y := by
  unfold qRange at h
  simp only at h
  split at h
  · split at h
    · cases h
    · split at h
      · cases h
      · split at h
        · cases h
          refine ⟨.inr (.inr (.inr rfl)), Nat.zero_le _, fun z => absurd (show 4 ≤ 2 from z) (by decide), fun _ => rfl, fun z hz => absurd hz (by simp [atW]), fun f hf => (by cases hf), (by show 0 < 10; decide), ?_, fun z => absurd (show 4 = 3 from z) (by decide), fun k hk => absurd hk (Nat.not_lt_zero _), fun z => absurd (show 4 = 2 from z) (by decide)⟩
          show (if _ then 0 else 1) < 2
          split <;> decide
        · cases h
  · cases h
theorem qWords_ok {st sp : Bool} {tp : Nat → Nat} {n : Nat} (ht : ∀ j, j < 600 → tp j < 256) (hn : n ≤ 600) : ∀ (k i : Nat) (ws : List (List Nat × Nat)), i ≤ n → ws.length + k = 8 → ((∀ z, z ∈ ws → isTerm z.1 ∧ z.2 < 8) ∧ ∀ k, k < ws.length → (ws.getD k ([], 0)).2 = k) → (∀ z, z ∈ (qWords st sp tp n k i ws).2 → isTerm z.1 ∧ z.2 < 8) ∧ ∀ j, j < (qWords st sp tp n k i ws).2.length → ((qWords st sp tp n k i ws).2.getD j ([], 0)).2 = j
  | 0, i, ws, hi, h8, h => h
  | k + 1, i, ws, hi, h8, h => by
    unfold qWords
    by_cases c : pK tp n i = 256
    · rw [if_pos c]
      obtain ⟨w1, -⟩ := pW_w ht hn hi c
      refine qWords_ok ht hn k (pE tp n i) _ (pE_b hi).2 (by rw [List.length_append]; show ws.length + 1 + k = 8; omega) ⟨fun z hz => ?_, fun j hj => ?_⟩
      · rcases List.mem_append.mp hz with hz | hz
        · exact h.1 z hz
        · rw [List.mem_singleton] at hz
          subst hz
          exact ⟨mkT_term w1, by show ws.length < 8; omega⟩
      · rw [List.length_append] at hj
        have hj : j < ws.length + 1 := hj
        rw [getD_app]
        by_cases c2 : j < ws.length
        · rw [if_pos c2]
          exact h.2 j c2
        · rw [if_neg c2, if_pos (by omega)]
          show ws.length = j
          omega
    · rw [if_neg c]
      exact h
theorem qPhrase_ok {st sp : Bool} {tp : Nat → Nat} {n i j : Nat} {g : Option Nat} {y : AtX} (ht : ∀ j, j < 600 → tp j < 256) (hn : n ≤ 600) (hi : i ≤ n) (hg : ∀ f, g = some f → f < 2) (h : qPhrase st sp tp n g i = .inr (j, y)) : okAt y := by
  have hw := qWords_ok (st := st) (sp := sp) ht hn 8 (pE tp n i) [] (pE_b hi).2 rfl ⟨fun z hz => absurd hz (by simp), fun k hk => absurd hk (Nat.not_lt_zero _)⟩
  have hl := (qWords_inv (st := st) (sp := sp) ht hn 8 (pE tp n i) [] (pE_b hi).2).2.2
  unfold qPhrase at h
  simp only at h
  generalize qWords st sp tp n 8 (pE tp n i) [] = r at *
  split at h
  · cases h
  · next hne =>
    have hne1 : r.2 ≠ [] := fun z => hne (.inl z)
    have hl : r.2.length ≤ 8 := by simpa using hl
    split at h
    · split at h
      · cases h
      · next v hq =>
        cases h
        have := qNum_lt hq
        exact ⟨.inr (.inr (.inl rfl)), hl, fun z => absurd (show 3 ≤ 2 from z) (by decide), fun z => absurd (show 3 = 4 from z) (by decide), hw.1, hg, this, (by show 0 < 2; decide), fun _ => hne1, hw.2, fun z => absurd (show 3 = 2 from z) (by decide)⟩
    · cases h
      exact ⟨.inr (.inr (.inl rfl)), hl, fun z => absurd (show 3 ≤ 2 from z) (by decide), fun z => absurd (show 3 = 4 from z) (by decide), hw.1, hg, (by show 0 < 10; decide), (by show 0 < 2; decide), fun _ => hne1, hw.2, fun z => absurd (show 3 = 2 from z) (by decide)⟩
theorem one_num {t : List Nat} : ∀ k, k < ([(t, 0)] : List (List Nat × Nat)).length → (([(t, 0)] : List (List Nat × Nat)).getD k ([], 0)).2 = k := fun k hk => by
  have hk : k < 1 := hk
  rw [show k = 0 by omega]
  rfl
theorem qTerm_ok {st sp : Bool} {tp : Nat → Nat} {n i : Nat} {g : Option Nat} (ht : ∀ j, j < 600 → tp j < 256) (hn : n ≤ 600) (hi : i ≤ n) (hg : ∀ f, g = some f → f < 2) (hk : pK tp n i = 256) : okAt (qTerm st sp tp n g i).2 := by
  obtain ⟨w1, w2, -⟩ := pW_w ht hn hi hk
  unfold qTerm
  split
  · refine ⟨.inr (.inl rfl), (by show 1 ≤ 8; decide), fun _ => rfl, fun z => absurd (show 2 = 4 from z) (by decide), fun z hz => ?_, hg, (by show 0 < 10; decide), (by show 0 < 2; decide), fun z => absurd (show 2 = 3 from z) (by decide), one_num, fun _ z => ?_⟩
    · have hz : z ∈ [(small tp (pS tp n i) (pE tp n i - pS tp n i), 0)] := hz
      rw [List.mem_singleton] at hz
      subst hz
      exact ⟨small_term w1, by show 0 < 8; decide⟩
    · have z : small tp (pS tp n i) (pE tp n i - pS tp n i) = [] := z
      have := small_len tp (pS tp n i) (pE tp n i - pS tp n i)
      rw [z] at this
      simp only [List.length_nil] at this
      omega
  · refine ⟨.inl rfl, (by show 1 ≤ 8; decide), fun _ => rfl, fun z => absurd (show 1 = 4 from z) (by decide), fun z hz => ?_, hg, (by show 0 < 10; decide), (by show 0 < 2; decide), fun z => absurd (show 1 = 3 from z) (by decide), one_num, fun z => absurd (show 1 = 2 from z) (by decide)⟩
    have hz : z ∈ [(mkT st sp tp (pS tp n i) (pE tp n i - pS tp n i), 0)] := hz
    rw [List.mem_singleton] at hz
    subst hz
    exact ⟨mkT_term w1, by show 0 < 8; decide⟩
theorem qAtom_ok {st sp : Bool} {tp : Nat → Nat} {n i j : Nat} {y : AtX} (ht : ∀ j, j < 600 → tp j < 256) (hn : n ≤ 600) (hi : i ≤ n) (h : qAtom st sp tp n i = .inr (j, y)) : okAt y := by
  have hg : ∀ f, (none : Option Nat) = some f → f < 2 := fun f z => by cases z
  unfold qAtom at h
  split at h
  · exact qRange_ok h
  · split at h
    · exact qPhrase_ok ht hn hi hg h
    · split at h
      · next hk =>
        split at h
        · injection h with h
          have := qTerm_ok (st := st) (sp := sp) ht hn hi hg hk
          rw [h] at this
          exact this
        · next f hf =>
          have hgf : ∀ x, some f = some x → x < 2 := fun x z => by
            cases z
            rw [qFld_eq] at hf
            split at hf
            · exact fnA_lt hf
            · cases hf
          have h2 := (pE_b (tp := tp) (pE_b (tp := tp) hi).2).2
          split at h
          · exact qPhrase_ok ht hn h2 hgf h
          · split at h
            · next hk2 =>
              injection h with h
              have := qTerm_ok (st := st) (sp := sp) ht hn h2 hgf hk2
              rw [h] at this
              exact this
            · cases h
      · cases h
/-- how much is made for how many parts -/
def qLen (X Y : QSt) (s : Nat) : Prop := Y.2.1.length + 5 * X.1.length + s ≤ X.2.1.length + 5 * Y.1.length ∧ Y.2.2.1.length + 8 * X.1.length ≤ X.2.2.1.length + 8 * Y.1.length ∧ Y.2.2.2.length + 8 * X.1.length ≤ X.2.2.2.length + 8 * Y.1.length
theorem atM_len {y : AtX} {w : Nat} : (atM y w).length ≤ (atW y).length := by
  unfold atM
  split
  · exact Nat.zero_le _
  · rw [List.length_map]
    have := List.length_filter_le (fun k => !((atW y).getD k ([], 0)).1.isEmpty) (List.range (atW y).length)
    rw [List.length_range] at this
    exact this
theorem qHd_len {st sp : Bool} {tp : Nat → Nat} {n : Nat} {ev : AtX → Sem} {nest : Bool → Bool → Nat → QSt → QLo → QRes} {d : Nat} {br sa ng : Bool} {i : Nat} {X : QSt} (ht : ∀ j, j < 600 → tp j < 256) (hn : n ≤ 600) (hi : i ≤ n) (hnest : ∀ br sa i X L i' Y Q, i ≤ n → nest br sa i X L = .inr (i', Y, Q) → qLen X Y 0) {i2 : Nat} {Y : QSt} {f : Sem} (h : qHd st sp tp n ev nest d br sa ng i X = .inr (i2, Y, f)) : qLen X Y 3 := by
  unfold qHd at h
  by_cases c : pK tp n i = 40
  · rw [if_pos c] at h
    by_cases c2 : 8 ≤ d
    · rw [if_pos c2] at h
      cases h
    · rw [if_neg c2] at h
      cases hr : nest (br || ng) true (pE tp n i) (X.1 ++ [grP ng (br || ng) sa 1 0], X.2) (0, 0, fun _ => none, fun _ => some 0) with
      | inl p =>
        rw [hr] at h
        cases h
      | inr r =>
        obtain ⟨j, Y', Q⟩ := r
        have hx := hnest _ _ _ _ _ _ _ _ (pE_b hi).2 hr
        rw [hr] at h
        simp only at h
        by_cases c3 : pK tp n j = 41
        · rw [if_pos c3] at h
          cases h
          obtain ⟨a, b, c⟩ := hx
          simp only [len1] at a b c
          refine ⟨?_, ?_, ?_⟩
          · show (Y'.2.1 ++ _).length + _ + _ ≤ _ + 5 * Y'.1.length
            rw [List.length_append]
            simp only [List.length_cons, List.length_nil]
            omega
          · show Y'.2.2.1.length + _ ≤ _ + 8 * Y'.1.length
            omega
          · show Y'.2.2.2.length + _ ≤ _ + 8 * Y'.1.length
            omega
        · rw [if_neg c3] at h
          cases h
  · rw [if_neg c] at h
    cases hr : qAtom st sp tp n i with
    | inl p =>
      rw [hr] at h
      cases h
    | inr r =>
      obtain ⟨j, y⟩ := r
      rw [hr] at h
      cases h
      have hy := qAtom_ok ht hn hi hr
      have h8 := hy.2.1
      have hm := atM_len (y := y) (w := X.2.2.1.length)
      refine ⟨?_, ?_, ?_⟩
      · show (X.2.1 ++ _).length + _ + _ ≤ _ + 5 * (X.1 ++ _).length
        rw [len1, List.length_append]
        simp only [List.length_cons, List.length_nil]
        omega
      · show (X.2.2.1 ++ _).length + _ ≤ _ + 8 * (X.1 ++ _).length
        rw [len1, List.length_append]
        omega
      · show (X.2.2.2 ++ _).length + _ ≤ _ + 8 * (X.1 ++ _).length
        rw [len1, List.length_append]
        split
        · simp only [List.length_nil]
          omega
        · omega
theorem opsB_len {tp : Nat → Nat} {n i b : Nat} {ng : Bool} : (opsB tp n i ng b).length ≤ 2 := by
  unfold opsB
  rw [List.length_append]
  have h1 : (if ng = true then [((5 : Nat), (0 : Int32), (0 : Int32), (0 : Int32))] else []).length ≤ 1 := by split <;> decide
  have h2 : (if pK tp n i = 94 then [((6 : Nat), (0 : Int32), nI b, (0 : Int32))] else []).length ≤ 1 := by
    split
    · exact Nat.le_refl _
    · exact Nat.zero_le _
  omega
theorem qPt_len {st sp : Bool} {tp : Nat → Nat} {n : Nat} {ev : AtX → Sem} {nest : Bool → Bool → Nat → QSt → QLo → QRes} {d : Nat} {br sa : Bool} {i : Nat} {X : QSt} (ht : ∀ j, j < 600 → tp j < 256) (hn : n ≤ 600) (hi : i ≤ n) (hnest : ∀ br sa i X L i' Y Q, i ≤ n → nest br sa i X L = .inr (i', Y, Q) → qLen X Y 0) {i3 : Nat} {Z : QSt} {f : Sem} (h : qPt st sp tp n ev nest d br sa i X = .inr (i3, Z, f)) : qLen X Z 1 := by
  unfold qPt at h
  by_cases c : 40 ≤ X.1.length
  · rw [if_pos c] at h
    cases h
  · rw [if_neg c] at h
    cases hr : qHd st sp tp n ev nest d br sa (decide (pK tp n i = 45)) (if pK tp n i = 45 then pE tp n i else i) X with
    | inl p =>
      rw [hr] at h
      cases h
    | inr r =>
      obtain ⟨i2, Y, f2⟩ := r
      rw [hr] at h
      simp only at h
      have hi1 : (if pK tp n i = 45 then pE tp n i else i) ≤ n := by
        split
        · exact (pE_b hi).2
        · exact hi
      obtain ⟨x1, x2, x3⟩ := qHd_len ht hn hi1 hnest hr
      cases hb : qBoost tp n i2 with
      | inl p =>
        rw [hb] at h
        cases h
      | inr r =>
        obtain ⟨j3, b⟩ := r
        rw [hb] at h
        cases h
        have ho := opsB_len (tp := tp) (n := n) (i := i2) (b := b) (ng := decide (pK tp n i = 45))
        refine ⟨?_, ?_, ?_⟩
        · show (Y.2.1 ++ _).length + _ + _ ≤ _ + 5 * (Y.1.set _ _).length
          rw [List.length_set, List.length_append]
          omega
        · show Y.2.2.1.length + _ ≤ _ + 8 * (Y.1.set _ _).length
          rw [List.length_set]
          exact x2
        · show Y.2.2.2.length + _ ≤ _ + 8 * (Y.1.set _ _).length
          rw [List.length_set]
          exact x3
/-- where a part or an ANY ends is within the tape -/
theorem qInt_n {tp : Nat → Nat} {n i j : Nat} {a : Int32} (hi : i ≤ n) (h : qInt tp n i = .inr (j, a)) : j ≤ n := by
  unfold qInt at h
  simp only at h
  split at h
  · cases h
  · cases h
    refine (pE_b ?_).2
    split
    · exact (pE_b hi).2
    · exact hi
theorem qAtom_n {st sp : Bool} {tp : Nat → Nat} {n i j : Nat} {y : AtX} (ht : ∀ j, j < 600 → tp j < 256) (hn : n ≤ 600) (hi : i ≤ n) (h : qAtom st sp tp n i = .inr (j, y)) : j ≤ n := by
  have hE : ∀ {k}, k ≤ n → pE tp n k ≤ n := fun hk => (pE_b hk).2
  have hT : ∀ {g k}, k ≤ n → (qTerm st sp tp n g k).1 ≤ n := fun {g k} hk => by
    unfold qTerm
    split
    · exact hE (hE hk)
    · exact hE hk
  have hP : ∀ {g k j y}, k ≤ n → qPhrase st sp tp n g k = .inr (j, y) → j ≤ n := fun {g k j y} hk h => by
    have hr := (qWords_inv (st := st) (sp := sp) ht hn 8 (pE tp n k) [] (hE hk)).1
    unfold qPhrase at h
    simp only at h
    generalize qWords st sp tp n 8 (pE tp n k) [] = r at *
    split at h
    · cases h
    · split at h
      · split at h
        · cases h
        · cases h
          exact hE (hE (hE hr))
      · cases h
        exact hE hr
  unfold qAtom at h
  split at h
  · unfold qRange at h
    simp only at h
    split at h
    · split at h
      · cases h
      · next j2 a h2 =>
        split at h
        · cases h
        · next j3 b h3 =>
          split at h
          · cases h
            exact hE (qInt_n (qInt_n (hE (hE hi)) h2) h3)
          · cases h
    · cases h
  · split at h
    · exact hP hi h
    · split at h
      · split at h
        · have h : Sum.inr (α := Nat) (qTerm st sp tp n none i) = .inr (j, y) := h
          injection h with h
          have := hT (g := none) hi
          rw [h] at this
          exact this
        · next f hf =>
          split at h
          · exact hP (hE (hE hi)) h
          · split at h
            · injection h with h
              have := hT (g := some f) (hE (hE hi))
              rw [h] at this
              exact this
            · cases h
      · cases h
theorem qHd_n {st sp : Bool} {tp : Nat → Nat} {n : Nat} {ev : AtX → Sem} {nest : Bool → Bool → Nat → QSt → QLo → QRes} {d : Nat} {br sa ng : Bool} {i : Nat} {X : QSt} (ht : ∀ j, j < 600 → tp j < 256) (hn : n ≤ 600) (hi : i ≤ n) (hnest : ∀ br sa i X L i' Y Q, i ≤ n → nest br sa i X L = .inr (i', Y, Q) → i' ≤ n) {i2 : Nat} {Y : QSt} {f : Sem} (h : qHd st sp tp n ev nest d br sa ng i X = .inr (i2, Y, f)) : i2 ≤ n := by
  unfold qHd at h
  split at h
  · split at h
    · cases h
    · split at h
      · cases h
      · next j Y' Q hr =>
        split at h
        · cases h
          exact (pE_b (hnest _ _ _ _ _ _ _ _ (pE_b hi).2 hr)).2
        · cases h
  · split at h
    · cases h
    · next j y hr =>
      cases h
      exact qAtom_n ht hn hi hr
theorem qPt_n {st sp : Bool} {tp : Nat → Nat} {n : Nat} {ev : AtX → Sem} {nest : Bool → Bool → Nat → QSt → QLo → QRes} {d : Nat} {br sa : Bool} {i : Nat} {X : QSt} (ht : ∀ j, j < 600 → tp j < 256) (hn : n ≤ 600) (hi : i ≤ n) (hnest : ∀ br sa i X L i' Y Q, i ≤ n → nest br sa i X L = .inr (i', Y, Q) → i' ≤ n) {i3 : Nat} {Z : QSt} {f : Sem} (h : qPt st sp tp n ev nest d br sa i X = .inr (i3, Z, f)) : i3 ≤ n := by
  unfold qPt at h
  split at h
  · cases h
  · split at h
    · cases h
    · next i2 Y f2 hr =>
      have hi1 : (if pK tp n i = 45 then pE tp n i else i) ≤ n := by
        split
        · exact (pE_b hi).2
        · exact hi
      have h2 := qHd_n ht hn hi1 hnest hr
      split at h
      · cases h
      · next j3 b hb =>
        cases h
        unfold qBoost at hb
        split at hb
        · split at hb
          · split at hb
            · cases hb
            · cases hb
              exact (pE_b (pE_b h2).2).2
          · cases hb
        · cases hb
          exact h2
theorem qAny_n {st sp : Bool} {tp : Nat → Nat} {n : Nat} {ev : AtX → Sem} (ht : ∀ j, j < 600 → tp j < 256) (hn : n ≤ 600) : ∀ (k d : Nat) (br sa : Bool) (i : Nat) (X : QSt) (L : QLo) (i' : Nat) (Y : QSt) (Q : QLo), i ≤ n → qAny st sp tp n ev k d br sa i X L = .inr (i', Y, Q) → i' ≤ n
  | 0, d, br, sa, i, X, L, i', Y, Q, hi, h => by cases h
  | k + 1, d, br, sa, i, X, L, i', Y, Q, hi, h => by
    unfold qAny at h
    split at h
    · cases h
    · next i3 Z f hr =>
      have h3 := qPt_n ht hn hi (fun a b c X L i' Y Q => qAny_n ht hn k (d + 1) a b c X L i' Y Q) hr
      split at h
      · exact qAny_n ht hn k d _ _ _ _ _ _ _ _ (pE_b h3).2 h
      · split at h
        · exact qAny_n ht hn k d _ _ _ _ _ _ _ _ h3 h
        · cases h
          exact h3
