/-! MARKS of a parse: they ask for what its parts ask for -/
def mrA (W : List (List Nat × Nat)) (m : MrT) (t : List Nat) (f : Nat) : Bool := mAsks (m.1, m.2.1, (qwA W m.2.2).1) t f
def mkI (X : QSt) : Prop := (∀ m, m ∈ X.2.2.2 → (m.1 = 1 ∨ m.1 = 2) ∧ (∀ g, m.2.1 = some g → g < 2) ∧ m.2.2 < X.2.2.1.length) ∧ ∀ t f, t ≠ [] → X.2.2.2.any (fun m => mrA X.2.2.1 m t f) = X.1.any (fun x => pAsks x t f)
theorem any_congr' {α : Type} {l : List α} {p q : α → Bool} (h : ∀ x, x ∈ l → p x = q x) : l.any p = l.any q := by
  induction l with
  | nil => rfl
  | cons a l ih =>
    rw [List.any_cons, List.any_cons, h a (List.mem_cons_self), ih (fun x hx => h x (List.mem_cons_of_mem _ hx))]
theorem qwA_app {W V : List (List Nat × Nat)} {k : Nat} (h : k < W.length) : qwA (W ++ V) k = qwA W k := by
  unfold qwA
  rw [List.getD_eq_getElem?_getD, List.getElem?_append_left h, ← List.getD_eq_getElem?_getD]
theorem qwA_app2 {W V : List (List Nat × Nat)} {k : Nat} : qwA (W ++ V) (W.length + k) = V.getD k ([], 0) := by
  unfold qwA
  rw [List.getD_eq_getElem?_getD, List.getElem?_append_right (by omega), Nat.add_sub_cancel_left, ← List.getD_eq_getElem?_getD]
theorem pAsks_be {x : PT} {b en : Nat} {t : List Nat} {f : Nat} : pAsks (setBE x b en) t f = pAsks x t f := rfl
theorem any_set {P : List PT} {k : Nat} {x : PT} {q : PT → Bool} (hk : k < P.length) (h : q x = q (P.getD k default)) : (P.set k x).any q = P.any q := by
  rw [any_bP _ _ default, any_bP _ _ default]
  rw [Bool.eq_iff_iff, bP_t, bP_t]
  constructor
  · rintro ⟨j, j1, j2⟩
    rw [List.length_set] at j1
    by_cases c : j = k
    · subst c
      rw [getD_setS hk, h] at j2
      exact ⟨j, j1, j2⟩
    · rw [getD_setN c] at j2
      exact ⟨j, j1, j2⟩
  · rintro ⟨j, j1, j2⟩
    refine ⟨j, by rw [List.length_set]; exact j1, ?_⟩
    by_cases c : j = k
    · subst c
      rw [getD_setS hk, h]
      exact j2
    · rw [getD_setN c]
      exact j2
theorem atM_any {y : AtX} {W : List (List Nat × Nat)} (hy : okAt y) {ng sa : Bool} {t : List Nat} {f : Nat} (ht : t ≠ []) : (atM y W.length).any (fun m => mrA (W ++ atW y) m t f) = pAsks (atP y ng false sa 1 0) t f := by
  obtain ⟨y1, y2, y3, y4, y5, y6, y7, y8, y9, y10, y11⟩ := hy
  unfold atM atP
  by_cases c4 : y.1 = 4
  · rw [if_pos c4, if_pos c4]
    show false = (!false && fFor none f && ((3 == 2 && isPre [] t) || (3 == 1 && _)))
    simp
  · rw [if_neg c4, if_neg c4, List.any_map]
    by_cases c2 : y.1 = 2
    · have hl := y3 (by omega)
      have hne := y11 c2
      rw [if_pos c2, hl]
      have hb : (!((atW y).getD 0 ([], 0)).1.isEmpty) = true := by
        cases h : ((atW y).getD 0 ([], 0)).1 with
        | nil => exact absurd h hne
        | cons a l => rfl
      rw [show List.range 1 = [0] from rfl]
      simp only [List.filter_cons, List.filter_nil, hb, if_true, List.any_cons, List.any_nil, Bool.or_false, Function.comp]
      unfold mrA
      simp only [if_pos c2]
      rw [qwA_app2]
      show (fFor y.2.1 f && ((2 == 2 && isPre ((atW y).getD 0 ([], 0)).1 t) || (2 == 1 && _))) = (!false && fFor y.2.1 f && ((2 == 2 && isPre ((atW y).getD 0 ([], 0)).1 t) || (2 == 1 && _)))
      simp
    · rw [if_neg c2, if_neg c2]
      have e : ∀ k : Nat, ((fun m => mrA (W ++ atW y) m t f) ∘ fun k => (1, y.2.1, W.length + k)) k = (fFor y.2.1 f && (((atW y).getD k ([], 0)).1 == t)) := fun k => by
        show mrA (W ++ atW y) (1, y.2.1, W.length + k) t f = _
        unfold mrA
        simp only
        rw [qwA_app2]
        show (fFor y.2.1 f && ((1 == 2 && _) || (1 == 1 && (((atW y).getD k ([], 0)).1 == t)))) = _
        simp
      rw [any_congr' (fun k _ => e k)]
      show _ = (!false && fFor y.2.1 f && ((1 == 2 && isPre [] t) || (1 == 1 && ((atW y).filter (fun z => !z.1.isEmpty)).any (fun z => z.1 == t))))
      have hr : (List.filter (fun k => !((atW y).getD k ([], 0)).1.isEmpty) (List.range (atW y).length)).any (fun k => fFor y.2.1 f && (((atW y).getD k ([], 0)).1 == t)) = (fFor y.2.1 f && ((atW y).filter (fun z => !z.1.isEmpty)).any (fun z => z.1 == t)) := by
        rw [Bool.eq_iff_iff, List.any_eq_true, Bool.and_eq_true, List.any_eq_true]
        constructor
        · rintro ⟨k, k1, k2⟩
          rw [List.mem_filter, List.mem_range] at k1
          rw [Bool.and_eq_true] at k2
          exact ⟨k2.1, (atW y).getD k ([], 0), List.mem_filter.mpr ⟨getD_mem k1.1, k1.2⟩, k2.2⟩
        · rintro ⟨h1, z, z1, z2⟩
          rw [List.mem_filter] at z1
          obtain ⟨k, hk, e⟩ := List.getElem_of_mem z1.1
          have e : (atW y).getD k ([], 0) = z := by
            rw [List.getD_eq_getElem?_getD, List.getElem?_eq_getElem hk, e]
            rfl
          refine ⟨k, ?_, ?_⟩
          · rw [List.mem_filter, List.mem_range]
            exact ⟨hk, by rw [e]; exact z1.2⟩
          · rw [Bool.and_eq_true, e]
            exact ⟨h1, z2⟩
      rw [hr]
      simp
theorem parse_marks {st sp : Bool} {tp : Nat → Nat} {n : Nat} {ev : AtX → Sem} (ht : ∀ j, j < 600 → tp j < 256) (hn : n ≤ 600) {Y : QSt} {f : Sem} (h : qParse st sp tp n ev = .inr (Y, f)) : mkI Y := by
  refine qParse_inv ht hn mkI (fun X ng br sa hI => ?_) (fun X y ng br sa hI hy => ?_) (fun Y k b en hI hk hb => ?_) (fun Y O hI => hI) ⟨fun x hx => absurd hx (by simp), fun t f _ => rfl⟩ h
  · refine ⟨hI.1, fun t f ht => ?_⟩
    show X.2.2.2.any _ = (X.1 ++ [grP ng br sa 1 0]).any _
    rw [List.any_append, hI.2 t f ht]
    show _ = (_ || [grP ng br sa 1 0].any (fun x => pAsks x t f))
    rw [show [grP ng br sa 1 0].any (fun x => pAsks x t f) = false by
      show (pAsks (grP ng br sa 1 0) t f || false) = false
      unfold pAsks
      show ((!br && true && ((0 == 2 && _) || (0 == 1 && _))) || false) = false
      cases br <;> rfl]
    rw [Bool.or_false]
  · have hml : ∀ m, m ∈ (if br = true then [] else atM y X.2.2.1.length) → (m.1 = 1 ∨ m.1 = 2) ∧ (∀ g, m.2.1 = some g → g < 2) ∧ m.2.2 < (X.2.2.1 ++ atW y).length := fun m hm => by
      cases br with
      | true => exact absurd hm (by simp)
      | false =>
        rw [if_neg (by decide)] at hm
        unfold atM at hm
        split at hm
        · exact absurd hm (by simp)
        · obtain ⟨k, k1, rfl⟩ := List.mem_map.mp hm
          rw [List.mem_filter, List.mem_range] at k1
          refine ⟨?_, hy.2.2.2.2.2.1, ?_⟩
          · show (if y.1 = 2 then 2 else 1) = 1 ∨ (if y.1 = 2 then 2 else 1) = 2
            split
            · exact .inr rfl
            · exact .inl rfl
          · show X.2.2.1.length + k < _
            rw [List.length_append]
            omega
    refine ⟨fun m hm => ?_, fun t f ht => ?_⟩
    · rcases List.mem_append.mp hm with hm | hm
      · obtain ⟨a, b, c⟩ := hI.1 m hm
        exact ⟨a, b, by show m.2.2 < (X.2.2.1 ++ atW y).length; rw [List.length_append]; omega⟩
      · exact hml m hm
    · show (X.2.2.2 ++ _).any (fun m => mrA (X.2.2.1 ++ atW y) m t f) = (X.1 ++ [atP y ng br sa 1 0]).any _
      rw [List.any_append, List.any_append]
      have e1 : X.2.2.2.any (fun m => mrA (X.2.2.1 ++ atW y) m t f) = X.2.2.2.any (fun m => mrA X.2.2.1 m t f) := any_congr' (fun m hm => by
        unfold mrA
        rw [qwA_app (hI.1 m hm).2.2])
      rw [e1, hI.2 t f ht]
      congr 1
      show _ = (pAsks (atP y ng br sa 1 0) t f || false)
      rw [Bool.or_false]
      cases br with
      | true =>
        rw [if_pos rfl]
        have hb := (atP_ok y ng true sa).2.2.1
        unfold pAsks
        rw [hb]
        rfl
      | false =>
        rw [if_neg (by decide)]
        exact atM_any hy ht
  · refine ⟨hI.1, fun t f ht => ?_⟩
    show _ = (Y.1.set k _).any (fun x => pAsks x t f)
    rw [any_set (q := fun x => pAsks x t f) hk pAsks_be]
    exact hI.2 t f ht
