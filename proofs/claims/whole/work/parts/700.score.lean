/-! SCORES: what a part of a query is for a document -/
def tms (y : AtX) : List (List Nat × Nat) := (atW y).filter (fun z => !z.1.isEmpty)
def enO (o : Option Nat) : Int32 := match o with
  | none => -1
  | some v => nI v
theorem enO_s (v : Nat) : enO (some v) = nI v := by cases v <;> rfl
theorem enO_n : enO none = -1 := by cases (0 : Nat) <;> rfl
/-- 1 and how often N can be cut in two -/
def rrS (N h : Nat) : Nat := if h < 1 then 0 else 1 + run (fun k => decide (h ≤ N / 2 ^ (k + 1))) 30 0
def rarS (D : List DocT) (v : VwT) (f : Nat) (T : List (List Nat × Nat)) : Nat := (T.map (fun z => rrS (vDocs v).length (dfS D v f (enc z.1)))).sum
/-- the first position from a on that has a term -/
def nxt (D : List DocT) (f d : Nat) (t : List Nat) (a : Nat) : Nat := run (fun j => !decide (tmA D f d j = t)) (tkN D f d - a) a
/-- the others behind a first one, each as early as may be -/
def goL (D : List DocT) (f d : Nat) : List (List Nat × Nat) → Nat → Nat → Option Nat
  | [], a, _ => some a
  | z :: l, a, m => if nxt D f d z.1 (a + (z.2 - m)) < tkN D f d then goL D f d l (nxt D f d z.1 (a + (z.2 - m))) z.2 else none
def lastN (l : List (List Nat × Nat)) (m : Nat) : Nat := match l.getLast? with
  | none => m
  | some z => z.2
def goS (D : List DocT) (f d : Nat) (T : List (List Nat × Nat)) (sl p : Nat) : Bool := match T with
  | [] => false
  | z :: l => decide (tmA D f d p = z.1) && (match goL D f d l p z.2 with
    | none => false
    | some a => decide (a ≤ p + (lastN l z.2 - z.2) + sl))
def phS (D : List DocT) (f d : Nat) (T : List (List Nat × Nat)) (sl : Nat) : Nat := cN (goS D f d T sl) (tkN D f d)
def wtS (f : Nat) : Nat := if f = 0 then 3 else 1
/-- has a field a term that begins so -/
def preS (D : List DocT) (f d : Nat) (w : List Nat) : Bool := (dTok (dA D d) f).any (fun z => !z.2.2.isEmpty && isPre w z.2.2)
def inF (D : List DocT) (v : VwT) (x : PT) (f d : Nat) : Option Nat :=
  if pKind x = 2 then (if preS D f d (pW x) = true then some (16 * wtS f) else none)
  else if phS D f d (pTms x) (pSlack x) = 0 then none
  else some (64 * phS D f d (pTms x) (pSlack x) * rarS D v f (pTms x) * wtS f / (8 + tkN D f d))
def evP (D : List DocT) (v : VwT) (x : PT) (d : Nat) : Option Nat :=
  if pKind x = 3 then (if pLo x ≤ (if pWhat x = 0 then dX (dA D d) else dY (dA D d)).toInt64 ∧ (if pWhat x = 0 then dX (dA D d) else dY (dA D d)).toInt64 ≤ pHi x then some 0 else none)
  else if pKind x = 1 ∧ pTms x = [] then some 0
  else eitS (if fFor (pField x) 0 = true then inF D v x 0 d else none) (if fFor (pField x) 1 = true then inF D v x 1 d else none)
def evA (D : List DocT) (v : VwT) (y : AtX) : Sem := fun d => evP D v (atP y false false false 1 0) d
theorem evP_cg {D : List DocT} {v : VwT} {x z : PT} {d : Nat} (h1 : pKind x = pKind z) (h2 : pLo x = pLo z) (h3 : pHi x = pHi z) (h4 : pWhat x = pWhat z) (h5 : pTms x = pTms z) (h6 : pField x = pField z) (h7 : pW x = pW z) (h8 : pSlack x = pSlack z) : evP D v x d = evP D v z d := by
  unfold evP inF
  rw [h1, h2, h3, h4, h5, h6, h7, h8]
theorem evP_at {D : List DocT} {v : VwT} {y : AtX} {d : Nat} (ng br sa : Bool) (b en : Nat) : evP D v (setBE (atP y ng br sa 1 0) b en) d = evA D v y d := by
  unfold evA
  refine evP_cg ?_ ?_ ?_ ?_ ?_ ?_ ?_ ?_
  all_goals
    unfold atP
    split
    · rfl
    · split <;> rfl
def capS (f : Sem) : Prop := ∀ d v, f d = some v → v ≤ qCap
theorem eitS_cap {a b : Option Nat} (ha : ∀ v, a = some v → v ≤ qCap) (hb : ∀ v, b = some v → v ≤ qCap) : ∀ v, eitS a b = some v → v ≤ qCap := fun v h => by
  cases a with
  | none =>
    cases b with
    | none => cases h
    | some y => exact hb v h
  | some x =>
    cases b with
    | none => exact ha v h
    | some y =>
      have h : some (min (x + y) qCap) = some v := h
      injection h with h
      rw [← h]
      exact Nat.min_le_right _ _
theorem bthS_cap {a b : Option Nat} : ∀ v, bthS a b = some v → v ≤ qCap := fun v h => by
  cases a with
  | none => cases h
  | some x =>
    cases b with
    | none => cases h
    | some y =>
      have h : some (min (x + y) qCap) = some v := h
      injection h with h
      rw [← h]
      exact Nat.min_le_right _ _
theorem timS_cap {k : Nat} {a : Option Nat} : ∀ v, timS k a = some v → v ≤ qCap := fun v h => by
  cases a with
  | none => cases h
  | some x =>
    have h : some (min (x * k) qCap) = some v := h
    injection h with h
    rw [← h]
    exact Nat.min_le_right _ _
theorem bthS_0 {a : Option Nat} (h : ∀ v, a = some v → v ≤ qCap) : bthS (some 0) a = a := by
  cases a with
  | none => rfl
  | some v =>
    have := h v rfl
    show some (min (0 + v) qCap) = some v
    rw [Nat.zero_add, Nat.min_eq_left this]
theorem eitS_n (a : Option Nat) : eitS none a = a := by cases a <;> rfl
theorem tkN_le {D : List DocT} (hT : okTx D) {f d : Nat} (hd : d < D.length) (hf : f < 2) : tkN D f d ≤ 200 := by
  have := (hT d f hd hf).1
  unfold tkN
  omega
theorem phS_le {D : List DocT} {f d : Nat} {T : List (List Nat × Nat)} {sl : Nat} : phS D f d T sl ≤ tkN D f d := cN_le _ _
theorem rrS_le (N h : Nat) : rrS N h ≤ 31 := by
  unfold rrS
  split
  · omega
  · have := run_ge (fun k => decide (h ≤ N / 2 ^ (k + 1))) 30 0
    omega
theorem rarS_le {D : List DocT} {v : VwT} {f : Nat} : ∀ T : List (List Nat × Nat), rarS D v f T ≤ 31 * T.length
  | [] => by simp [rarS]
  | z :: l => by
    have h1 := rarS_le (D := D) (v := v) (f := f) l
    have h2 := rrS_le (vDocs v).length (dfS D v f (enc z.1))
    unfold rarS at h1 ⊢
    rw [List.map_cons, List.sum_cons, List.length_cons]
    omega
theorem wtS_le (f : Nat) : wtS f ≤ 3 := by
  unfold wtS
  split <;> omega
theorem top_le {a b c : Nat} (ha : a ≤ 200) (hb : b ≤ 248) (hc : c ≤ 3) : 64 * a * b * c ≤ 9523200 := by
  have h1 : 64 * a ≤ 12800 := by omega
  have h2 : 64 * a * b ≤ 12800 * 248 := Nat.mul_le_mul h1 hb
  have h3 : 64 * a * b * c ≤ 12800 * 248 * 3 := Nat.mul_le_mul h2 hc
  exact h3
theorem inF_le {D : List DocT} {v : VwT} {x : PT} {f d : Nat} (hT : okTx D) (hd : d < D.length) (hf : f < 2) (hx : (pTms x).length ≤ 8) : ∀ w, inF D v x f d = some w → w ≤ 9523200 := fun w h => by
  unfold inF at h
  have hw := wtS_le f
  split at h
  · split at h
    · cases h; omega
    · cases h
  · split at h
    · cases h
    · cases h
      have h1 := phS_le (D := D) (f := f) (d := d) (T := pTms x) (sl := pSlack x)
      have h2 := tkN_le hT hd hf
      have h3 := rarS_le (D := D) (v := v) (f := f) (pTms x)
      have := top_le (a := phS D f d (pTms x) (pSlack x)) (b := rarS D v f (pTms x)) (c := wtS f) (by omega) (by omega) hw
      exact Nat.le_trans (Nat.div_le_self _ _) this
theorem evP_le {D : List DocT} {v : VwT} {x : PT} {d : Nat} (hT : okTx D) (hd : d < D.length) (hx : (pTms x).length ≤ 8) : ∀ w, evP D v x d = some w → w ≤ qCap := fun w h => by
  unfold evP at h
  by_cases c3 : pKind x = 3
  · rw [if_pos c3] at h
    generalize (if pWhat x = 0 then dX (dA D d) else dY (dA D d)).toInt64 = u at h
    by_cases c : pLo x ≤ u ∧ u ≤ pHi x
    · rw [if_pos c] at h
      cases h
      exact Nat.zero_le _
    · rw [if_neg c] at h
      cases h
  · rw [if_neg c3] at h
    by_cases c : pKind x = 1 ∧ pTms x = []
    · rw [if_pos c] at h
      cases h
      exact Nat.zero_le _
    · rw [if_neg c] at h
      refine eitS_cap (fun w' h' => ?_) (fun w' h' => ?_) w h
      · by_cases c0 : fFor (pField x) 0 = true
        · rw [if_pos c0] at h'
          have := inF_le hT hd (by decide) hx w' h'
          unfold qCap
          omega
        · rw [if_neg c0] at h'
          cases h'
      · by_cases c0 : fFor (pField x) 1 = true
        · rw [if_pos c0] at h'
          have := inF_le hT hd (by decide) hx w' h'
          unfold qCap
          omega
        · rw [if_neg c0] at h'
          cases h'
/-! what every parse keeps -/
theorem qAny_inv {st sp : Bool} {tp : Nat → Nat} {n : Nat} {ev : AtX → Sem} (ht : ∀ j, j < 600 → tp j < 256) (hn : n ≤ 600) (I : QSt → Prop) (hG : ∀ (X : QSt) (ng br sa : Bool), I X → I (X.1 ++ [grP ng br sa 1 0], X.2)) (hA : ∀ (X : QSt) (y : AtX) (ng br sa : Bool), I X → okAt y → I (X.1 ++ [atP y ng br sa 1 0], X.2.1 ++ [atO y X.2.2.1.length], X.2.2.1 ++ atW y, X.2.2.2 ++ (if br = true then [] else atM y X.2.2.1.length))) (hS : ∀ (Y : QSt) (k b en : Nat), I Y → k < Y.1.length → b < 10 → I (Y.1.set k (setBE (Y.1.getD k default) b en), Y.2)) (hO : ∀ (Y : QSt) (O : List OpT), I Y → I (Y.1, O, Y.2.2)) : ∀ (k d : Nat) (br sa : Bool) (i : Nat) (X : QSt) (L : QLo) (i' : Nat) (Y : QSt) (Q : QLo), i ≤ n → I X → qAny st sp tp n ev k d br sa i X L = .inr (i', Y, Q) → I Y
  | 0, d, br, sa, i, X, L, i', Y, Q, hi, hI, h => by cases h
  | k + 1, d, br, sa, i, X, L, i', Y, Q, hi, hI, h => by
    unfold qAny at h
    have hnn := fun a b c X L i' Y Q => qAny_n (ev := ev) (st := st) (sp := sp) ht hn k (d + 1) a b c X L i' Y Q
    have hii := fun a b c X L i' Y Q => qAny_inv (ev := ev) (st := st) (sp := sp) ht hn I hG hA hS hO k (d + 1) a b c X L i' Y Q
    have hxx := fun a b c X L i' Y Q => qAny_ext (st := st) (sp := sp) (tp := tp) (n := n) (ev := ev) k (d + 1) a b c X L i' Y Q
    cases hr : qPt st sp tp n ev (qAny st sp tp n ev k (d + 1)) d br sa i X with
    | inl p =>
      rw [hr] at h
      cases h
    | inr r =>
      obtain ⟨i3, Z, f⟩ := r
      have h3 := qPt_n ht hn hi hnn hr
      have hZ : I Z := by
        unfold qPt at hr
        split at hr
        · cases hr
        · split at hr
          · cases hr
          · next i2 Y2 f2 hh =>
            have hi1 : (if pK tp n i = 45 then pE tp n i else i) ≤ n := by
              split
              · exact (pE_b hi).2
              · exact hi
            have hx2 := qHd_ext hxx hh
            have hY2 : I Y2 := by
              unfold qHd at hh
              by_cases c40 : pK tp n (if pK tp n i = 45 then pE tp n i else i) = 40
              · rw [if_pos c40] at hh
                split at hh
                · cases hh
                · split at hh
                  · cases hh
                  · next j Y' Q' hq =>
                    split at hh
                    · have := hii _ _ _ _ _ _ _ _ (pE_b hi1).2 (hG _ _ _ _ hI) hq
                      cases hh
                      exact hO _ _ this
                    · cases hh
              · rw [if_neg c40] at hh
                split at hh
                · cases hh
                · next j y hq =>
                  cases hh
                  exact hA _ _ _ _ _ hI (qAtom_ok ht hn hi1 hq)
            split at hr
            · cases hr
            · next j3 b hb =>
              cases hr
              have hb10 : b < 10 := by
                unfold qBoost at hb
                split at hb
                · split at hb
                  · next v hv =>
                    have := qNum_lt hv
                    split at hb
                    · cases hb
                    · cases hb; exact this
                  · cases hb
                · cases hb; decide
              exact hO _ _ (hS _ _ _ _ hY2 hx2.2.1 hb10)
      rw [hr] at h
      simp only at h
      split at h
      · exact qAny_inv ht hn I hG hA hS hO k d _ _ _ _ _ _ _ _ (pE_b h3).2 (hO _ _ hZ) h
      · split at h
        · exact qAny_inv ht hn I hG hA hS hO k d _ _ _ _ _ _ _ _ h3 hZ h
        · cases h
          exact hZ
theorem qParse_inv {st sp : Bool} {tp : Nat → Nat} {n : Nat} {ev : AtX → Sem} (ht : ∀ j, j < 600 → tp j < 256) (hn : n ≤ 600) (I : QSt → Prop) (hG : ∀ (X : QSt) (ng br sa : Bool), I X → I (X.1 ++ [grP ng br sa 1 0], X.2)) (hA : ∀ (X : QSt) (y : AtX) (ng br sa : Bool), I X → okAt y → I (X.1 ++ [atP y ng br sa 1 0], X.2.1 ++ [atO y X.2.2.1.length], X.2.2.1 ++ atW y, X.2.2.2 ++ (if br = true then [] else atM y X.2.2.1.length))) (hS : ∀ (Y : QSt) (k b en : Nat), I Y → k < Y.1.length → b < 10 → I (Y.1.set k (setBE (Y.1.getD k default) b en), Y.2)) (hO : ∀ (Y : QSt) (O : List OpT), I Y → I (Y.1, O, Y.2.2)) (h0 : I ([], [], [], [])) {Y : QSt} {f : Sem} (h : qParse st sp tp n ev = .inr (Y, f)) : I Y := by
  unfold qParse at h
  split at h
  · cases h
  · next i Y' Q hq =>
    split at h
    · cases h
      exact hO _ _ (qAny_inv ht hn I hG hA hS hO 41 0 false true 0 _ _ _ _ _ (Nat.zero_le _) h0 hq)
    · cases h
theorem atP_okPt {y : AtX} {ng br sa : Bool} (h : okAt y) : okPt (atP y ng br sa 1 0) := by
  obtain ⟨y1, y2, y3, y4, y5, y6, y7, y8, y9, y10, y11⟩ := h
  unfold atP
  by_cases c4 : y.1 = 4
  · rw [if_pos c4]
    exact ⟨by show 3 < 4; decide, fun f z => (by cases z), by show 1 < 10; decide, by show 0 < 10; decide, y8, fun z => absurd (show 3 = 2 from z) (by decide), fun z hz => absurd hz (by show ¬ z ∈ []; simp)⟩
  · rw [if_neg c4]
    by_cases c2 : y.1 = 2
    · rw [if_pos c2]
      refine ⟨by show 2 < 4; decide, y6, by show 1 < 10; decide, by show 0 < 10; decide, by show 0 < 2; decide, fun _ => ⟨?_, rfl, rfl⟩, fun z hz => absurd hz (by show ¬ z ∈ []; simp)⟩
      have hl := y3 (by omega)
      exact (y5 _ (getD_mem (d := ([], 0)) (by omega))).1
    · rw [if_neg c2]
      refine ⟨by show 1 < 4; decide, y6, by show 1 < 10; decide, y7, by show 0 < 2; decide, fun z => absurd (show 1 = 2 from z) (by decide), fun z hz => ?_⟩
      have hz : z ∈ (atW y).filter (fun z => !z.1.isEmpty) := hz
      rw [List.mem_filter] at hz
      refine ⟨(y5 z hz.1).1, fun q => ?_, (y5 z hz.1).2⟩
      rw [q] at hz
      exact absurd hz.2 (by decide)
theorem okPs_app {P : List PT} {x : PT} (h : okPs P) (hx : okPt x) : okPs (P ++ [x]) := fun z hz => by
  rcases List.mem_append.mp hz with hz | hz
  · exact h z hz
  · rw [List.mem_singleton] at hz
    rw [hz]
    exact hx
theorem parse_okPs {st sp : Bool} {tp : Nat → Nat} {n : Nat} {ev : AtX → Sem} (ht : ∀ j, j < 600 → tp j < 256) (hn : n ≤ 600) {Y : QSt} {f : Sem} (h : qParse st sp tp n ev = .inr (Y, f)) : okPs Y.1 ∧ (∀ x, x ∈ Y.1 → (pTms x).length ≤ 8) ∧ ∀ z, z ∈ Y.2.2.1 → isTerm z.1 ∧ z.2 < 8 := by
  refine qParse_inv ht hn (fun X => okPs X.1 ∧ (∀ x, x ∈ X.1 → (pTms x).length ≤ 8) ∧ ∀ z, z ∈ X.2.2.1 → isTerm z.1 ∧ z.2 < 8) (fun X ng br sa hI => ?_) (fun X y ng br sa hI hy => ?_) (fun Y k b en hI hk hb => ?_) (fun Y O hI => hI) ⟨fun x hx => absurd hx (by simp), fun x hx => absurd hx (by simp), fun x hx => absurd hx (by simp)⟩ h
  · refine ⟨okPs_app hI.1 ⟨by show 0 < 4; decide, fun f z => (by cases z), by show 1 < 10; decide, by show 0 < 10; decide, by show 0 < 2; decide, fun z => absurd (show 0 = 2 from z) (by decide), fun z hz => absurd hz (by show ¬ z ∈ []; simp)⟩, fun x hx => ?_, hI.2.2⟩
    rcases List.mem_append.mp hx with hx | hx
    · exact hI.2.1 x hx
    · rw [List.mem_singleton] at hx
      rw [hx]
      exact Nat.zero_le _
  · refine ⟨okPs_app hI.1 (atP_okPt hy), fun x hx => ?_, fun z hz => ?_⟩
    · rcases List.mem_append.mp hx with hx | hx
      · exact hI.2.1 x hx
      · rw [List.mem_singleton] at hx
        rw [hx]
        unfold atP
        split
        · exact Nat.zero_le _
        · split
          · exact Nat.zero_le _
          · exact Nat.le_trans (List.length_filter_le _ _) hy.2.1
    · rcases List.mem_append.mp hz with hz | hz
      · exact hI.2.2 z hz
      · exact hy.2.2.2.2.1 z hz
  · have hmem : Y.1.getD k default ∈ Y.1 := getD_mem hk
    have hset : ∀ x, x ∈ Y.1.set k (setBE (Y.1.getD k default) b en) → x ∈ Y.1 ∨ x = setBE (Y.1.getD k default) b en := fun x hx => List.mem_or_eq_of_mem_set hx
    refine ⟨fun x hx => ?_, fun x hx => ?_, hI.2.2⟩
    · rcases hset x hx with hx | hx
      · exact hI.1 x hx
      · obtain ⟨o1, o2, o3, o4, o5, o6, o7⟩ := hI.1 _ hmem
        rw [hx]
        exact ⟨o1, o2, hb, o4, o5, o6, o7⟩
    · rcases hset x hx with hx | hx
      · exact hI.2.1 x hx
      · have := hI.2.1 _ hmem
        rw [hx]
        exact this
