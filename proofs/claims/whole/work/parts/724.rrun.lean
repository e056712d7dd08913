/-! the reference: the operations of a query, run for a document -/
def pfx {α : Type} (A B : List α) : Prop := ∃ r, B = A ++ r
theorem pfx.rf {α : Type} {A : List α} : pfx A A := ⟨[], (List.append_nil A).symm⟩
theorem pfx.tr {α : Type} {A B C : List α} (h : pfx A B) (g : pfx B C) : pfx A C := by
  obtain ⟨r, rfl⟩ := h
  obtain ⟨s, rfl⟩ := g
  exact ⟨r ++ s, List.append_assoc _ _ _⟩
theorem pfx.app {α : Type} {A B : List α} : pfx A (A ++ B) := ⟨B, rfl⟩
theorem pfx.len {α : Type} {A B : List α} (h : pfx A B) : A.length ≤ B.length := by
  obtain ⟨r, rfl⟩ := h
  rw [List.length_append]
  omega
theorem pfx.at' {α : Type} {A B : List α} {d : α} (h : pfx A B) {k : Nat} (hk : k < A.length) : B.getD k d = A.getD k d := by
  obtain ⟨r, rfl⟩ := h
  rw [List.getD_eq_getElem?_getD, List.getElem?_append_left hk, ← List.getD_eq_getElem?_getD]
theorem pfx.next {α : Type} {A B : List α} {x d : α} (h : pfx (A ++ [x]) B) : A.length < B.length ∧ B.getD A.length d = x := by
  have := h.len
  rw [List.length_append] at this
  have this : A.length + 1 ≤ B.length := this
  refine ⟨this, ?_⟩
  rw [h.at' (by rw [List.length_append]; show A.length < A.length + 1; omega), getD_app, if_neg (Nat.lt_irrefl _), if_pos rfl]
def qPre (X Y : QSt) : Prop := pfx X.2.1 Y.2.1 ∧ pfx X.2.2.1 Y.2.2.1
theorem qPre.tr {X Y Z : QSt} (h : qPre X Y) (g : qPre Y Z) : qPre X Z := ⟨h.1.tr g.1, h.2.tr g.2⟩
theorem qHd_pre {st sp : Bool} {tp : Nat → Nat} {n : Nat} {ev : AtX → Sem} {nest : Bool → Bool → Nat → QSt → QLo → QRes} {d : Nat} {br sa ng : Bool} {i : Nat} {X : QSt} (hn : ∀ br sa i X L i' Y Q, nest br sa i X L = .inr (i', Y, Q) → qPre X Y) {i2 : Nat} {Y : QSt} {f : Sem} (h : qHd st sp tp n ev nest d br sa ng i X = .inr (i2, Y, f)) : qPre X Y := by
  unfold qHd at h
  split at h
  · split at h
    · cases h
    · split at h
      · cases h
      · next j Y' Q hq =>
        split at h
        · cases h
          have := hn _ _ _ _ _ _ _ _ hq
          exact ⟨this.1.tr pfx.app, this.2⟩
        · cases h
  · split at h
    · cases h
    · cases h
      exact ⟨pfx.app, pfx.app⟩
theorem qPt_pre {st sp : Bool} {tp : Nat → Nat} {n : Nat} {ev : AtX → Sem} {nest : Bool → Bool → Nat → QSt → QLo → QRes} {d : Nat} {br sa : Bool} {i : Nat} {X : QSt} (hn : ∀ br sa i X L i' Y Q, nest br sa i X L = .inr (i', Y, Q) → qPre X Y) {i2 : Nat} {Y : QSt} {f : Sem} (h : qPt st sp tp n ev nest d br sa i X = .inr (i2, Y, f)) : qPre X Y := by
  unfold qPt at h
  split at h
  · cases h
  · split at h
    · cases h
    · next j Y2 f2 hq =>
      have := qHd_pre hn hq
      split at h
      · cases h
      · cases h
        exact ⟨this.1.tr pfx.app, this.2⟩
theorem qAny_pre {st sp : Bool} {tp : Nat → Nat} {n : Nat} {ev : AtX → Sem} : ∀ (k d : Nat) (br sa : Bool) (i : Nat) (X : QSt) (L : QLo) (i' : Nat) (Y : QSt) (Q : QLo), qAny st sp tp n ev k d br sa i X L = .inr (i', Y, Q) → qPre X Y
  | 0, d, br, sa, i, X, L, i', Y, Q, h => by cases h
  | k + 1, d, br, sa, i, X, L, i', Y, Q, h => by
    unfold qAny at h
    split at h
    · cases h
    · next i3 Z f hr =>
      have h1 := qPt_pre (fun a b c X L i' Y Q => qAny_pre k (d + 1) a b c X L i' Y Q) hr
      split at h
      · have h2 := qAny_pre k d _ _ _ _ _ _ _ _ h
        exact ⟨h1.1.tr (pfx.app.tr h2.1), h1.2.tr h2.2⟩
      · split at h
        · exact h1.tr (qAny_pre k d _ _ _ _ _ _ _ _ h)
        · cases h
          exact h1
def sE (R : RS) (D : List DocT) (dl : Nat → Bool) (vi : Nat) (v : VwT) (OO : List OpT) (WW : List (List Nat × Nat)) : Prop := rSc R D dl vi v ∧ rO R OO ∧ rW R WW ∧ OO.length ≤ 202 ∧ WW.length ≤ 320
theorem sE.rp {R R' : RS} {D : List DocT} {dl : Nat → Bool} {vi : Nat} {v : VwT} {OO : List OpT} {WW : List (List Nat × Nat)} (h : sE R D dl vi v OO WW) (hk : Rp wWk R R') : sE R' D dl vi v OO WW :=
  ⟨h.1.rp hk wWk_sc, h.2.1.rp hk (by unfold wWk; omega) (fun c j z1 z2 z => by unfold wWk at z; omega), h.2.2.1.rp hk (by unfold wWk; omega) (fun c j z1 z2 z => by unfold wWk at z; omega), h.2.2.2⟩
theorem run1 {R R' : RS} {D : List DocT} {dl : Nat → Bool} {vi o : Nat} {v : VwT} {OO : List OpT} {WW : List (List Nat × Nat)} {x4 dI : Int32} (h : sE R D dl vi v OO WW) (ho : o < OO.length) (hw : M_work R dI (nI o) = some R') : lp (fun q : Int32 × RS => M_search_l263 q.2 x4 dI q.1) (nI o, R) = lp (fun q : Int32 × RS => M_search_l263 q.2 x4 dI q.1) (nI (o + 1), R') := by
  refine lp_on ?_
  show M_search_l263 R x4 dI (nI o) = _
  have := h.2.2.2.1
  unfold M_search_l263
  rw [h.2.1.1, if_neg (fun z => by have := (iLe (by omega) (by omega)).mp z; omega), hw]
  simp only [Option.bind_some]
  rw [show (1 : Int32) = nI 1 from rfl, nI_add]
theorem timS_1 {x : Option Nat} (h : ∀ w, x = some w → w ≤ qCap) : timS 1 x = x := by
  cases x with
  | none => rfl
  | some w =>
    show some (min (w * 1) qCap) = some w
    rw [Nat.mul_one, Nat.min_eq_left (h w rfl)]
theorem M_opsB {R : RS} {D : List DocT} {dl : Nat → Bool} {vi i b n : Nat} {v : VwT} {OO A : List OpT} {WW : List (List Nat × Nat)} {x4 dI : Int32} {tp : Nat → Nat} {ng : Bool} {S : List (Option Nat)} {x : Option Nat} (h : sE R D dl vi v OO WW) (hp : pfx (A ++ opsB tp n i ng b) OO) (hS : rStk R (S ++ [x])) (hl : S.length < 400) (hx : ∀ w, x = some w → w ≤ qCap) (hb : b < 10) (hb1 : pK tp n i ≠ 94 → b = 1) : ∃ R', lp (fun q : Int32 × RS => M_search_l263 q.2 x4 dI q.1) (nI A.length, R) = lp (fun q : Int32 × RS => M_search_l263 q.2 x4 dI q.1) (nI (A ++ opsB tp n i ng b).length, R') ∧ Rp wWk R R' ∧ rStk R' (S ++ [timS b (if ng = true then negS x else x)]) := by
  have hneg : ∀ w, (if ng = true then negS x else x) = some w → w ≤ qCap := fun w hw => by
    cases ng with
    | false => exact hx w hw
    | true =>
      rw [if_pos rfl] at hw
      cases x with
      | none => cases hw; exact Nat.zero_le _
      | some y => cases hw
  have hlS : ∀ y : Option Nat, (S ++ [y]).length = S.length + 1 := fun y => by rw [List.length_append]; rfl
  -- the -
  obtain ⟨R1, e1, g1, s1⟩ : ∃ R1, lp (fun q : Int32 × RS => M_search_l263 q.2 x4 dI q.1) (nI A.length, R) = lp (fun q : Int32 × RS => M_search_l263 q.2 x4 dI q.1) (nI (A ++ (if ng = true then [((5 : Nat), (0 : Int32), (0 : Int32), (0 : Int32))] else [])).length, R1) ∧ Rp wWk R R1 ∧ rStk R1 (S ++ [if ng = true then negS x else x]) := by
    cases ng with
    | false =>
      rw [if_neg (by decide), if_neg (by decide), List.append_nil]
      exact ⟨R, rfl, Rp.rf, hS⟩
    | true =>
      rw [if_pos rfl, if_pos rfl]
      have hp1 : pfx (A ++ [((5 : Nat), (0 : Int32), (0 : Int32), (0 : Int32))]) OO := by
        refine pfx.tr ?_ hp
        unfold opsB
        rw [if_pos rfl, ← List.append_assoc]
        exact pfx.app
      obtain ⟨ho, he⟩ := hp1.next (d := (0, 0, 0, 0))
      obtain ⟨o1, -⟩ := h.2.1.2 _ ho
      have he : qoA OO A.length = (5, 0, 0, 0) := he
      rw [he] at o1
      obtain ⟨R1, e1, g1, s1⟩ := M_work_not (d := dI) (by have := h.2.2.2.1; omega) o1 hS (by rw [hlS]; omega)
      refine ⟨R1, ?_, g1, s1⟩
      rw [run1 h ho e1, List.length_append]
      rfl
  have h1 := h.rp g1
  unfold opsB at hp ⊢
  rw [← List.append_assoc] at hp ⊢
  generalize A ++ (if ng = true then [((5 : Nat), (0 : Int32), (0 : Int32), (0 : Int32))] else []) = A1 at *
  generalize (if ng = true then negS x else x) = x1 at *
  by_cases c : pK tp n i = 94
  · rw [if_pos c] at hp ⊢
    obtain ⟨ho, he⟩ := hp.next (d := (0, 0, 0, 0))
    obtain ⟨o1, o2, o3, o4⟩ := h1.2.1.2 _ ho
    have he : qoA OO A1.length = (6, 0, nI b, 0) := he
    rw [he] at o1 o3
    obtain ⟨R2, e2, g2, s2⟩ := M_work_times (d := dI) (by have := h.2.2.2.1; omega) o1 o3 hb s1 (by rw [hlS]; omega) hneg
    refine ⟨R2, ?_, g1.tr g2 (fun _ _ _ z => z), s2⟩
    rw [e1, run1 h1 ho e2, List.length_append]
    rfl
  · rw [if_neg c, List.append_nil]
    rw [hb1 c, timS_1 hneg]
    exact ⟨R1, e1, g1, s1⟩
theorem qBoost_b {tp : Nat → Nat} {n i j b : Nat} (h : qBoost tp n i = .inr (j, b)) : b < 10 ∧ (pK tp n i ≠ 94 → b = 1) := by
  unfold qBoost at h
  by_cases c : pK tp n i = 94
  · rw [if_pos c] at h
    refine ⟨?_, fun z => absurd c z⟩
    split at h
    · next v hv =>
      have := qNum_lt hv
      split at h
      · cases h
      · cases h
        exact this
    · cases h
  · rw [if_neg c] at h
    cases h
    exact ⟨by decide, fun _ => rfl⟩
theorem capL_app {S T : List (Option Nat)} (h : capL S) (g : capL T) : capL (S ++ T) := fun o ho => by
  rcases List.mem_append.mp ho with ho | ho
  · exact h o ho
  · exact g o ho
theorem capL_1 {x : Option Nat} (h : ∀ w, x = some w → w ≤ qCap) : capL [x] := fun o ho => by
  rw [List.mem_singleton] at ho
  rw [ho]
  exact h
theorem M_ops {D : List DocT} {dl : Nat → Bool} {vi dd : Nat} {v : VwT} {OO : List OpT} {WW : List (List Nat × Nat)} {x4 : Int32} {st sp : Bool} {tp : Nat → Nat} {n : Nat} (ht : ∀ j, j < 600 → tp j < 256) (hn : n ≤ 600) (hT : okTx D) (hdd : dd < D.length) (hm : dd ∈ vDocs v) : ∀ (k d : Nat) (br sa : Bool) (i : Nat) (X : QSt) (L : QLo) (i' : Nat) (Y : QSt) (Q : QLo), qAny st sp tp n (evA D v) k d br sa i X L = .inr (i', Y, Q) → i ≤ n → pfx Y.2.1 OO → pfx Y.2.2.1 WW → ∀ (R : RS) (S A C : List (Option Nat)), sE R D dl vi v OO WW → rStk R (S ++ A ++ C) → A.length = L.2.1 → C.length = L.1 → capL A → capL C → anyL A = L.2.2.1 dd → allL C = L.2.2.2 dd → (S ++ A ++ C).length ≤ X.2.1.length → ∃ (R' : RS) (A' C' : List (Option Nat)), lp (fun q : Int32 × RS => M_search_l263 q.2 x4 (nI dd) q.1) (nI X.2.1.length, R) = lp (fun q : Int32 × RS => M_search_l263 q.2 x4 (nI dd) q.1) (nI Y.2.1.length, R') ∧ Rp wWk R R' ∧ rStk R' (S ++ A' ++ C') ∧ A'.length = Q.2.1 ∧ C'.length = Q.1 ∧ capL A' ∧ capL C' ∧ anyL A' = Q.2.2.1 dd ∧ allL C' = Q.2.2.2 dd ∧ (S ++ A' ++ C').length ≤ Y.2.1.length
  | 0, d, br, sa, i, X, L, i', Y, Q, h, hi, hpO, hpW, R, S, A, C, hE, hS, hA1, hC1, hA2, hC2, hA3, hC3, hlen => by cases h
  | k + 1, d, br, sa, i, X, L, i', Y, Q, h, hi, hpO, hpW, R, S, A, C, hE, hS, hA1, hC1, hA2, hC2, hA3, hC3, hlen => by
    have hO202 := hE.2.2.2.1
    have hnn := fun a b c X L i' Y Q => qAny_n (ev := evA D v) (st := st) (sp := sp) ht hn k (d + 1) a b c X L i' Y Q
    have hpp := fun a b c X L i' Y Q => qAny_pre (st := st) (sp := sp) (tp := tp) (n := n) (ev := evA D v) k (d + 1) a b c X L i' Y Q
    unfold qAny at h
    cases hr : qPt st sp tp n (evA D v) (qAny st sp tp n (evA D v) k (d + 1)) d br sa i X with
    | inl p =>
      rw [hr] at h
      cases h
    | inr r =>
      obtain ⟨i3, Z, f⟩ := r
      have h3 := qPt_n ht hn hi hnn hr
      rw [hr] at h
      simp only at h
      have hZY : qPre Z Y := by
        split at h
        · have h2 := qAny_pre k d _ _ _ _ _ _ _ _ h
          exact ⟨pfx.app.tr h2.1, h2.2⟩
        · split at h
          · exact qAny_pre k d _ _ _ _ _ _ _ _ h
          · cases h
            exact ⟨pfx.rf, pfx.rf⟩
      have hZO : pfx Z.2.1 OO := hZY.1.tr hpO
      have hZW : pfx Z.2.2.1 WW := hZY.2.tr hpW
      have hSl : (S ++ A ++ C).length ≤ 202 := by
        have h1 := (qPt_pre hpp hr).1.len
        have h2 := hZO.len
        omega
      -- the part
      obtain ⟨R1, e1, g1, s1, cf, l1⟩ : ∃ R1, lp (fun q : Int32 × RS => M_search_l263 q.2 x4 (nI dd) q.1) (nI X.2.1.length, R) = lp (fun q : Int32 × RS => M_search_l263 q.2 x4 (nI dd) q.1) (nI Z.2.1.length, R1) ∧ Rp wWk R R1 ∧ rStk R1 (S ++ A ++ C ++ [f dd]) ∧ (∀ w, f dd = some w → w ≤ qCap) ∧ (S ++ A ++ C ++ [f dd]).length ≤ Z.2.1.length := by
        have hr2 := hr
        unfold qPt at hr2
        split at hr2
        · cases hr2
        · split at hr2
          · cases hr2
          · next i2 Y2 f2 hh =>
            have hi1 : (if pK tp n i = 45 then pE tp n i else i) ≤ n := by
              split
              · exact (pE_b hi).2
              · exact hi
            split at hr2
            · cases hr2
            · next j3 b hb =>
              cases hr2
              obtain ⟨hb10, hb1⟩ := qBoost_b hb
              have hZO : pfx (Y2.2.1 ++ opsB tp n i2 (decide (pK tp n i = 45)) b) OO := hZO
              have hY2O : pfx Y2.2.1 OO := pfx.app.tr hZO
              have hY2W : pfx Y2.2.2.1 WW := hZW
              -- the head
              obtain ⟨R2, e2, g2, s2, cf2, l2⟩ : ∃ R2, lp (fun q : Int32 × RS => M_search_l263 q.2 x4 (nI dd) q.1) (nI X.2.1.length, R) = lp (fun q : Int32 × RS => M_search_l263 q.2 x4 (nI dd) q.1) (nI Y2.2.1.length, R2) ∧ Rp wWk R R2 ∧ rStk R2 (S ++ A ++ C ++ [f2 dd]) ∧ (∀ w, f2 dd = some w → w ≤ qCap) ∧ (S ++ A ++ C ++ [f2 dd]).length ≤ Y2.2.1.length := by
                unfold qHd at hh
                by_cases c40 : pK tp n (if pK tp n i = 45 then pE tp n i else i) = 40
                · rw [if_pos c40] at hh
                  split at hh
                  · cases hh
                  · split at hh
                    · cases hh
                    · next j Y' Q' hq =>
                      split at hh
                      · cases hh
                        have hY2O : pfx (Y'.2.1 ++ [((7 : Nat), (0 : Int32), nI Q'.1, (0 : Int32)), ((8 : Nat), (0 : Int32), nI (Q'.2.1 + 1), (0 : Int32))]) OO := hY2O
                        have hp7 : pfx (Y'.2.1 ++ [((7 : Nat), (0 : Int32), nI Q'.1, (0 : Int32))]) OO := by
                          refine pfx.tr ?_ hY2O
                          exact ⟨[((8 : Nat), (0 : Int32), nI (Q'.2.1 + 1), (0 : Int32))], by rw [List.append_assoc]; rfl⟩
                        have hp8 : pfx ((Y'.2.1 ++ [((7 : Nat), (0 : Int32), nI Q'.1, (0 : Int32))]) ++ [((8 : Nat), (0 : Int32), nI (Q'.2.1 + 1), (0 : Int32))]) OO := by
                          rw [List.append_assoc]
                          exact hY2O
                        obtain ⟨R3, A', C', e3, g3, s3, a1, a2, a3, a4, a5, a6, a7⟩ := M_ops ht hn hT hdd hm k (d + 1) _ _ _ _ _ _ _ _ hq (pE_b hi1).2 (pfx.app.tr hY2O) hY2W R (S ++ A ++ C) [] [] hE (by rw [List.append_nil, List.append_nil]; exact hS) rfl rfl (fun o ho => absurd ho (by simp)) (fun o ho => absurd ho (by simp)) rfl rfl (by rw [List.append_nil, List.append_nil]; exact hlen)
                        have hE3 := hE.rp g3
                        obtain ⟨ho7, he7⟩ := hp7.next (d := (0, 0, 0, 0))
                        obtain ⟨o1, o2, o3, o4⟩ := hE3.2.1.2 _ ho7
                        have he7 : qoA OO Y'.2.1.length = (7, 0, nI Q'.1, 0) := he7
                        rw [he7] at o1 o3
                        rw [← a2] at o3
                        obtain ⟨R4, e4, g4, s4⟩ := M_work_fold (d := nI dd) (kk := 7) (by omega) (.inl rfl) o1 o3 s3 (by omega) a4
                        rw [if_pos rfl] at s4
                        have hE4 := hE3.rp g4
                        obtain ⟨ho8, he8⟩ := hp8.next (d := (0, 0, 0, 0))
                        have hl8 : (Y'.2.1 ++ [((7 : Nat), (0 : Int32), nI Q'.1, (0 : Int32))]).length = Y'.2.1.length + 1 := by rw [List.length_append]; rfl
                        rw [hl8] at ho8 he8
                        obtain ⟨p1, p2, p3, p4⟩ := hE4.2.1.2 _ ho8
                        have he8 : qoA OO (Y'.2.1.length + 1) = (8, 0, nI (Q'.2.1 + 1), 0) := he8
                        rw [he8] at p1 p3
                        have hAl : (A' ++ [allL C']).length = Q'.2.1 + 1 := by rw [List.length_append, a1]; rfl
                        rw [← hAl] at p3
                        have s4 : rStk R4 (S ++ A ++ C ++ (A' ++ [allL C'])) := by rw [List.append_assoc (S ++ A ++ C)] at s4; exact s4
                        have hcapA : capL (A' ++ [allL C']) := capL_app a3 (capL_1 allL_cap)
                        have hlAC : (S ++ A ++ C ++ (A' ++ [allL C'])).length ≤ 419 := by
                          have := hE.2.2.2.1
                          simp only [List.length_append, List.length_cons, List.length_nil] at a7 ho8 ⊢
                          omega
                        obtain ⟨R5, e5, g5, s5⟩ := M_work_fold (d := nI dd) (kk := 8) (by omega) (.inr rfl) p1 p3 s4 hlAC hcapA
                        rw [if_neg (by decide), anyL_app, a5, a6] at s5
                        have hcap5 : ∀ w, eitS (Q'.2.2.1 dd) (Q'.2.2.2 dd) = some w → w ≤ qCap := by
                          rw [← a5, ← a6, ← anyL_app]
                          exact anyL_cap hcapA
                        refine ⟨R5, ?_, (g3.tr g4 (fun _ _ _ z => z)).tr g5 (fun _ _ _ z => z), s5, hcap5, ?_⟩
                        · have e3 : lp (fun q : Int32 × RS => M_search_l263 q.2 x4 (nI dd) q.1) (nI X.2.1.length, R) = _ := e3
                          rw [e3, run1 hE3 ho7 e4, run1 hE4 ho8 e5]
                          show _ = lp _ (nI (Y'.2.1 ++ _).length, R5)
                          rw [List.length_append]
                          rfl
                        · show _ ≤ (Y'.2.1 ++ _).length
                          simp only [List.length_append, List.length_cons, List.length_nil] at a7 ⊢
                          omega
                      · cases hh
                · rw [if_neg c40] at hh
                  split at hh
                  · cases hh
                  · next j y hq =>
                    have hy := qAtom_ok ht hn hi1 hq
                    cases hh
                    have hY2O : pfx (X.2.1 ++ [atO y X.2.2.1.length]) OO := hY2O
                    have hY2W : pfx (X.2.2.1 ++ atW y) WW := hY2W
                    obtain ⟨ho, he⟩ := hY2O.next (d := (0, 0, 0, 0))
                    obtain ⟨o1, o2, o3, o4⟩ := hE.2.1.2 _ ho
                    have he : qoA OO X.2.1.length = atO y X.2.2.1.length := he
                    rw [he] at o1 o2 o3 o4
                    have hWl := hY2W.len
                    rw [List.length_append] at hWl
                    have hW320 := hE.2.2.2.2
                    have hV : rVw R X.2.2.1.length (atW y) := fun k hk => by
                      obtain ⟨w1, w2, w3, w4⟩ := hE.2.2.1.2 (X.2.2.1.length + k) (by omega)
                      have e : qwA WW (X.2.2.1.length + k) = (atW y).getD k ([], 0) := by
                        unfold qwA
                        rw [hY2W.at' (by rw [List.length_append]; omega), List.getD_eq_getElem?_getD, List.getElem?_append_right (by omega), Nat.add_sub_cancel_left, ← List.getD_eq_getElem?_getD]
                      rw [e] at w2 w3 w4
                      exact ⟨⟨w2, w4⟩, w3⟩
                    obtain ⟨R2, e2, g2, s2⟩ := M_work_atom hE.1 hdd hm (by omega) hy o1 o2 o3 o4 hV (by omega) hS (by omega)
                    have hxl : (pTms (atP y false false false 1 0)).length ≤ 8 := by
                      unfold atP
                      split
                      · exact Nat.zero_le _
                      · split
                        · exact Nat.zero_le _
                        · exact Nat.le_trans (List.length_filter_le _ _) hy.2.1
                    refine ⟨R2, ?_, g2, s2, fun w hw => evP_le hT hdd hxl w hw, ?_⟩
                    · rw [run1 hE ho e2]
                      show _ = lp _ (nI (X.2.1 ++ [atO y X.2.2.1.length]).length, R2)
                      rw [List.length_append]
                      rfl
                    · show (S ++ A ++ C ++ [evA D v y dd]).length ≤ (X.2.1 ++ [atO y X.2.2.1.length]).length
                      rw [List.length_append, List.length_append (as := X.2.1)]
                      show (S ++ A ++ C).length + 1 ≤ X.2.1.length + 1
                      omega
              have hE2 := hE.rp g2
              obtain ⟨R3, e3, g3, s3⟩ := M_opsB (x4 := x4) (dI := nI dd) hE2 hZO s2 (by omega) cf2 hb10 hb1
              refine ⟨R3, ?_, g2.tr g3 (fun _ _ _ z => z), s3, semB_cap dd, ?_⟩
              · rw [e2, e3]
              · show _ ≤ (Y2.2.1 ++ _).length
                rw [List.length_append (as := Y2.2.1)]
                simp only [List.length_append, List.length_cons, List.length_nil] at l2 ⊢
                omega
      have hE1 := hE.rp g1
      have hC1' : (C ++ [f dd]).length = L.1 + 1 := by rw [List.length_append, hC1]; rfl
      have hC2' : capL (C ++ [f dd]) := capL_app hC2 (capL_1 cf)
      have hC3' : allL (C ++ [f dd]) = bthS (L.2.2.2 dd) (f dd) := by rw [allL_app, hC3]
      have s1' : rStk R1 (S ++ A ++ (C ++ [f dd])) := by rw [← List.append_assoc]; exact s1
      split at h
      · -- an ALL ends
        have hpre := (qAny_pre k d _ _ _ _ _ _ _ _ h).1.tr hpO
        have hp7 : pfx (Z.2.1 ++ [((7 : Nat), (0 : Int32), nI (L.1 + 1), (0 : Int32))]) OO := hpre
        obtain ⟨ho7, he7⟩ := hp7.next (d := (0, 0, 0, 0))
        obtain ⟨o1, o2, o3, o4⟩ := hE1.2.1.2 _ ho7
        have he7 : qoA OO Z.2.1.length = (7, 0, nI (L.1 + 1), 0) := he7
        rw [he7] at o1 o3
        rw [← hC1'] at o3
        have hl7 : (S ++ A ++ (C ++ [f dd])).length ≤ 419 := by
          rw [← List.append_assoc]
          omega
        obtain ⟨R2, e2, g2, s2⟩ := M_work_fold (d := nI dd) (kk := 7) (by omega) (.inl rfl) o1 o3 s1' hl7 hC2'
        rw [if_pos rfl, hC3'] at s2
        have hE2 := hE1.rp g2
        have hcapn : ∀ w, bthS (L.2.2.2 dd) (f dd) = some w → w ≤ qCap := fun w hw => bthS_cap w hw
        obtain ⟨R3, A', C', e3, g3, r3⟩ := M_ops (x4 := x4) ht hn hT hdd hm k d _ _ _ _ _ _ _ _ h (pE_b h3).2 hpO hpW R2 S (A ++ [bthS (L.2.2.2 dd) (f dd)]) [] hE2 (by rw [List.append_nil, ← List.append_assoc]; exact s2) (by rw [List.length_append, hA1]; rfl) rfl (capL_app hA2 (capL_1 hcapn)) (fun o ho => absurd ho (by simp)) (by rw [anyL_app, hA3]) rfl (by
          rw [List.append_nil]
          show (S ++ (A ++ [_])).length ≤ (Z.2.1 ++ [_]).length
          simp only [List.length_append, List.length_cons, List.length_nil] at l1 ⊢
          omega)
        refine ⟨R3, A', C', ?_, (g1.tr g2 (fun _ _ _ z => z)).tr g3 (fun _ _ _ z => z), r3⟩
        rw [e1, run1 hE1 ho7 e2, ← e3]
        show _ = lp _ (nI (Z.2.1 ++ [_]).length, R2)
        rw [List.length_append]
        rfl
      · split at h
        · obtain ⟨R3, A', C', e3, g3, r3⟩ := M_ops (x4 := x4) ht hn hT hdd hm k d _ _ _ _ _ _ _ _ h h3 hpO hpW R1 S A (C ++ [f dd]) hE1 s1' hA1 hC1' hA2 hC2' hA3 hC3' (by rw [← List.append_assoc]; exact l1)
          exact ⟨R3, A', C', by rw [e1]; exact e3, g1.tr g3 (fun _ _ _ z => z), r3⟩
        · cases h
          exact ⟨R1, A, C ++ [f dd], e1, g1, s1', hA1, hC1', hA2, hC2', hA3, hC3', by rw [← List.append_assoc]; exact l1⟩
/-- all operations of a query: its score alone stands on the stack -/
theorem M_ops_all {D : List DocT} {dl : Nat → Bool} {vi dd : Nat} {v : VwT} {x4 : Int32} {st sp : Bool} {tp : Nat → Nat} {n : Nat} {Y : QSt} {f : Sem} (ht : ∀ j, j < 600 → tp j < 256) (hn : n ≤ 600) (hT : okTx D) (hdd : dd < D.length) (hm : dd ∈ vDocs v) (hp : qParse st sp tp n (evA D v) = .inr (Y, f)) {R : RS} (hE : sE R D dl vi v Y.2.1 Y.2.2.1) (hS : rStk R []) : ∃ R', lp (fun q : Int32 × RS => M_search_l263 q.2 x4 (nI dd) q.1) (0, R) = some R' ∧ Rp wWk R R' ∧ rStk R' [f dd] := by
  unfold qParse at hp
  split at hp
  · cases hp
  · next i Y' Q hq =>
    split at hp
    · cases hp
      have hO : pfx (Y'.2.1 ++ [((7 : Nat), (0 : Int32), nI Q.1, (0 : Int32)), ((8 : Nat), (0 : Int32), nI (Q.2.1 + 1), (0 : Int32))]) (Y'.2.1 ++ [((7 : Nat), (0 : Int32), nI Q.1, (0 : Int32)), ((8 : Nat), (0 : Int32), nI (Q.2.1 + 1), (0 : Int32))]) := pfx.rf
      have hE : sE R D dl vi v (Y'.2.1 ++ [((7 : Nat), (0 : Int32), nI Q.1, (0 : Int32)), ((8 : Nat), (0 : Int32), nI (Q.2.1 + 1), (0 : Int32))]) Y'.2.2.1 := hE
      generalize hOO : Y'.2.1 ++ [((7 : Nat), (0 : Int32), nI Q.1, (0 : Int32)), ((8 : Nat), (0 : Int32), nI (Q.2.1 + 1), (0 : Int32))] = OO at hE
      rw [hOO] at hO
      have hp7 : pfx (Y'.2.1 ++ [((7 : Nat), (0 : Int32), nI Q.1, (0 : Int32))]) OO := ⟨[((8 : Nat), (0 : Int32), nI (Q.2.1 + 1), (0 : Int32))], by rw [List.append_assoc, ← hOO]; rfl⟩
      have hp8 : pfx ((Y'.2.1 ++ [((7 : Nat), (0 : Int32), nI Q.1, (0 : Int32))]) ++ [((8 : Nat), (0 : Int32), nI (Q.2.1 + 1), (0 : Int32))]) OO := ⟨[], by rw [List.append_nil, List.append_assoc, ← hOO]; rfl⟩
      have hOl : OO.length = Y'.2.1.length + 2 := by rw [← hOO, List.length_append]; rfl
      obtain ⟨R3, A', C', e3, g3, s3, a1, a2, a3, a4, a5, a6, a7⟩ := M_ops (x4 := x4) ht hn hT hdd hm 41 0 _ _ _ _ _ _ _ _ hq (Nat.zero_le _) (pfx.app.tr hp7) pfx.rf R [] [] [] hE hS rfl rfl (fun o ho => absurd ho (by simp)) (fun o ho => absurd ho (by simp)) rfl rfl (Nat.le_refl _)
      have hO202 := hE.2.2.2.1
      have hE3 := hE.rp g3
      obtain ⟨ho7, he7⟩ := hp7.next (d := (0, 0, 0, 0))
      obtain ⟨o1, o2, o3, o4⟩ := hE3.2.1.2 _ ho7
      have he7 : qoA OO Y'.2.1.length = (7, 0, nI Q.1, 0) := he7
      rw [he7] at o1 o3
      rw [← a2] at o3
      obtain ⟨R4, e4, g4, s4⟩ := M_work_fold (d := nI dd) (kk := 7) (by omega) (.inl rfl) o1 o3 s3 (by omega) a4
      rw [if_pos rfl] at s4
      have hE4 := hE3.rp g4
      obtain ⟨ho8, he8⟩ := hp8.next (d := (0, 0, 0, 0))
      have hl8 : (Y'.2.1 ++ [((7 : Nat), (0 : Int32), nI Q.1, (0 : Int32))]).length = Y'.2.1.length + 1 := by rw [List.length_append]; rfl
      rw [hl8] at ho8 he8
      obtain ⟨p1, p2, p3, p4⟩ := hE4.2.1.2 _ ho8
      have he8 : qoA OO (Y'.2.1.length + 1) = (8, 0, nI (Q.2.1 + 1), 0) := he8
      rw [he8] at p1 p3
      have hAl : (A' ++ [allL C']).length = Q.2.1 + 1 := by rw [List.length_append, a1]; rfl
      rw [← hAl] at p3
      have s4 : rStk R4 ([] ++ (A' ++ [allL C'])) := s4
      have hcapA : capL (A' ++ [allL C']) := capL_app a3 (capL_1 allL_cap)
      have hlAC : (([] : List (Option Nat)) ++ (A' ++ [allL C'])).length ≤ 419 := by
        simp only [List.nil_append, List.length_append, List.length_cons, List.length_nil] at a7 ⊢
        omega
      obtain ⟨R5, e5, g5, s5⟩ := M_work_fold (d := nI dd) (kk := 8) (by omega) (.inr rfl) p1 p3 s4 hlAC hcapA
      rw [if_neg (by decide), anyL_app, a5, a6] at s5
      have hE5 := hE4.rp g5
      have hend : M_search_l263 R5 x4 (nI dd) (nI OO.length) = some (.inr R5) := by
        unfold M_search_l263
        rw [hE5.2.1.1, if_pos ((iLe (by omega) (by omega)).mpr (Nat.le_refl _))]
      refine ⟨R5, ?_, (g3.tr g4 (fun _ _ _ z => z)).tr g5 (fun _ _ _ z => z), s5⟩
      have e3 : lp (fun q : Int32 × RS => M_search_l263 q.2 x4 (nI dd) q.1) (0, R) = _ := e3
      rw [e3, run1 hE3 ho7 e4, run1 hE4 ho8 e5, show Y'.2.1.length + 1 + 1 = OO.length by omega]
      exact lp_out (f := fun q : Int32 × RS => M_search_l263 q.2 x4 (nI dd) q.1) (a := (nI OO.length, R5)) hend
    · cases hp
