/-! the class: the score of a query, along its parse -/
def cSc (σ : Mem) (q : Nat) (D : List DocT) (v : VwT) (PP : List PT) : Prop := isQ σ q ∧ cQuery σ q PP ∧ okPs PP ∧ (∀ x, x ∈ PP → incT (pTms x)) ∧ ∀ j, j < PP.length → cRar σ (q + (2 + 4 * j)) D v (PP.getD j default)
theorem semB_cap {ng : Bool} {b : Nat} {f : Sem} : ∀ d w, semB ng b f d = some w → w ≤ qCap := fun d w h => timS_cap w h
theorem Qu_part_end {σ : Mem} {q idx : Nat} {D : List DocT} {v : VwT} {PP : List PT} {rec : Mem → Nat → Int32 → Int32 → Option Nat → Int32 → Option Int32} {a : Option Nat} {dI : Int32} {s : Option Nat} (h : cSc σ q D v PP) (hi : idx < PP.length) (hs : ∀ w, s = some w → w ≤ qCap) (he : (if ¬ nI (pKind (PP.getD idx default)) = 0 then (chk σ 4 (some (q + (2 + 4 * idx)))).bind fun a9 => (Pa_scoreOf σ a9 a).bind fun v10 => some v10 else (ldI σ 4 6 (some (q + (2 + 4 * idx)))).bind fun v11 => (chk σ 5 (some q)).bind fun a12 => (rec σ a12 (nI idx + 1) v11 a (dI + 1)).bind fun v13 => some v13) = some (enO s)) : Qu_scoreOfPart rec σ q (nI idx) a dI = some (enO (timS (pBoost (PP.getD idx default)) (if pNeg (PP.getD idx default) = true then negS s else s))) := by
  obtain ⟨hQ, hC, hok, hinc, hr⟩ := h
  have hl := hC.2.1
  have tq := hQ.1
  obtain ⟨ta, tb⟩ : (gT σ (q + 1)).1 = 107 ∧ (gT σ (q + 1)).2 = 40 := by rw [hQ.2.2.1]; exact ⟨rfl, rfl⟩
  obtain ⟨rp, pk⟩ := hQ.2.2.2 idx (by omega)
  have tp := pk.1
  have hx := hC.2.2 idx hi
  have hox := hok _ (getD_mem (d := default) hi)
  unfold Qu_scoreOfPart
  rw [if_neg (fun z => by have := (iLt (b := 0) (by omega) (by omega)).mp z; omega)]
  simp only [ldI_ok tq, hC.1, Option.bind_some]
  rw [if_pos ((iLt (by omega) (by omega)).mpr hi)]
  simp only [ldR_ok tq, hQ.2.1, Option.bind_some]
  rw [raR_k (t := 7) ta (by rw [tb]; omega) (by omega), rp]
  simp only [Option.bind_some, ldI_ok tp, ldB_ok tp, hx.1, hx.2.2.1, hx.2.2.2.2.2.1]
  simp only [ldI_ok tp, Option.bind_some] at he
  rw [he]
  simp only [Option.bind_some]
  generalize PP.getD idx default = x at *
  have hb := hox.2.2.1
  have hng : (if pNeg x = true then (Option.bind (if ¬ enO s = -1 then some (-1) else some (0 : Int32)) fun q17 => some q17) else some (enO s)) = some (enO (if pNeg x = true then negS s else s)) := by
    cases pNeg x with
    | false => rfl
    | true =>
      rw [if_pos rfl, if_pos rfl]
      cases s with
      | none => rw [if_neg (fun z => z rfl)]; rfl
      | some w =>
        rw [if_pos (by rw [enO_s]; exact en_ne (hs w rfl))]
        rfl
  rw [hng]
  simp only [Option.bind_some]
  have hs2 : ∀ w, (if pNeg x = true then negS s else s) = some w → w ≤ qCap := fun w hw => by
    cases hp : pNeg x with
    | false =>
      rw [hp] at hw
      exact hs w hw
    | true =>
      rw [hp, if_pos rfl] at hw
      cases s with
      | none => cases hw; exact Nat.zero_le _
      | some y => cases hw
  generalize (if pNeg x = true then negS s else s) = s2 at *
  cases s2 with
  | none => rw [if_neg (fun z => z rfl)]; rfl
  | some w =>
    have hw := hs2 w rfl
    rw [if_pos (by rw [enO_s]; exact en_ne hw)]
    rw [qC] at hw
    rw [enO_s, nI_l (by omega), nI_l (by omega), lN_mul]
    have hm : w * pBoost x ≤ 1000000000 * 9 := Nat.mul_le_mul hw (by omega)
    rw [E_capped_ok (by omega)]
    rfl
theorem qHd_kind {y : AtX} (hy : okAt y) {ng br sa : Bool} {b en : Nat} : pKind (setBE (atP y ng br sa 1 0) b en) ≠ 0 := by
  show pKind (atP y ng br sa 1 0) ≠ 0
  unfold atP
  split
  · show 3 ≠ 0; decide
  · split
    · show 2 ≠ 0; decide
    · show 1 ≠ 0; decide
theorem Qu_any {σ : Mem} {q lo a dd : Nat} {D : List DocT} {v : VwT} {PP : List PT} {st sp : Bool} {tp : Nat → Nat} {n : Nat} (ht : ∀ j, j < 600 → tp j < 256) (hn : n ≤ 600) (hT : okTx D) (hdd : dd < D.length) (hS : cSc σ q D v PP) (hdoc : isDoc lo σ a dd (dA D dd)) : ∀ (k d : Nat) (br sa : Bool) (i : Nat) (X : QSt) (L : QLo) (i' : Nat) (Y : QSt) (Q : QLo), qAny st sp tp n (evA D v) k d br sa i X L = .inr (i', Y, Q) → i ≤ n → d ≤ 8 → Y.1.length ≤ PP.length → (∀ j, X.1.length ≤ j → j < Y.1.length → PP.getD j default = Y.1.getD j default) → ∀ (g to : Nat) (c1 c2 : Option Nat), g + d = 19 → Y.1.length ≤ to → to ≤ PP.length → (sa = true → eitS c1 c2 = L.2.2.1 dd ∧ L.2.2.2 dd = some 0) → (sa = false → c1 = L.2.2.1 dd ∧ c2 = L.2.2.2 dd) → (∀ w, c1 = some w → w ≤ qCap) → (∀ w, c2 = some w → w ≤ qCap) → lp (fun z : Int32 × Int32 × Int32 => Qu_scoreOfAny_l22 (Qu_scoreOfAny g) σ q (nI to) (some a) (nI d) z.1 z.2.1 z.2.2) (enO c1, enO c2, nI X.1.length) = lp (fun z : Int32 × Int32 × Int32 => Qu_scoreOfAny_l22 (Qu_scoreOfAny g) σ q (nI to) (some a) (nI d) z.1 z.2.1 z.2.2) (enO (Q.2.2.1 dd), enO (Q.2.2.2 dd), nI Y.1.length) ∧ (∀ w, Q.2.2.1 dd = some w → w ≤ qCap) ∧ ∀ w, Q.2.2.2 dd = some w → w ≤ qCap
  | 0, d, br, sa, i, X, L, i', Y, Q, h, hi, hd8, hl, hag, g, to, c1, c2, hg, ht1, ht2, hsa, hsb, hc1, hc2 => by cases h
  | k + 1, d, br, sa, i, X, L, i', Y, Q, h, hi, hd8, hl, hag, g, to, c1, c2, hg, ht1, ht2, hsa, hsb, hc1, hc2 => by
    have hQ := hS.1
    have hC := hS.2.1
    have hPl := hC.2.1
    have tq := hQ.1
    obtain ⟨ta, tb⟩ : (gT σ (q + 1)).1 = 107 ∧ (gT σ (q + 1)).2 = 40 := by rw [hQ.2.2.1]; exact ⟨rfl, rfl⟩
    have hnn := fun a b c X L i' Y Q => qAny_n (ev := evA D v) (st := st) (sp := sp) ht hn k (d + 1) a b c X L i' Y Q
    have hxx := fun a b c X L i' Y Q => qAny_ext (st := st) (sp := sp) (tp := tp) (n := n) (ev := evA D v) k (d + 1) a b c X L i' Y Q
    unfold qAny at h
    cases hr : qPt st sp tp n (evA D v) (qAny st sp tp n (evA D v) k (d + 1)) d br sa i X with
    | inl p =>
      rw [hr] at h
      cases h
    | inr r =>
      obtain ⟨i3, Z, f⟩ := r
      have h3 := qPt_n ht hn hi hnn hr
      obtain ⟨-, hZlt⟩ := qPt_ext hxx hr
      rw [hr] at h
      simp only at h
      -- what comes behind the part only adds
      have hZY : qExt Z.1 Y.1 := by
        split at h
        · have := qAny_ext k d _ _ _ _ _ _ _ _ h
          exact this
        · split at h
          · exact qAny_ext k d _ _ _ _ _ _ _ _ h
          · cases h
            exact qExt.rf
      have hZl := hZY.1
      have hagZ : ∀ j, X.1.length ≤ j → j < Z.1.length → PP.getD j default = Z.1.getD j default := fun j h1 h2 => by
        rw [hag j h1 (by omega), hZY.2 j h2]
      have hidx : X.1.length < PP.length := by omega
      -- the part's own score
      have hpart : Qu_scoreOfPart (Qu_scoreOfAny g) σ q (nI X.1.length) (some a) (nI d) = some (enO (f dd)) ∧ gB σ (q + (2 + 4 * X.1.length)) 4 = sa ∧ gI σ (q + (2 + 4 * X.1.length)) 6 = nI Z.1.length ∧ ∀ w, f dd = some w → w ≤ qCap := by
        have hr2 := hr
        unfold qPt at hr2
        split at hr2
        · cases hr2
        · split at hr2
          · cases hr2
          · next i2 Y2 f2 hh =>
            have hi1 : (if pK tp n i = 45 then pE tp n i else i) ≤ n := by
              split
              · exact (pE_b hi).2
              · exact hi
            obtain ⟨x1, x2, x3⟩ := qHd_ext hxx hh
            split at hr2
            · cases hr2
            · next j3 b hb =>
              cases hr2
              have hPx : PP.getD X.1.length default = setBE (Y2.1.getD X.1.length default) b Y2.1.length := by
                have hagZ := hagZ X.1.length (Nat.le_refl _) hZlt
                rw [hagZ]
                exact getD_setS x2
              have hx := hC.2.2 X.1.length hidx
              rw [hPx] at hx
              have hlen : (Y2.1.set X.1.length (setBE (Y2.1.getD X.1.length default) b Y2.1.length)).length = Y2.1.length := List.length_set
              refine ⟨?_, ?_, ?_, semB_cap dd⟩
              · have hsc : ∃ s, (if ¬ nI (pKind (PP.getD X.1.length default)) = 0 then (chk σ 4 (some (q + (2 + 4 * X.1.length)))).bind fun a9 => (Pa_scoreOf σ a9 (some a)).bind fun v10 => some v10 else (ldI σ 4 6 (some (q + (2 + 4 * X.1.length)))).bind fun v11 => (chk σ 5 (some q)).bind fun a12 => (Qu_scoreOfAny g σ a12 (nI X.1.length + 1) v11 (some a) (nI d + 1)).bind fun v13 => some v13) = some (enO s) ∧ s = f2 dd ∧ ∀ w, s = some w → w ≤ qCap := by
                  have pk := (hQ.2.2.2 X.1.length (by omega)).2
                  unfold qHd at hh
                  by_cases c40 : pK tp n (if pK tp n i = 45 then pE tp n i else i) = 40
                  · rw [if_pos c40] at hh
                    split at hh
                    · cases hh
                    · next c8 =>
                      split at hh
                      · cases hh
                      · next j Y' Q' hq =>
                        split at hh
                        · cases hh
                          have hx' := hxx _ _ _ _ _ _ _ _ hq
                          simp only at hx'
                          have hY'l := hx'.1
                          rw [len1] at hY'l
                          have hgr : Y'.1.getD X.1.length default = grP (decide (pK tp n i = 45)) (br || decide (pK tp n i = 45)) sa 1 0 := by
                            rw [hx'.2 _ (by rw [len1]; omega), getD_last]
                          have hPk : pKind (PP.getD X.1.length default) = 0 := by
                            rw [hPx]
                            show pKind (Y'.1.getD X.1.length default) = 0
                            rw [hgr]
                            rfl
                          have hend : gI σ (q + (2 + 4 * X.1.length)) 6 = nI Y'.1.length := hx.2.2.2.2.2.2.1
                          obtain ⟨g', rfl⟩ : ∃ g', g = g' + 1 := ⟨g - 1, by omega⟩
                          have hagY : ∀ j, (X.1 ++ [grP (decide (pK tp n i = 45)) (br || decide (pK tp n i = 45)) sa 1 0]).length ≤ j → j < Y'.1.length → PP.getD j default = Y'.1.getD j default := fun j h1 h2 => by
                            rw [len1] at h1
                            have := hagZ j (by omega) (by show j < (Y'.1.set _ _).length; rw [List.length_set]; exact h2)
                            rw [this]
                            show (Y'.1.set X.1.length _).getD j default = _
                            rw [getD_setN (by omega)]
                          have hYle : Y'.1.length ≤ PP.length := by
                            have hZl : (Y'.1.set X.1.length (setBE (Y'.1.getD X.1.length default) b Y'.1.length)).length ≤ Y.1.length := hZl
                            rw [List.length_set] at hZl
                            omega
                          have hI := Qu_any ht hn hT hdd hS hdoc k (d + 1) _ _ _ _ _ _ _ _ hq (pE_b hi1).2 (by omega) hYle hagY g' Y'.1.length none none (by omega) (Nat.le_refl _) hYle (fun _ => ⟨rfl, rfl⟩) (fun z => by cases z) (fun w z => by cases z) (fun w z => by cases z)
                          obtain ⟨hI1, hI2, hI3⟩ := hI
                          refine ⟨eitS (Q'.2.2.1 dd) (Q'.2.2.2 dd), ?_, rfl, eitS_cap hI2 hI3⟩
                          rw [hPk, if_neg (fun z => z rfl), ldI_ok pk.1, hend]
                          simp only [Option.bind_some, chk_ok tq]
                          rw [show (1 : Int32) = nI 1 from rfl, nI_add, nI_add]
                          show (Qu_scoreOfAny_s (Qu_scoreOfAny g') σ q (nI (X.1.length + 1)) (nI Y'.1.length) (some a) (nI (d + 1))).bind (fun v13 => some v13) = _
                          unfold Qu_scoreOfAny_s
                          rw [if_pos (show nI (d + 1) ≤ 8 from (iLe (b := 8) (by omega) (by omega)).mpr (by omega))]
                          have e0 : maxI (nI (X.1.length + 1)) 0 = nI (X.1.length + 1) := by
                            rw [show (0 : Int32) = nI 0 from rfl, iMax (by omega) (by omega), Nat.max_eq_left (by omega)]
                          rw [e0]
                          have hst : (X.1 ++ [grP (decide (pK tp n i = 45)) (br || decide (pK tp n i = 45)) sa 1 0]).length = X.1.length + 1 := len1
                          simp only [hst] at hI1
                          have hI1 : lp (fun z : Int32 × Int32 × Int32 => Qu_scoreOfAny_l22 (Qu_scoreOfAny g') σ q (nI Y'.1.length) (some a) (nI (d + 1)) z.1 z.2.1 z.2.2) (-1, -1, nI (X.1.length + 1)) = _ := hI1
                          rw [hI1]
                          have hex : Qu_scoreOfAny_l22 (Qu_scoreOfAny g') σ q (nI Y'.1.length) (some a) (nI (d + 1)) (enO (Q'.2.2.1 dd)) (enO (Q'.2.2.2 dd)) (nI Y'.1.length) = some (.inr (enO (Q'.2.2.1 dd), enO (Q'.2.2.2 dd))) := by
                            unfold Qu_scoreOfAny_l22
                            rw [if_pos ((iLe (by omega) (by omega)).mpr (Nat.le_refl _))]
                          rw [lp_out (f := fun z : Int32 × Int32 × Int32 => Qu_scoreOfAny_l22 (Qu_scoreOfAny g') σ q (nI Y'.1.length) (some a) (nI (d + 1)) z.1 z.2.1 z.2.2) (a := (enO (Q'.2.2.1 dd), enO (Q'.2.2.2 dd), nI Y'.1.length)) hex]
                          simp only [Option.bind_some]
                          rw [E_eitherScore_ok hI2 hI3]
                          rfl
                        · cases hh
                  · rw [if_neg c40] at hh
                    split at hh
                    · cases hh
                    · next j y hq =>
                      have hy := qAtom_ok ht hn hi1 hq
                      cases hh
                      have hyP : PP.getD X.1.length default = setBE (atP y (decide (pK tp n i = 45)) (br || decide (pK tp n i = 45)) sa 1 0) b (X.1 ++ [atP y (decide (pK tp n i = 45)) (br || decide (pK tp n i = 45)) sa 1 0]).length := by
                        rw [hPx]
                        show setBE ((X.1 ++ [atP y _ _ sa 1 0]).getD X.1.length default) b _ = _
                        rw [getD_last]
                      have hkn := qHd_kind hy (ng := decide (pK tp n i = 45)) (br := br || decide (pK tp n i = 45)) (sa := sa) (b := b) (en := (X.1 ++ [atP y (decide (pK tp n i = 45)) (br || decide (pK tp n i = 45)) sa 1 0]).length)
                      rw [← hyP] at hkn
                      have hmem := getD_mem (d := default) hidx
                      have hox := hS.2.2.1 _ hmem
                      have hk4 := hox.1
                      have hsco := Pa_scoreOf_ok hdoc hT hdd pk (hC.2.2 X.1.length hidx) hox (hS.2.2.2.1 _ hmem) (hS.2.2.2.2 _ hidx) hkn
                      have hev : evP D v (PP.getD X.1.length default) dd = evA D v y dd := by
                        rw [hyP]
                        exact evP_at _ _ _ _ _
                      have hxl : (pTms (PP.getD X.1.length default)).length ≤ 8 := (hC.2.2 X.1.length hidx).2.2.2.2.2.2.2.2.1
                      refine ⟨evA D v y dd, ?_, rfl, fun w hw => evP_le hT hdd hxl w (by rw [hev]; exact hw)⟩
                      have : ¬ nI (pKind (PP.getD X.1.length default)) = 0 := fun z => hkn ((iEq (b := 0) (by omega) (by omega)).mp z)
                      rw [if_pos this, chk_ok pk.1]
                      simp only [Option.bind_some]
                      rw [hsco, hev]
                      rfl
                obtain ⟨s, e1, e2, e3⟩ := hsc
                rw [Qu_part_end hS hidx e3 e1, hPx]
                show some (enO (timS b (if pNeg (Y2.1.getD X.1.length default) = true then negS s else s))) = some (enO (semB (decide (pK tp n i = 45)) b f2 dd))
                rw [x3.2.1, e2]
                rfl
              · rw [hx.2.2.2.2.1]
                exact x3.2.2.2
              · rw [hx.2.2.2.2.2.2.1]
                show nI Y2.1.length = nI (Y2.1.set _ _).length
                rw [List.length_set]
      obtain ⟨hp1, hp2, hp3, hp4⟩ := hpart
      -- a step of the loop
      have hstep : Qu_scoreOfAny_l22 (Qu_scoreOfAny g) σ q (nI to) (some a) (nI d) (enO c1) (enO c2) (nI X.1.length) = some (.inl (enO (if sa = true then eitS c1 c2 else c1), enO (if sa = true then f dd else bthS c2 (f dd)), nI Z.1.length)) := by
        obtain ⟨rp, pk⟩ := hQ.2.2.2 X.1.length (by omega)
        unfold Qu_scoreOfAny_l22
        rw [if_neg (fun z => by have := (iLe (by omega) (by omega)).mp z; omega)]
        simp only [ldI_ok tq, hC.1, Option.bind_some]
        rw [if_neg (fun z => by have := (iLe (by omega) (by omega)).mp z; omega)]
        simp only [ldR_ok tq, hQ.2.1, Option.bind_some]
        rw [raR_k (t := 7) ta (by rw [tb]; omega) (by omega), rp]
        simp only [Option.bind_some, chk_ok tq]
        rw [hp1]
        simp only [Option.bind_some, ldB_ok pk.1, ldI_ok pk.1, hp2, hp3]
        rw [show (1 : Int32) = nI 1 from rfl, nI_add, iMax (by omega) (by omega), Nat.max_eq_right (by omega)]
        cases sa with
        | true =>
          rw [if_pos rfl, if_pos rfl, if_pos rfl, E_eitherScore_ok hc1 hc2]
          rfl
        | false =>
          rw [if_neg (by decide), if_neg (by decide), if_neg (by decide), E_bothScore_ok hc2 hp4]
          rfl
      rw [lp_on (f := fun z : Int32 × Int32 × Int32 => Qu_scoreOfAny_l22 (Qu_scoreOfAny g) σ q (nI to) (some a) (nI d) z.1 z.2.1 z.2.2) (a := (enO c1, enO c2, nI X.1.length)) hstep]
      have hn1 : (if sa = true then eitS c1 c2 else c1) = L.2.2.1 dd := by
        cases sa with
        | true => rw [if_pos rfl]; exact (hsa rfl).1
        | false => rw [if_neg (by decide)]; exact (hsb rfl).1
      have hn2 : (if sa = true then f dd else bthS c2 (f dd)) = bthS (L.2.2.2 dd) (f dd) := by
        cases sa with
        | true => rw [if_pos rfl, (hsa rfl).2, bthS_0 hp4]
        | false => rw [if_neg (by decide), (hsb rfl).2]
      have hcap1 : ∀ w, L.2.2.1 dd = some w → w ≤ qCap := by
        rw [← hn1]
        cases sa with
        | true => rw [if_pos rfl]; exact eitS_cap hc1 hc2
        | false => rw [if_neg (by decide)]; exact hc1
      have hcap2 : ∀ w, bthS (L.2.2.2 dd) (f dd) = some w → w ≤ qCap := fun w hw => bthS_cap w hw
      rw [hn1, hn2]
      split at h
      · have hz := Qu_any ht hn hT hdd hS hdoc k d _ _ _ _ _ _ _ _ h (pE_b h3).2 hd8 hl (fun j h1 h2 => hag j (Nat.le_trans (Nat.le_of_lt hZlt) h1) h2) g to (L.2.2.1 dd) (bthS (L.2.2.2 dd) (f dd)) hg ht1 ht2 (fun _ => ⟨rfl, rfl⟩) (fun z => by cases z) hcap1 hcap2
        exact hz
      · split at h
        · exact Qu_any ht hn hT hdd hS hdoc k d _ _ _ _ _ _ _ _ h h3 hd8 hl (fun j h1 h2 => hag j (Nat.le_trans (Nat.le_of_lt hZlt) h1) h2) g to (L.2.2.1 dd) (bthS (L.2.2.2 dd) (f dd)) hg ht1 ht2 (fun z => by cases z) (fun _ => ⟨rfl, rfl⟩) hcap1 hcap2
        · cases h
          exact ⟨rfl, hcap1, hcap2⟩
/-- the whole query's score -/
theorem Qu_score_ok {σ : Mem} {q lo a dd : Nat} {D : List DocT} {v : VwT} {st sp : Bool} {tp : Nat → Nat} {n : Nat} (ht : ∀ j, j < 600 → tp j < 256) (hn : n ≤ 600) (hT : okTx D) (hdd : dd < D.length) {Y : QSt} {f : Sem} (hp : qParse st sp tp n (evA D v) = .inr (Y, f)) (hS : cSc σ q D v Y.1) (hdoc : isDoc lo σ a dd (dA D dd)) : Qu_scoreOfAny 20 σ q 0 (nI Y.1.length) (some a) 0 = some (enO (f dd)) ∧ ∀ w, f dd = some w → w ≤ qCap := by
  unfold qParse at hp
  split at hp
  · cases hp
  · next i Y' Q hq =>
    split at hp
    · cases hp
      obtain ⟨h1, h2, h3⟩ := Qu_any ht hn hT hdd hS hdoc 41 0 _ _ _ _ _ _ _ _ hq (Nat.zero_le _) (by decide) (Nat.le_refl _) (fun j _ _ => rfl) 19 Y'.1.length none none (by decide) (Nat.le_refl _) (Nat.le_refl _) (fun _ => ⟨rfl, rfl⟩) (fun z => by cases z) (fun w z => by cases z) (fun w z => by cases z)
      have hPl := hS.2.1.2.1
      have hPl : Y'.1.length ≤ 40 := hPl
      refine ⟨?_, eitS_cap h2 h3⟩
      show Qu_scoreOfAny_s (Qu_scoreOfAny 19) σ q 0 (nI Y'.1.length) (some a) 0 = _
      unfold Qu_scoreOfAny_s
      rw [if_pos (by decide)]
      have h1 : lp (fun z : Int32 × Int32 × Int32 => Qu_scoreOfAny_l22 (Qu_scoreOfAny 19) σ q (nI Y'.1.length) (some a) 0 z.1 z.2.1 z.2.2) (-1, -1, maxI 0 0) = _ := h1
      rw [h1]
      have hex : Qu_scoreOfAny_l22 (Qu_scoreOfAny 19) σ q (nI Y'.1.length) (some a) 0 (enO (Q.2.2.1 dd)) (enO (Q.2.2.2 dd)) (nI Y'.1.length) = some (.inr (enO (Q.2.2.1 dd), enO (Q.2.2.2 dd))) := by
        unfold Qu_scoreOfAny_l22
        rw [if_pos ((iLe (by omega) (by omega)).mpr (Nat.le_refl _))]
      rw [lp_out (f := fun z : Int32 × Int32 × Int32 => Qu_scoreOfAny_l22 (Qu_scoreOfAny 19) σ q (nI Y'.1.length) (some a) (nI 0) z.1 z.2.1 z.2.2) (a := (enO (Q.2.2.1 dd), enO (Q.2.2.2 dd), nI Y'.1.length)) hex]
      simp only [Option.bind_some]
      rw [E_eitherScore_ok h2 h3]
      rfl
    · cases hp
