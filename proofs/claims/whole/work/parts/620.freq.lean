/-! HOLDERS of a term; frequency, of both -/
theorem cN_take {P : Nat → Bool} (l : List Nat) : ∀ i, i ≤ l.length → cN (fun k => P (l.getD k 0)) i = (l.take i).countP P
  | 0, _ => rfl
  | i + 1, h => by
    rw [cN_s, cN_take l i (by omega), take_s (by omega), List.countP_append]
    simp [List.countP_cons]
theorem cN_cnt {P : Nat → Bool} (l : List Nat) : cN (fun k => P (l.getD k 0)) l.length = l.countP P := by
  have := cN_take (P := P) l l.length (Nat.le_refl _)
  rwa [List.take_length] at this
theorem sN_flat {P : Nat → Bool} (L : List (List Nat)) : ∀ i, i ≤ L.length → sN (fun j => cN (fun k => P ((L.getD j []).getD k 0)) (L.getD j []).length) i = ((L.take i).flatten).countP P
  | 0, _ => rfl
  | i + 1, h => by
    have e : L.take (i + 1) = L.take i ++ [L.getD i []] := by
      rw [List.take_add_one, List.getElem?_eq_getElem (show i < L.length by omega), Option.toList_some, List.getD_eq_getElem?_getD, List.getElem?_eq_getElem (show i < L.length by omega)]
      rfl
    rw [sN, sN_flat L i (by omega), e, List.flatten_append, List.countP_append, cN_cnt]
    simp
/-- how many documents of a view have a term in a field -/
def hasT (D : List DocT) (f t d : Nat) : Bool := decide (0 < tcn (dTok (dA D d) f) t)
def dfS (D : List DocT) (v : VwT) (f t : Nat) : Nat := cN (fun k => hasT D f t ((vDocs v).getD k 0)) (vDocs v).length
theorem dfS_segs (D : List DocT) (v : VwT) (f t : Nat) : sN (fun j => sgc D ((vSegs v).getD j []) f t) (vSegs v).length = dfS D v f t := by
  unfold dfS
  rw [cN_cnt (P := hasT D f t)]
  have := sN_flat (P := hasT D f t) (vSegs v) (vSegs v).length (Nat.le_refl _)
  rw [List.take_length] at this
  exact this
theorem Vi_termsOf_ok {e : Nat} {da : Nat → Nat} {σ : Mem} {st sp : Bool} {D : List DocT} {i : Nat} {v : VwT} (hF : cFix e σ st sp) (hV : cView e da σ D i v) (hi : i < 4) (ho : v.1 = true) {j f : Nat} (hj : j < (vSegs v).length) (hf : f < 2) : ∃ w, Vi_termsOf σ (e + (8 + 4 * i)) (nI j) (nI f) = some (some w) ∧ isVoc (e + 401) σ w (sgc D ((vSegs v).getD j []) f) := by
  obtain ⟨v1, v2, v3, v4, v5, v6, v7⟩ := hV.2 ho
  obtain ⟨s, l, c1, q, a, b, s1, s2, s3, s4, s5, s6, s7, s8, s9⟩ := v3 j hj
  obtain ⟨tv, ⟨tc, tc'⟩, -, -⟩ := hF.vt hi
  obtain ⟨-, ra, -, -⟩ := hF.va hi
  have ts := s1.t
  have hf01 : f = 0 ∨ f = 1 := by omega
  unfold Vi_termsOf
  simp (disch := first | assumption | omega | (simp only [gT_sI, gT_sL, gT_sR, gT_sB]; first | assumption | omega)) only [Option.bind_some, ldI_ok, ldL_ok, ldR_ok, ldB_ok, stI_ok, stL_ok, stR_ok, stB_ok, chk_ok, raI_k, raL_k, raR_k, raB_k, waI_k, waL_k, waB_k, waR_k, alen_k, gT_sI, gT_sL, gT_sR, gT_sB, gN_sI, gN_sL, gN_sR, gN_sB, gI_sL, gI_sR, gI_sB, gL_sI, gL_sR, gL_sB, gR_sI, gR_sL, gR_sB, gB_sI, gB_sL, gB_sR, gI_sIs, gL_sLs, gR_sRs, gB_sBs, gI_sIn, gL_sLn, gR_sRn, gB_sBn, rdI_ok, rdL_ok, rdB_ok, wrI_ok, wrL_ok, wrB_ok, nl, nI_add, nI_mul, iSub, iEq, iLe, iLt, iEqN, iNEq, iNN, iLtN, iNLt, iLeN, iNLe, iAddN, iNAdd, iMin, iMax, iDiv, iRem, v1, ra, c1]
  rw [if_neg (by omega), if_neg (by omega), if_neg (by simp)]
  unfold Se_termsOf_
  rcases hf01 with rfl | rfl
  · simp (disch := first | assumption | omega | (simp only [gT_sI, gT_sL, gT_sR, gT_sB]; first | assumption | omega)) only [Option.bind_some, ldI_ok, ldL_ok, ldR_ok, ldB_ok, stI_ok, stL_ok, stR_ok, stB_ok, chk_ok, raI_k, raL_k, raR_k, raB_k, waI_k, waL_k, waB_k, waR_k, alen_k, gT_sI, gT_sL, gT_sR, gT_sB, gN_sI, gN_sL, gN_sR, gN_sB, gI_sL, gI_sR, gI_sB, gL_sI, gL_sR, gL_sB, gR_sI, gR_sL, gR_sB, gB_sI, gB_sL, gB_sR, gI_sIs, gL_sLs, gR_sRs, gB_sBs, gI_sIn, gL_sLn, gR_sRn, gB_sBn, rdI_ok, rdL_ok, rdB_ok, wrI_ok, wrL_ok, wrB_ok, nl, nI_add, nI_mul, iSub, iEq, iLe, iLt, iEqN, iNEq, iNN, iLtN, iNLt, iLeN, iNLe, iAddN, iNAdd, iMin, iMax, iDiv, iRem, s4, s5]
    exact ⟨a, by simp, s8⟩
  · simp (disch := first | assumption | omega | (simp only [gT_sI, gT_sL, gT_sR, gT_sB]; first | assumption | omega)) only [Option.bind_some, ldI_ok, ldL_ok, ldR_ok, ldB_ok, stI_ok, stL_ok, stR_ok, stB_ok, chk_ok, raI_k, raL_k, raR_k, raB_k, waI_k, waL_k, waB_k, waR_k, alen_k, gT_sI, gT_sL, gT_sR, gT_sB, gN_sI, gN_sL, gN_sR, gN_sB, gI_sL, gI_sR, gI_sB, gL_sI, gL_sR, gL_sB, gR_sI, gR_sL, gR_sB, gB_sI, gB_sL, gB_sR, gI_sIs, gL_sLs, gR_sRs, gB_sBs, gI_sIn, gL_sLn, gR_sRn, gB_sBn, rdI_ok, rdL_ok, rdB_ok, wrI_ok, wrL_ok, wrB_ok, nl, nI_add, nI_mul, iSub, iEq, iLe, iLt, iEqN, iNEq, iNN, iLtN, iNLt, iLeN, iNLe, iAddN, iNAdd, iMin, iMax, iDiv, iRem, s4, s5]
    exact ⟨b, by simp, s9⟩
theorem Vi_holders_ok {e : Nat} {da : Nat → Nat} {σ : Mem} {st sp : Bool} {D : List DocT} {i : Nat} {v : VwT} (hF : cFix e σ st sp) (hV : cView e da σ D i v) (hi : i < 4) (ho : v.1 = true) {f t : Nat} (hf : f < 2) (ht : t < 9223372036854775808) : Vi_holders σ (e + (8 + 4 * i)) (nI f) (lN t) = some (nI (if t = 0 then 0 else dfS D v f t)) := by
  obtain ⟨v1, v2, -⟩ := hV.2 ho
  obtain ⟨tv, -⟩ := hF.vt hi
  have hlp : lp (fun q : Int32 × Int32 => Vi_holders_l6 σ (e + (8 + 4 * i)) (nI f) (lN t) q.1 q.2) (nI 0, nI 0) = some (nI (sN (fun j => if t = 0 then 0 else sgc D ((vSegs v).getD j []) f t) (vSegs v).length)) := by
    refine lp_sum (c := fun j => if t = 0 then 0 else sgc D ((vSegs v).getD j []) f t) (vSegs v).length 0 (fun j hj => ?_) ?_
    · rw [Nat.zero_add]
      obtain ⟨w, e1, e2⟩ := Vi_termsOf_ok hF hV hi ho hj hf
      have tw := e2.t
      unfold Vi_holders_l6
      simp (disch := first | assumption | omega | (simp only [gT_sI, gT_sL, gT_sR, gT_sB]; first | assumption | omega)) only [Option.bind_some, ldI_ok, ldL_ok, ldR_ok, ldB_ok, stI_ok, stL_ok, stR_ok, stB_ok, chk_ok, raI_k, raL_k, raR_k, raB_k, waI_k, waL_k, waB_k, waR_k, alen_k, gT_sI, gT_sL, gT_sR, gT_sB, gN_sI, gN_sL, gN_sR, gN_sB, gI_sL, gI_sR, gI_sB, gL_sI, gL_sR, gL_sB, gR_sI, gR_sL, gR_sB, gB_sI, gB_sL, gB_sR, gI_sIs, gL_sLs, gR_sRs, gB_sBs, gI_sIn, gL_sLn, gR_sRn, gB_sBn, rdI_ok, rdL_ok, rdB_ok, wrI_ok, wrL_ok, wrB_ok, v1]
      simp only [iLe (show (vSegs v).length < 2147483648 by omega) (show j < 2147483648 by omega)]
      rw [if_neg (by omega), e1]
      simp only [Option.bind_some]
      rw [if_neg (by simp), chk_ok tw]
      simp only [Option.bind_some]
      rw [Vo_countOf_ok e2 ht]
      simp only [Option.bind_some, nl, nI_add]
    · rw [Nat.zero_add]
      unfold Vi_holders_l6
      simp (disch := first | assumption | omega | (simp only [gT_sI, gT_sL, gT_sR, gT_sB]; first | assumption | omega)) only [Option.bind_some, ldI_ok, ldL_ok, ldR_ok, ldB_ok, stI_ok, stL_ok, stR_ok, stB_ok, chk_ok, raI_k, raL_k, raR_k, raB_k, waI_k, waL_k, waB_k, waR_k, alen_k, gT_sI, gT_sL, gT_sR, gT_sB, gN_sI, gN_sL, gN_sR, gN_sB, gI_sL, gI_sR, gI_sB, gL_sI, gL_sR, gL_sB, gR_sI, gR_sL, gR_sB, gB_sI, gB_sL, gB_sR, gI_sIs, gL_sLs, gR_sRs, gB_sBs, gI_sIn, gL_sLn, gR_sRn, gB_sBn, rdI_ok, rdL_ok, rdB_ok, wrI_ok, wrL_ok, wrB_ok, v1]
      simp only [iLe (show (vSegs v).length < 2147483648 by omega) (show (vSegs v).length < 2147483648 by omega)]
      rw [if_pos (Nat.le_refl _)]
  unfold Vi_holders
  rw [show (0 : Int32) = nI 0 from rfl, hlp]
  simp only [Option.bind_some]
  congr 2
  by_cases q : t = 0
  · simp only [q, if_true]
    exact sN_zero.mpr (fun _ _ => rfl)
  · simp only [q, if_false]
    exact dfS_segs D v f t
/-- the reference: words beside, tokens -/
def rWd (R : RS) (w : Nat) (t : List Nat) : Prop := R.1 33 w = nI t.length ∧ ∀ k, k < t.length → R.1 34 (12 * w + k) = nI (t.getD k 0)
def okTx (D : List DocT) : Prop := ∀ i f, i < D.length → f < 2 → (dTok (dA D i) f).length ≤ 50 + 150 * f ∧ ∀ t, t ∈ dTok (dA D i) f → okTok t
/-- tokens compared with a row of bytes from a place of another row on -/
theorem cmp_lp {f : Bool × Int32 → Option ((Bool × Int32) ⊕ Bool)} {a b : List Nat} {b0 : Bool} {n : Nat} (hs : b0 = true → ∀ k, k < n → f (true, nI k) = some (.inl (decide (a.getD k 0 = b.getD k 0), nI (k + 1)))) (hf : ∀ k, k < n → f (false, nI k) = some (.inr false)) (he : ∀ x, f (x, nI n) = some (.inr x)) : lp f (b0, nI 0) = some (b0 && decide (∀ k, k < n → a.getD k 0 = b.getD k 0)) := by
  cases b0 with
  | false =>
    rw [Bool.false_and]
    by_cases h0 : 0 < n
    · exact lp_out (hf 0 h0)
    · have : n = 0 := by omega
      subst this
      exact lp_out (he false)
  | true =>
    rw [Bool.true_and]
    have := lp_for (f := f) (fun k (x : Bool) => (x, nI k)) n (fun k x => x = decide (∀ j, j < k → a.getD j 0 = b.getD j 0)) (fun r => r = decide (∀ j, j < n → a.getD j 0 = b.getD j 0)) (fun k x hk hI => ?_) (fun x hI => ⟨x, he x, hI⟩) n 0 true (by omega) (by simp)
    · obtain ⟨r, h1, rfl⟩ := this
      exact h1
    · subst hI
      by_cases c : ∀ j, j < k → a.getD j 0 = b.getD j 0
      · left
        rw [decide_eq_true c]
        refine ⟨_, hs rfl k hk, ?_⟩
        rw [decide_eq_decide]
        constructor
        · intro q j hj
          by_cases z : j = k
          · rw [z]; exact q
          · exact c j (by omega)
        · intro q
          exact q k (by omega)
      · right
        rw [decide_eq_false c]
        refine ⟨false, hf k hk, ?_⟩
        symm
        rw [decide_eq_false_iff_not]
        intro q
        exact c (fun j hj => q j (by omega))
theorem term_eq {a b : List Nat} : (a.length = b.length ∧ ∀ k, k < b.length → a.getD k 0 = b.getD k 0) ↔ a = b := by
  constructor
  · rintro ⟨h1, h2⟩
    exact ext_getD h1 (fun k hk => h2 k (by omega))
  · rintro rfl
    exact ⟨rfl, fun _ _ => rfl⟩
theorem M_isToken_ok {R : RS} {D : List DocT} {dl : Nat → Bool} (hD : rDocs R D dl) (hDL : D.length ≤ 400) (hT : okTx D) {d f k w : Nat} (hd : d < D.length) (hf : f < 2) (hk : k < (dTok (dA D d) f).length) {t : List Nat} (hw : rWd R w t) (hw4 : w < 400) (ht : isTerm t) (hn : t ≠ []) : M_isToken R (nI (250 * d + 50 * f + k)) (nI w) = some (decide ((tA (dTok (dA D d) f) k).2.2 = t)) := by
  obtain ⟨hl, hok⟩ := hT d f hd hf
  have hto := hok _ (getD_mem (d := (0, 0, [])) hk)
  obtain ⟨u1, u2, u3, u4⟩ := (hD.2.2.2 d f hd hf).2 k hk
  have htm : isTerm (tA (dTok (dA D d) f) k).2.2 := hto.2.2
  clear hto
  have hl12 := htm.1
  have ht12 := ht.1
  obtain ⟨w1, w2⟩ := hw
  have htp : 0 < t.length := List.length_pos_iff.mpr hn
  have hu : 250 * d + 50 * f + k < 100000 := by omega
  generalize (tA (dTok (dA D d) f) k).2.2 = τ at *
  unfold M_isToken
  simp (disch := first | assumption | omega | (simp only [gT_sI, gT_sL, gT_sR, gT_sB]; first | assumption | omega)) only [Option.bind_some, ldI_ok, ldL_ok, ldR_ok, ldB_ok, stI_ok, stL_ok, stR_ok, stB_ok, chk_ok, raI_k, raL_k, raR_k, raB_k, waI_k, waL_k, waB_k, waR_k, alen_k, gT_sI, gT_sL, gT_sR, gT_sB, gN_sI, gN_sL, gN_sR, gN_sB, gI_sL, gI_sR, gI_sB, gL_sI, gL_sR, gL_sB, gR_sI, gR_sL, gR_sB, gB_sI, gB_sL, gB_sR, gI_sIs, gL_sLs, gR_sRs, gB_sBs, gI_sIn, gL_sLn, gR_sRn, gB_sBn, rdI_ok, rdL_ok, rdB_ok, wrI_ok, wrL_ok, wrB_ok, u3, w1]
  have e1 : (if ¬ nI τ.length = nI t.length then some false else if nI τ.length ≤ 0 then some false else some true) = some (decide (τ.length = t.length)) := by
    have c0 : (nI τ.length ≤ 0) = (τ.length ≤ 0) := iLe (b := 0) (by omega) (by omega)
    simp only [iEq (show τ.length < 2147483648 by omega) (show t.length < 2147483648 by omega), c0]
    by_cases c : τ.length = t.length
    · rw [if_neg (fun z => z c), if_neg (by omega)]
      simp [c]
    · rw [if_pos c]
      simp [c]
  rw [e1]
  simp only [Option.bind_some]
  have hlp := cmp_lp (f := fun q : Bool × Int32 => M_isToken_l33 R (nI (250 * d + 50 * f + k)) (nI w) q.1 q.2) (a := τ) (b := t) (b0 := decide (τ.length = t.length)) (n := t.length) (fun hb j hj => ?_) (fun j hj => ?_) (fun x => ?_)
  · rw [show (0 : Int32) = nI 0 from rfl, hlp]
    simp only [Option.bind_some]
    congr 1
    rw [← Bool.decide_and, decide_eq_decide]
    exact term_eq
  · have hb := of_decide_eq_true hb
    have v1 := u4 j (by omega)
    have v2 := w2 j hj
    have b1 := isTerm_at htm (k := j) (by omega)
    have b2 := isTerm_at ht (k := j) hj
    unfold isTb at b1 b2
    unfold M_isToken_l33
    simp (disch := first | assumption | omega | (simp only [gT_sI, gT_sL, gT_sR, gT_sB]; first | assumption | omega)) only [Option.bind_some, ldI_ok, ldL_ok, ldR_ok, ldB_ok, stI_ok, stL_ok, stR_ok, stB_ok, chk_ok, raI_k, raL_k, raR_k, raB_k, waI_k, waL_k, waB_k, waR_k, alen_k, gT_sI, gT_sL, gT_sR, gT_sB, gN_sI, gN_sL, gN_sR, gN_sB, gI_sL, gI_sR, gI_sB, gL_sI, gL_sR, gL_sB, gR_sI, gR_sL, gR_sB, gB_sI, gB_sL, gB_sR, gI_sIs, gL_sLs, gR_sRs, gB_sBs, gI_sIn, gL_sLn, gR_sRn, gB_sBn, rdI_ok, rdL_ok, rdB_ok, wrI_ok, wrL_ok, wrB_ok, w1]
    simp (disch := omega) only [nl, nI_add, nI_mul, iSub, iEq, iLe, iLt, iEqN, iNEq, iNN, iLtN, iNLt, iLeN, iNLe, iAddN, iNAdd, iMin, iMax, iDiv, iRem]
    rw [if_neg (by omega)]
    simp only [if_true]
    simp (disch := first | assumption | omega | (simp only [gT_sI, gT_sL, gT_sR, gT_sB]; first | assumption | omega)) only [Option.bind_some, ldI_ok, ldL_ok, ldR_ok, ldB_ok, stI_ok, stL_ok, stR_ok, stB_ok, chk_ok, raI_k, raL_k, raR_k, raB_k, waI_k, waL_k, waB_k, waR_k, alen_k, gT_sI, gT_sL, gT_sR, gT_sB, gN_sI, gN_sL, gN_sR, gN_sB, gI_sL, gI_sR, gI_sB, gL_sI, gL_sR, gL_sB, gR_sI, gR_sL, gR_sB, gB_sI, gB_sL, gB_sR, gI_sIs, gL_sLs, gR_sRs, gB_sBs, gI_sIn, gL_sLn, gR_sRn, gB_sBn, rdI_ok, rdL_ok, rdB_ok, wrI_ok, wrL_ok, wrB_ok, v1, v2]
    simp only [iEq (show τ.getD j 0 < 2147483648 by omega) (show t.getD j 0 < 2147483648 by omega)]
    by_cases c : τ.getD j 0 = t.getD j 0
    · simp only [c, if_true, if_false, not_true_eq_false, not_false_eq_true, true_and, and_true, false_and, and_false, true_or, or_true, false_or, or_false, decide_true, decide_false, Bool.false_eq_true, reduceCtorEq, Option.bind_some, Option.map_some, Option.map_none, Option.bind_none, jn_l, jn_r, jn_n, se_l, se_r, nl, nI_add]
    · simp only [c, if_true, if_false, not_true_eq_false, not_false_eq_true, true_and, and_true, false_and, and_false, true_or, or_true, false_or, or_false, decide_true, decide_false, Bool.false_eq_true, reduceCtorEq, Option.bind_some, Option.map_some, Option.map_none, Option.bind_none, jn_l, jn_r, jn_n, se_l, se_r, nl, nI_add]
  · unfold M_isToken_l33
    simp (disch := first | assumption | omega | (simp only [gT_sI, gT_sL, gT_sR, gT_sB]; first | assumption | omega)) only [Option.bind_some, ldI_ok, ldL_ok, ldR_ok, ldB_ok, stI_ok, stL_ok, stR_ok, stB_ok, chk_ok, raI_k, raL_k, raR_k, raB_k, waI_k, waL_k, waB_k, waR_k, alen_k, gT_sI, gT_sL, gT_sR, gT_sB, gN_sI, gN_sL, gN_sR, gN_sB, gI_sL, gI_sR, gI_sB, gL_sI, gL_sR, gL_sB, gR_sI, gR_sL, gR_sB, gB_sI, gB_sL, gB_sR, gI_sIs, gL_sLs, gR_sRs, gB_sBs, gI_sIn, gL_sLn, gR_sRn, gB_sBn, rdI_ok, rdL_ok, rdB_ok, wrI_ok, wrL_ok, wrB_ok, w1]
    simp (disch := omega) only [nl, nI_add, nI_mul, iSub, iEq, iLe, iLt, iEqN, iNEq, iNN, iLtN, iNLt, iLeN, iNLe, iAddN, iNAdd, iMin, iMax, iDiv, iRem]
    rw [if_neg (by omega)]
    simp
  · unfold M_isToken_l33
    simp (disch := first | assumption | omega | (simp only [gT_sI, gT_sL, gT_sR, gT_sB]; first | assumption | omega)) only [Option.bind_some, ldI_ok, ldL_ok, ldR_ok, ldB_ok, stI_ok, stL_ok, stR_ok, stB_ok, chk_ok, raI_k, raL_k, raR_k, raB_k, waI_k, waL_k, waB_k, waR_k, alen_k, gT_sI, gT_sL, gT_sR, gT_sB, gN_sI, gN_sL, gN_sR, gN_sB, gI_sL, gI_sR, gI_sB, gL_sI, gL_sR, gL_sB, gR_sI, gR_sL, gR_sB, gB_sI, gB_sL, gB_sR, gI_sIs, gL_sLs, gR_sRs, gB_sBs, gI_sIn, gL_sLn, gR_sRn, gB_sBn, rdI_ok, rdL_ok, rdB_ok, wrI_ok, wrL_ok, wrB_ok, w1]
    simp (disch := omega) only [nl, nI_add, nI_mul, iSub, iEq, iLe, iLt, iEqN, iNEq, iNN, iLtN, iNLt, iLeN, iNLe, iAddN, iNAdd, iMin, iMax, iDiv, iRem]
    rw [if_pos (by omega)]
theorem M_tf_ok {R : RS} {D : List DocT} {dl : Nat → Bool} (hD : rDocs R D dl) (hDL : D.length ≤ 400) (hT : okTx D) {d f w : Nat} (hd : d < D.length) (hf : f < 2) {t : List Nat} (hw : rWd R w t) (hw4 : w < 400) (ht : isTerm t) (hn : t ≠ []) : M_tf R (nI d) (nI f) (nI w) = some (nI (tcn (dTok (dA D d) f) (enc t))) := by
  obtain ⟨hl, hok⟩ := hT d f hd hf
  obtain ⟨u0, -⟩ := hD.2.2.2 d f hd hf
  have hlp : lp (fun q : Int32 × Int32 => M_tf_l6 R (nI d) (nI f) (nI w) q.1 q.2) (nI 0, nI 0) = some (nI (tcn (dTok (dA D d) f) (enc t))) := by
    refine lp_sum (c := fun k => if decide (enc (tA (dTok (dA D d) f) k).2.2 = enc t) = true then 1 else 0) (dTok (dA D d) f).length 0 (fun k hk => ?_) ?_
    · rw [Nat.zero_add]
      have htm : isTerm (tA (dTok (dA D d) f) k).2.2 := (hok _ (getD_mem hk)).2.2
      have hmt := M_isToken_ok hD hDL hT hd hf hk hw hw4 ht hn
      unfold M_tf_l6 M_base
      simp (disch := first | assumption | omega | (simp only [gT_sI, gT_sL, gT_sR, gT_sB]; first | assumption | omega)) only [Option.bind_some, ldI_ok, ldL_ok, ldR_ok, ldB_ok, stI_ok, stL_ok, stR_ok, stB_ok, chk_ok, raI_k, raL_k, raR_k, raB_k, waI_k, waL_k, waB_k, waR_k, alen_k, gT_sI, gT_sL, gT_sR, gT_sB, gN_sI, gN_sL, gN_sR, gN_sB, gI_sL, gI_sR, gI_sB, gL_sI, gL_sR, gL_sB, gR_sI, gR_sL, gR_sB, gB_sI, gB_sL, gB_sR, gI_sIs, gL_sLs, gR_sRs, gB_sBs, gI_sIn, gL_sLn, gR_sRn, gB_sBn, rdI_ok, rdL_ok, rdB_ok, wrI_ok, wrL_ok, wrB_ok, nl, nI_add, nI_mul, iSub, iEq, iLe, iLt, iEqN, iNEq, iNN, iLtN, iNLt, iLeN, iNLe, iAddN, iNAdd, iMin, iMax, iDiv, iRem, u0]
      rw [if_neg (by omega), hmt]
      have e : decide ((tA (dTok (dA D d) f) k).2.2 = t) = decide (enc (tA (dTok (dA D d) f) k).2.2 = enc t) := by
        rw [decide_eq_decide]
        exact ⟨fun q => by rw [q], fun q => enc_inj htm ht q⟩
      rw [e]
      by_cases c : enc (tA (dTok (dA D d) f) k).2.2 = enc t
      · simp only [c, if_true, if_false, not_true_eq_false, not_false_eq_true, true_and, and_true, false_and, and_false, true_or, or_true, false_or, or_false, decide_true, decide_false, Bool.false_eq_true, reduceCtorEq, Option.bind_some, Option.map_some, Option.map_none, Option.bind_none, jn_l, jn_r, jn_n, se_l, se_r, nI_add]
      · simp only [c, if_true, if_false, not_true_eq_false, not_false_eq_true, true_and, and_true, false_and, and_false, true_or, or_true, false_or, or_false, decide_true, decide_false, Bool.false_eq_true, reduceCtorEq, Option.bind_some, Option.map_some, Option.map_none, Option.bind_none, jn_l, jn_r, jn_n, se_l, se_r, nI_add]
    · rw [Nat.zero_add]
      unfold M_tf_l6
      simp (disch := first | assumption | omega | (simp only [gT_sI, gT_sL, gT_sR, gT_sB]; first | assumption | omega)) only [Option.bind_some, ldI_ok, ldL_ok, ldR_ok, ldB_ok, stI_ok, stL_ok, stR_ok, stB_ok, chk_ok, raI_k, raL_k, raR_k, raB_k, waI_k, waL_k, waB_k, waR_k, alen_k, gT_sI, gT_sL, gT_sR, gT_sB, gN_sI, gN_sL, gN_sR, gN_sB, gI_sL, gI_sR, gI_sB, gL_sI, gL_sR, gL_sB, gR_sI, gR_sL, gR_sB, gB_sI, gB_sL, gB_sR, gI_sIs, gL_sLs, gR_sRs, gB_sBs, gI_sIn, gL_sLn, gR_sRn, gB_sBn, rdI_ok, rdL_ok, rdB_ok, wrI_ok, wrL_ok, wrB_ok, nl, nI_add, nI_mul, iSub, iEq, iLe, iLt, iEqN, iNEq, iNN, iLtN, iNLt, iLeN, iNLe, iAddN, iNAdd, iMin, iMax, iDiv, iRem, u0]
      rw [if_pos (by omega)]
      rfl
  unfold M_tf
  rw [show (0 : Int32) = nI 0 from rfl, hlp]
  rfl
theorem M_df_ok {R : RS} {D : List DocT} {dl : Nat → Bool} (hD : rDocs R D dl) (hDL : D.length ≤ 400) (hT : okTx D) {i f w : Nat} {v : VwT} (hi : i < 4) (hV : rView R i v) (ho : v.1 = true) (hVd : ∀ d, d ∈ vDocs v → d < D.length) (hVl : (vDocs v).length ≤ 400) (hf : f < 2) {t : List Nat} (hw : rWd R w t) (hw4 : w < 400) (ht : isTerm t) (hn : t ≠ []) : M_df R (nI i) (nI f) (nI w) = some (nI (dfS D v f (enc t))) := by
  obtain ⟨v1, v2, v3⟩ := hV.2 ho
  have hlp : lp (fun q : Int32 × Int32 => M_df_l6 R (nI i) (nI f) (nI w) q.1 q.2) (nI 0, nI 0) = some (nI (dfS D v f (enc t))) := by
    refine lp_sum (c := fun k => if hasT D f (enc t) ((vDocs v).getD k 0) = true then 1 else 0) (vDocs v).length 0 (fun k hk => ?_) ?_
    · rw [Nat.zero_add]
      have hd := hVd _ (getD_mem (d := 0) hk)
      have e1 := M_tf_ok hD hDL hT hd hf hw hw4 ht hn
      have v3k := (v3 k hk).1
      have hle := cN_le (fun j => decide (enc (tA (dTok (dA D ((vDocs v).getD k 0)) f) j).2.2 = enc t)) (dTok (dA D ((vDocs v).getD k 0)) f).length
      have hl := (hT _ f hd hf).1
      unfold M_df_l6
      simp (disch := first | assumption | omega | (simp only [gT_sI, gT_sL, gT_sR, gT_sB]; first | assumption | omega)) only [Option.bind_some, ldI_ok, ldL_ok, ldR_ok, ldB_ok, stI_ok, stL_ok, stR_ok, stB_ok, chk_ok, raI_k, raL_k, raR_k, raB_k, waI_k, waL_k, waB_k, waR_k, alen_k, gT_sI, gT_sL, gT_sR, gT_sB, gN_sI, gN_sL, gN_sR, gN_sB, gI_sL, gI_sR, gI_sB, gL_sI, gL_sR, gL_sB, gR_sI, gR_sL, gR_sB, gB_sI, gB_sL, gB_sR, gI_sIs, gL_sLs, gR_sRs, gB_sBs, gI_sIn, gL_sLn, gR_sRn, gB_sBn, rdI_ok, rdL_ok, rdB_ok, wrI_ok, wrL_ok, wrB_ok, nl, nI_add, nI_mul, iSub, iEq, iLe, iLt, iEqN, iNEq, iNN, iLtN, iNLt, iLeN, iNLe, iAddN, iNAdd, iMin, iMax, iDiv, iRem, v2, v3k]
      rw [if_neg (by omega), e1]
      unfold hasT
      have c0 : (nI (tcn (dTok (dA D ((vDocs v).getD k 0)) f) (enc t)) ≤ nI 0) = (tcn (dTok (dA D ((vDocs v).getD k 0)) f) (enc t) ≤ 0) := iLe (b := 0) (by unfold tcn; omega) (by omega)
      simp only [Option.bind_some, c0]
      by_cases c : 0 < tcn (dTok (dA D ((vDocs v).getD k 0)) f) (enc t)
      · have c' : ¬ tcn (dTok (dA D ((vDocs v).getD k 0)) f) (enc t) ≤ 0 := by omega
        simp only [c, c', if_true, if_false, not_true_eq_false, not_false_eq_true, true_and, and_true, false_and, and_false, true_or, or_true, false_or, or_false, decide_true, decide_false, Bool.false_eq_true, reduceCtorEq, Option.bind_some, Option.map_some, Option.map_none, Option.bind_none, jn_l, jn_r, jn_n, se_l, se_r, nl, nI_add]
      · have c' : tcn (dTok (dA D ((vDocs v).getD k 0)) f) (enc t) ≤ 0 := by omega
        simp only [c, c', if_true, if_false, not_true_eq_false, not_false_eq_true, true_and, and_true, false_and, and_false, true_or, or_true, false_or, or_false, decide_true, decide_false, Bool.false_eq_true, reduceCtorEq, Option.bind_some, Option.map_some, Option.map_none, Option.bind_none, jn_l, jn_r, jn_n, se_l, se_r, nl, nI_add]
    · rw [Nat.zero_add]
      unfold M_df_l6
      simp (disch := first | assumption | omega | (simp only [gT_sI, gT_sL, gT_sR, gT_sB]; first | assumption | omega)) only [Option.bind_some, ldI_ok, ldL_ok, ldR_ok, ldB_ok, stI_ok, stL_ok, stR_ok, stB_ok, chk_ok, raI_k, raL_k, raR_k, raB_k, waI_k, waL_k, waB_k, waR_k, alen_k, gT_sI, gT_sL, gT_sR, gT_sB, gN_sI, gN_sL, gN_sR, gN_sB, gI_sL, gI_sR, gI_sB, gL_sI, gL_sR, gL_sB, gR_sI, gR_sL, gR_sB, gB_sI, gB_sL, gB_sR, gI_sIs, gL_sLs, gR_sRs, gB_sBs, gI_sIn, gL_sLn, gR_sRn, gB_sBn, rdI_ok, rdL_ok, rdB_ok, wrI_ok, wrL_ok, wrB_ok, nl, nI_add, nI_mul, iSub, iEq, iLe, iLt, iEqN, iNEq, iNN, iLtN, iNLt, iLeN, iNLe, iAddN, iNAdd, iMin, iMax, iDiv, iRem, v2]
      rw [if_pos (by omega)]
      rfl
  unfold M_df
  rw [show (0 : Int32) = nI 0 from rfl, hlp]
  rfl
/-! frequency -/
def freqS (D : List DocT) (V : Nat → VwT) (st sp : Bool) (tp : Nat → Nat) (n : Nat) (x w : Int32) : Int32 := match vAt V x with
  | none => -2
  | some i => if (w = 0 ∨ w = 1) ∧ isW tp n = true then nI (if enc (mkT st sp tp 0 n) = 0 then 0 else dfS D (V i) (if w = 0 then 0 else 1) (enc (mkT st sp tp 0 n))) else -2
theorem isW_wd {tp : Nat → Nat} {n : Nat} (h : isW tp n = true) (hn : n ≤ 600) (hb : ∀ i, i < 600 → tp i < 256) : 0 < n ∧ isWd tp 0 n := by
  have h := of_decide_eq_true h
  refine ⟨h.1, fun i hi => ?_⟩
  rw [Nat.zero_add]
  exact ⟨hb i (by omega), h.2 i hi⟩
theorem cH_tp {e : Nat} {da : Nat → Nat} {σ : Mem} {tp : Nat → Nat} {n : Nat} {D : List DocT} {dl : Nat → Bool} {bs : Nat} {G : List SegT} {V : Nat → VwT} {A : AnT} {nr : Option (List Nat)} {mg : Nat} {st sp : Bool} (h : cH e da σ tp n D dl bs G V A nr mg st sp) : ∃ σ1, E_takeTape σ e = some (nI n, σ1) ∧ Kp (fun t a k => t = 0 ∧ a = e ∧ k = 2) σ σ1 ∧ gN σ1 = gN σ ∧ gU σ1 = gU σ ∧ cH e da σ1 tp 0 D dl bs G V A nr mg st sp := by
  obtain ⟨e1, k1, H1⟩ := cH_tape h
  exact ⟨_, e1, k1, rfl, rfl, H1⟩
theorem E_frequency_ok {e : Nat} {da : Nat → Nat} {σ : Mem} {tp : Nat → Nat} {n : Nat} {D : List DocT} {dl : Nat → Bool} {bs : Nat} {G : List SegT} {V : Nat → VwT} {A : AnT} {nr : Option (List Nat)} {mg : Nat} {st sp : Bool} (h : cH e da σ tp n D dl bs G V A nr mg st sp) (x w : Int32) : ∃ σ', E_frequency σ e x w = some (freqS D V st sp tp n x w, σ') ∧ ke e σ σ' ∧ gN σ' = gN σ ∧ gU σ' = gU σ ∧ cH e da σ' tp 0 D dl bs G V A nr mg st sp := by
  have t0 := iFix0 h.1
  have hn := h.2.1.1
  have hN := h.1.N
  obtain ⟨σ1, e1, k1, n1, u1, H1⟩ := cH_tp h
  have t01 := iFix0 H1.1
  refine ⟨σ1, ?_, ke.of k1 (fun t a k _ q => by omega), n1, u1, H1⟩
  have tA1 := H1.1.tape H1.2.1
  have hb : ∀ i, i < 600 → tp i < 256 := fun i hi => (tA1.2.2 i hi).1
  have r1 : gR (σ1) e 1 = some (e + 3) := H1.1.2.1.2.1
  have r0 : gR (σ1) e 0 = some (e + 1) := H1.1.2.1.1
  obtain ⟨sp1, -⟩ := H1.1.sp
  have t7 := sp1.1
  unfold E_frequency freqS
  rw [chk_ok t0]
  simp only [Option.bind_some]
  rw [e1]
  simp only [Option.bind_some]
  rw [chk_ok t01]
  simp only [Option.bind_some]
  rw [E_viewAt_ok H1.1 H1.2.2.2.2.2.1]
  cases hx : vAt V x with
  | none => rfl
  | some i =>
    obtain ⟨hi, rfl, ho⟩ := vAt_ok hx
    obtain ⟨tv, -⟩ := H1.1.vt hi
    simp only [Option.map_some, Option.bind_some, reduceCtorEq, if_false]
    by_cases hw : w = 0 ∨ w = 1
    · have e2 : ∀ (α : Type) (a b : Option (α ⊕ Unit)), (if w = 0 then some (Sum.inr ()) else if ¬ w = 1 then a else some (Sum.inr ())) = (some (Sum.inr ()) : Option (α ⊕ Unit)) := fun α a b => by
        rcases hw with q | q
        · rw [if_pos q]
        · by_cases z : w = 0
          · rw [if_pos z]
          · rw [if_neg z, if_neg (fun y => y q)]
      rw [e2 _ _ none]
      simp only [jn_r]
      rw [ldR_ok t01, r1]
      simp only [Option.bind_some]
      rw [Sp_isWord_ok tA1 hn]
      cases hW : isW tp n with
      | false =>
        simp only [Option.bind_some, Bool.false_eq_true, if_false, and_false]
      | true =>
        obtain ⟨hn0, hwd⟩ := isW_wd hW hn hb
        have hw' : w = 0 ∨ w = 1 := hw
        simp only [Option.bind_some, if_true, hw', and_self]
        rw [ldR_ok t01, r0]
        simp only [Option.bind_some]
        rw [chk_ok t7]
        simp only [Option.bind_some]
        rw [show (0 : Int32) = nI 0 from rfl, Sp_termOf_ok sp1 tA1 (by omega) hwd]
        simp only [Option.bind_some]
        rw [chk_ok tv]
        simp only [Option.bind_some]
        have hlt := enc_lt (mkT_term (st := st) (sp := sp) hwd).1
        have ew : w = nI (if w = nI 0 then 0 else 1) := by
          rcases hw with q | q
          · rw [q]; rfl
          · rw [q]; rfl
        have ef : (if w = nI 0 then 0 else 1) < 2 := by split <;> omega
        have := Vi_holders_ok H1.1 (H1.2.2.2.2.2.1 i hi) hi ho (f := if w = nI 0 then 0 else 1) (t := enc (mkT st sp tp 0 n)) ef (by omega)
        rw [← ew] at this
        rw [this]
        rfl
    · have z0 : ¬ w = 0 := fun q => hw (Or.inl q)
      have z1 : ¬ w = 1 := fun q => hw (Or.inr q)
      rw [if_neg z0, if_pos z1, if_neg (fun q => hw q.1)]
      rfl
theorem M_isWord_ok {R : RS} {tp : Nat → Nat} (h : rBy R tp) {n : Nat} (hn : n ≤ 600) : M_isWord R (nI n) = some (isW tp n) := by
  unfold M_isWord isW
  have c0 : (nI n ≤ 0) = (n ≤ 0) := iLe (b := 0) (by omega) (by omega)
  simp only [c0]
  have hlp := lp_for (f := fun q : Bool × Int32 => M_isWord_l12 R (nI n) q.1 q.2) (fun k (x : Bool) => (x, nI k)) n (fun k x => x = decide (0 < n ∧ ∀ i, i < k → isL (tp i) = true)) (fun r => r = decide (0 < n ∧ ∀ i, i < n → isL (tp i) = true)) (fun k x hk hI => ?_) (fun x hI => ?_) n 0 (decide (0 < n)) (by omega) (by simp)
  · obtain ⟨r, h1, rfl⟩ := hlp
    have e1 : (if n ≤ 0 then some false else some true) = some (decide (0 < n)) := by
      by_cases q : n ≤ 0
      · rw [if_pos q]; simp; omega
      · rw [if_neg q]; simp; omega
    rw [e1]
    simp only [Option.bind_some]
    rw [show (0 : Int32) = nI 0 from rfl, h1]
    rfl
  · left
    obtain ⟨b1, b2⟩ := h k (by omega)
    unfold M_isWord_l12
    simp only [iLe (show n < 2147483648 by omega) (show k < 2147483648 by omega)]
    rw [if_neg (by omega)]
    simp (disch := first | assumption | omega | (simp only [gT_sI, gT_sL, gT_sR, gT_sB]; first | assumption | omega)) only [Option.bind_some, ldI_ok, ldL_ok, ldR_ok, ldB_ok, stI_ok, stL_ok, stR_ok, stB_ok, chk_ok, raI_k, raL_k, raR_k, raB_k, waI_k, waL_k, waB_k, waR_k, alen_k, gT_sI, gT_sL, gT_sR, gT_sB, gN_sI, gN_sL, gN_sR, gN_sB, gI_sL, gI_sR, gI_sB, gL_sI, gL_sR, gL_sB, gR_sI, gR_sL, gR_sB, gB_sI, gB_sL, gB_sR, gI_sIs, gL_sLs, gR_sRs, gB_sBs, gI_sIn, gL_sLn, gR_sRn, gB_sBn, rdI_ok, rdL_ok, rdB_ok, wrI_ok, wrL_ok, wrB_ok, b2, M_isLetter_ok _ b1]
    refine ⟨x && isL (tp k), ?_, ?_⟩
    · cases x <;> cases isL (tp k) <;> simp [nl, nI_add]
    · rw [hI]
      by_cases q : isL (tp k) = true
      · rw [q, Bool.and_true, decide_eq_decide]
        constructor
        · rintro ⟨a, b⟩
          refine ⟨a, fun i hi => ?_⟩
          by_cases z : i = k
          · rw [z]; exact q
          · exact b i (by omega)
        · rintro ⟨a, b⟩
          exact ⟨a, fun i hi => b i (by omega)⟩
      · rw [Bool.eq_false_iff.mpr q, Bool.and_false]
        symm
        rw [decide_eq_false_iff_not]
        rintro ⟨a, b⟩
        exact q (b k (by omega))
  · refine ⟨x, ?_, hI⟩
    unfold M_isWord_l12
    simp only [iLe (show n < 2147483648 by omega) (show n < 2147483648 by omega)]
    rw [if_pos (Nat.le_refl _)]
