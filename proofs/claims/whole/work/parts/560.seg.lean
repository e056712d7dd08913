/-! SEGMENTS made -/
theorem cN_one {p : Nat → Bool} : ∀ n, (∀ i k, i < n → k < n → p i = true → p k = true → i = k) → cN p n ≤ 1
  | 0, _ => by simp [cN, sN]
  | n + 1, h => by
    rw [cN_s]
    by_cases e : p n = true
    · rw [if_pos e]
      have : cN p n = 0 := by
        apply Nat.eq_zero_of_not_pos
        intro q
        obtain ⟨k, h1, h2⟩ := cN_pos.mp q
        have := h k n (by omega) (by omega) h2 e
        omega
      omega
    · rw [if_neg e]
      exact cN_one n (fun i k h1 h2 => h i k (by omega) (by omega))
theorem sN_add (c : Nat → Nat) (a : Nat) : ∀ b, sN c (a + b) = sN c a + sN (fun i => c (a + i)) b
  | 0 => rfl
  | b + 1 => by
    rw [← Nat.add_assoc, sN, sN, sN_add c a b, Nat.add_assoc]
theorem cN_add (p : Nat → Bool) (a b : Nat) : cN p (a + b) = cN p a + cN (fun i => p (a + i)) b := sN_add _ a b
theorem sN_plus (c d : Nat → Nat) : ∀ n, sN (fun i => c i + d i) n = sN c n + sN d n
  | 0 => rfl
  | n + 1 => by rw [sN, sN, sN, sN_plus c d n]; omega
theorem sN_comm (f : Nat → Nat → Nat) (m : Nat) : ∀ n, sN (fun i => sN (fun k => f i k) m) n = sN (fun k => sN (fun i => f i k) n) m
  | 0 => (sN_zero.mpr (fun _ _ => rfl)).symm
  | n + 1 => by
    rw [sN, sN_comm f m n, ← sN_plus]
    rfl
theorem sN_mono {c d : Nat → Nat} : ∀ n, (∀ i, i < n → c i ≤ d i) → sN c n ≤ sN d n
  | 0, _ => Nat.le_refl _
  | n + 1, h => by
    have := sN_mono n (fun i hi => h i (by omega))
    have := h n (by omega)
    rw [sN, sN]
    omega
theorem sN_const (m : Nat) : ∀ n, sN (fun _ => m) n = n * m
  | 0 => by simp [sN]
  | n + 1 => by rw [sN, sN_const m n, Nat.succ_mul]
/-- a vocabulary of a text is no longer than the text -/
theorem vocE_len {E : List Nat} {ts : List Tok} (h : vocE E (tcn ts)) : E.length ≤ ts.length := by
  obtain ⟨-, hs, hm, -, -⟩ := h
  have h1 : sN (fun _ => 1) E.length ≤ sN (fun i => tcn ts (E.getD i 0)) E.length := sN_mono _ (fun i hi => ((hm _).mp (getD_mem hi)).2)
  rw [sN_const, Nat.mul_one] at h1
  have h2 : sN (fun i => tcn ts (E.getD i 0)) E.length = sN (fun k => sN (fun i => if decide (enc (tA ts k).2.2 = E.getD i 0) = true then 1 else 0) E.length) ts.length := sN_comm (fun i k => if decide (enc (tA ts k).2.2 = E.getD i 0) = true then 1 else 0) ts.length E.length
  have h3 := sN_mono (c := fun k => sN (fun i => if decide (enc (tA ts k).2.2 = E.getD i 0) = true then 1 else 0) E.length) (d := fun _ => 1) ts.length (fun k _ => cN_one (p := fun i => decide (enc (tA ts k).2.2 = E.getD i 0)) E.length (fun i j hi hj e1 e2 => by
    have e1 := of_decide_eq_true e1
    have e2 := of_decide_eq_true e2
    rcases Nat.lt_trichotomy i j with q | q | q
    · have := hs i j q hj; omega
    · exact q
    · have := hs j i q hi; omega))
  rw [sN_const, Nat.mul_one] at h3
  omega
def isVq (lo : Nat) (σ : Mem) (v : Nat) (E : List Nat) : Prop := ∃ q, hp lo σ v 10 0 ∧ gR σ v 0 = some q ∧ hp lo σ q 101 E.length ∧ (∀ i, i < E.length → gL σ q i = lN (E.getD i 0)) ∧ E.length < 1000000
theorem isVq.kp {lo v : Nat} {σ σ' : Mem} {W : Nat → Nat → Nat → Prop} {E : List Nat} (h : isVq lo σ v E) (hk : Kp W σ σ') (hw : Wh lo σ W) : isVq lo σ' v E := by
  obtain ⟨q, h1, h2, h3, h4, h5⟩ := h
  exact ⟨q, h1.kp hk, by rw [h1.R hk hw (by decide)]; exact h2, h3.kp hk, fun i hi => by rw [h3.L hk hw (by decide)]; exact h4 i hi, h5⟩
theorem isVq.size {lo v : Nat} {σ : Mem} {E : List Nat} (h : isVq lo σ v E) : Vo_size σ v = some (nI E.length) := by
  obtain ⟨q, h1, h2, h3, h4, h5⟩ := h
  have t1 := h1.t
  have t2 := h3.t
  unfold Vo_size
  simp (disch := first | assumption | omega | (simp only [gT_sI, gT_sL, gT_sR, gT_sB]; first | assumption | omega)) only [Option.bind_some, ldI_ok, ldL_ok, ldR_ok, ldB_ok, stI_ok, stL_ok, stR_ok, stB_ok, chk_ok, raI_k, raL_k, raR_k, raB_k, waI_k, waL_k, waB_k, waR_k, alen_k, gT_sI, gT_sL, gT_sR, gT_sB, gN_sI, gN_sL, gN_sR, gN_sB, gI_sL, gI_sR, gI_sB, gL_sI, gL_sR, gL_sB, gR_sI, gR_sL, gR_sB, gB_sI, gB_sL, gB_sR, gI_sIs, gL_sLs, gR_sRs, gB_sBs, gI_sIn, gL_sLn, gR_sRn, gB_sBn, rdI_ok, rdL_ok, rdB_ok, wrI_ok, wrL_ok, wrB_ok, h2, h3.m]
theorem isVq.at {lo v : Nat} {σ : Mem} {E : List Nat} (h : isVq lo σ v E) {i : Nat} (hi : i < E.length) : Vo_termAt σ v (nI i) = some (lN (E.getD i 0)) := by
  obtain ⟨q, h1, h2, h3, h4, h5⟩ := h
  have t1 := h1.t
  have t2 := h3.t
  have t3 := h3.m
  unfold Vo_termAt
  simp (disch := first | assumption | omega | (simp only [gT_sI, gT_sL, gT_sR, gT_sB]; first | assumption | omega)) only [Option.bind_some, ldI_ok, ldL_ok, ldR_ok, ldB_ok, stI_ok, stL_ok, stR_ok, stB_ok, chk_ok, raI_k, raL_k, raR_k, raB_k, waI_k, waL_k, waB_k, waR_k, alen_k, gT_sI, gT_sL, gT_sR, gT_sB, gN_sI, gN_sL, gN_sR, gN_sB, gI_sL, gI_sR, gI_sB, gL_sI, gL_sR, gL_sB, gR_sI, gR_sL, gR_sB, gB_sI, gB_sL, gB_sR, gI_sIs, gL_sLs, gR_sRs, gB_sBs, gI_sIn, gL_sLn, gR_sRn, gB_sBn, rdI_ok, rdL_ok, rdB_ok, wrI_ok, wrL_ok, wrB_ok, nl, nI_add, nI_mul, iSub, iEq, iLe, iLt, iEqN, iNEq, iNN, iLtN, iNLt, iLeN, iNLe, iAddN, iNAdd, iMin, iMax, iDiv, iRem, h2, t3, h4 i hi]
  rw [if_neg (by omega), if_neg (by omega)]
/-- a document's vocabulary of a field -/
def docV (lo : Nat) (σ : Mem) (a f : Nat) (E : List Nat) : Prop := ∃ p v, hp lo σ a 1 0 ∧ gR σ a (4 + f) = some p ∧ hp lo σ p 8 0 ∧ gR σ p 3 = some v ∧ (gT σ v).1 = 10 ∧ isVq lo σ v E
theorem docV.kp {lo a f : Nat} {σ σ' : Mem} {W : Nat → Nat → Nat → Prop} {E : List Nat} (h : docV lo σ a f E) (hk : Kp W σ σ') (hw : Wh lo σ W) : docV lo σ' a f E := by
  obtain ⟨p, v, h1, h2, h3, h4, h5, h6⟩ := h
  have h7 := h6.kp hk hw
  exact ⟨p, v, h1.kp hk, by rw [h1.R hk hw (by decide)]; exact h2, h3.kp hk, by rw [h3.R hk hw (by decide)]; exact h4, h7.choose_spec.1.t, h7⟩
theorem isText.V {lo p : Nat} {σ : Mem} {ts : List Tok} (h : isText lo σ p ts) : hp lo σ p 8 0 ∧ ∃ v E, gR σ p 3 = some v ∧ isVq lo σ v E ∧ vocE E (tcn ts) ∧ isVoc lo σ v (tcn ts) := by
  obtain ⟨a, b, c, v, h1, h2, h3, h4, h5, h6, h7, h8, h9, h10⟩ := h
  have h10' := h10
  obtain ⟨q, r, E, k1, k2, k3, k4, k5, k6, k7⟩ := h10
  exact ⟨h1, v, E, h5, ⟨q, k1, k2, k4, fun i hi => (k6 i hi).1, k7.1⟩, k7, h10'⟩
theorem isDoc.tx {lo a i : Nat} {σ : Mem} {d : DocT} (h : isDoc lo σ a i d) {f : Nat} (hf : f < 2) : ∃ p, gR σ a (4 + f) = some p ∧ isText lo σ p (dTok d f) := by
  obtain ⟨p, q, h1, h2, h3, h4⟩ := h.2.2.2.2.2
  have : f = 0 ∨ f = 1 := by omega
  rcases this with rfl | rfl
  · exact ⟨p, h1, h3⟩
  · exact ⟨q, h2, h4⟩
theorem isDoc.V {lo a i : Nat} {σ : Mem} {d : DocT} (h : isDoc lo σ a i d) {f : Nat} (hf : f < 2) : ∃ E, docV lo σ a f E ∧ vocE E (tcn (dTok d f)) := by
  obtain ⟨p, h1, h2⟩ := h.tx hf
  obtain ⟨h3, v, E, h4, h5, h6, -⟩ := h2.V
  exact ⟨E, ⟨p, v, h.1, h1, h3, h4, h5.choose_spec.1.t, h5⟩, h6⟩
theorem Do_textOf_k {lo a f p : Nat} {σ : Mem} (h : hp lo σ a 1 0) (h1 : gR σ a (4 + f) = some p) (hf : f < 2) : Do_textOf σ a (nI f) = some (some p) := by
  have t := h.t
  have : f = 0 ∨ f = 1 := by omega
  unfold Do_textOf
  rcases this with rfl | rfl
  · simp (disch := first | assumption | omega | (simp only [gT_sI, gT_sL, gT_sR, gT_sB]; first | assumption | omega)) only [Option.bind_some, ldI_ok, ldL_ok, ldR_ok, ldB_ok, stI_ok, stL_ok, stR_ok, stB_ok, chk_ok, raI_k, raL_k, raR_k, raB_k, waI_k, waL_k, waB_k, waR_k, alen_k, gT_sI, gT_sL, gT_sR, gT_sB, gN_sI, gN_sL, gN_sR, gN_sB, gI_sL, gI_sR, gI_sB, gL_sI, gL_sR, gL_sB, gR_sI, gR_sL, gR_sB, gB_sI, gB_sL, gB_sR, gI_sIs, gL_sLs, gR_sRs, gB_sBs, gI_sIn, gL_sLn, gR_sRn, gB_sBn, rdI_ok, rdL_ok, rdB_ok, wrI_ok, wrL_ok, wrB_ok, nl, nI_add, nI_mul, iSub, iEq, iLe, iLt, iEqN, iNEq, iNN, iLtN, iNLt, iLeN, iNLe, iAddN, iNAdd, iMin, iMax, iDiv, iRem, h1]
    rw [if_neg (by simp)]
  · simp (disch := first | assumption | omega | (simp only [gT_sI, gT_sL, gT_sR, gT_sB]; first | assumption | omega)) only [Option.bind_some, ldI_ok, ldL_ok, ldR_ok, ldB_ok, stI_ok, stL_ok, stR_ok, stB_ok, chk_ok, raI_k, raL_k, raR_k, raB_k, waI_k, waL_k, waB_k, waR_k, alen_k, gT_sI, gT_sL, gT_sR, gT_sB, gN_sI, gN_sL, gN_sR, gN_sB, gI_sL, gI_sR, gI_sB, gL_sI, gL_sR, gL_sB, gR_sI, gR_sL, gR_sB, gB_sI, gB_sL, gB_sR, gI_sIs, gL_sLs, gR_sRs, gB_sBs, gI_sIn, gL_sLn, gR_sRn, gB_sBn, rdI_ok, rdL_ok, rdB_ok, wrI_ok, wrL_ok, wrB_ok, nl, nI_add, nI_mul, iSub, iEq, iLe, iLt, iEqN, iNEq, iNN, iLtN, iNLt, iLeN, iNLe, iAddN, iNAdd, iMin, iMax, iDiv, iRem, h1]
    rw [if_pos (by simp)]
/-- rows laid one behind another -/
def Lk (E : Nat → List Nat) : Nat → List Nat
  | 0 => []
  | k + 1 => Lk E k ++ E k
theorem Lk_len (E : Nat → List Nat) : ∀ k, (Lk E k).length = sN (fun i => (E i).length) k
  | 0 => rfl
  | k + 1 => by rw [Lk, List.length_append, Lk_len E k]; rfl
theorem getD_apps {l m : List Nat} {k : Nat} : (l ++ m).getD k 0 = if k < l.length then l.getD k 0 else m.getD (k - l.length) 0 := by
  rw [List.getD_eq_getElem?_getD, List.getElem?_append]
  by_cases h : k < l.length
  · rw [if_pos h, if_pos h, List.getD_eq_getElem?_getD]
  · rw [if_neg h, if_neg h, List.getD_eq_getElem?_getD]
theorem Lk_at (E : Nat → List Nat) : ∀ n k t, k < n → t < (E k).length → (Lk E n).getD (sN (fun i => (E i).length) k + t) 0 = (E k).getD t 0
  | 0, k, t, h, _ => absurd h (by omega)
  | n + 1, k, t, h, ht => by
    rw [Lk, getD_apps, Lk_len]
    by_cases e : k = n
    · subst e
      rw [if_neg (by omega), Nat.add_sub_cancel_left]
    · have h1 : sN (fun i => (E i).length) (k + 1) ≤ sN (fun i => (E i).length) n := by
        obtain ⟨d, rfl⟩ := Nat.exists_eq_add_of_le (show k + 1 ≤ n by omega)
        rw [sN_add _ (k + 1) d]
        omega
      rw [sN] at h1
      rw [if_pos (by omega)]
      exact Lk_at E n k t (by omega) ht
theorem Lk_mem {E : Nat → List Nat} {t : Nat} : ∀ n, t ∈ Lk E n → ∃ k, k < n ∧ t ∈ E k
  | 0, h => by cases h
  | n + 1, h => by
    rw [Lk, List.mem_append] at h
    rcases h with h | h
    · obtain ⟨k, h1, h2⟩ := Lk_mem n h
      exact ⟨k, by omega, h2⟩
    · exact ⟨n, by omega, h⟩
theorem cnt_srt {E : List Nat} (hs : ∀ i k, i < k → k < E.length → E.getD i 0 < E.getD k 0) (t : Nat) : cN (fun i => decide (E.getD i 0 = t)) E.length = if t ∈ E then 1 else 0 := by
  have h1 := cN_one (p := fun i => decide (E.getD i 0 = t)) E.length (fun i j hi hj e1 e2 => by
    have e1 := of_decide_eq_true e1
    have e2 := of_decide_eq_true e2
    rcases Nat.lt_trichotomy i j with q | q | q
    · have := hs i j q hj; omega
    · exact q
    · have := hs j i q hi; omega)
  by_cases h : t ∈ E
  · rw [if_pos h]
    obtain ⟨i, hi, e⟩ := List.getElem_of_mem h
    have : 0 < cN (fun i => decide (E.getD i 0 = t)) E.length := cN_pos.mpr ⟨i, hi, by
      rw [decide_eq_true_eq, List.getD_eq_getElem?_getD, List.getElem?_eq_getElem hi]
      exact e⟩
    omega
  · rw [if_neg h]
    apply Nat.eq_zero_of_not_pos
    intro q
    obtain ⟨i, hi, e⟩ := cN_pos.mp q
    have e := of_decide_eq_true e
    exact h (by rw [← e]; exact getD_mem hi)
theorem Lk_cnt {E : Nat → List Nat} (t : Nat) : ∀ n, (∀ k, k < n → ∀ i j, i < j → j < (E k).length → (E k).getD i 0 < (E k).getD j 0) → cN (fun i => decide ((Lk E n).getD i 0 = t)) (Lk E n).length = cN (fun k => decide (t ∈ E k)) n
  | 0, _ => rfl
  | n + 1, h => by
    have ih := Lk_cnt t n (fun k hk => h k (by omega))
    rw [cN_s, ← ih, Lk, List.length_append, cN_add]
    congr 1
    · exact cN_congr _ (fun i hi => by rw [getD_apps, if_pos hi])
    · rw [cN_congr (q := fun i => decide ((E n).getD i 0 = t)) _ (fun i hi => by rw [getD_apps, if_neg (by omega), Nat.add_sub_cancel_left]), cnt_srt (h n (by omega))]
      by_cases q : t ∈ E n
      · simp [q]
      · simp [q]
theorem Se_termsOf_ok {lo : Nat} {σ : Mem} {arr n f : Nat} {as : Nat → Nat} {E : Nat → List Nat} (hlo : lo ≤ gN σ) (ha : hp lo σ arr 104 n) (hn : n ≤ 400) (hf : f < 2) (hr : ∀ k, k < n → gR σ arr k = some (as k) ∧ docV lo σ (as k) f (E k)) (hT : (Lk E n).length < 1000000) : ∃ σ', Se_termsOf σ (some arr) (nI f) = some (some (gN σ), σ') ∧ Kp (fun _ _ _ => False) σ σ' ∧ gN σ' = gN σ + 1 ∧ gU σ' = gU σ + (Lk E n).length ∧ gT σ' (gN σ) = (101, (Lk E n).length) ∧ hL σ' (gN σ) (Lk E n).length (fun i => (Lk E n).getD i 0) := by
  have tA1 : (gT σ arr).1 = 100 + 4 := ha.t
  have tA2 : (gT σ arr).2 = n := ha.m
  have hlen := Lk_len E
  have hsum : ∀ k, k ≤ n → sN (fun i => (E i).length) k ≤ (Lk E n).length := fun k hk => by
    obtain ⟨d, hd⟩ := Nat.exists_eq_add_of_le hk
    rw [hlen, hd, sN_add _ k d]
    omega
  have h1 : lp (fun q : Int32 × Int32 => Se_termsOf_l4 σ (some arr) (nI f) q.1 q.2) (nI 0, nI 0) = some (nI (Lk E n).length) := by
    rw [hlen]
    refine lp_sum (c := fun i => (E i).length) n 0 (fun k hk => ?_) ?_
    · rw [Nat.zero_add]
      obtain ⟨r1, p, v, d1, d2, d3, d4, d5, d6⟩ := hr k hk
      have td := d1.t
      have tp := d3.t
      unfold Se_termsOf_l4
      simp (disch := first | assumption | omega | (simp only [gT_sI, gT_sL, gT_sR, gT_sB]; first | assumption | omega)) only [Option.bind_some, ldI_ok, ldL_ok, ldR_ok, ldB_ok, stI_ok, stL_ok, stR_ok, stB_ok, chk_ok, raI_k, raL_k, raR_k, raB_k, waI_k, waL_k, waB_k, waR_k, alen_k, gT_sI, gT_sL, gT_sR, gT_sB, gN_sI, gN_sL, gN_sR, gN_sB, gI_sL, gI_sR, gI_sB, gL_sI, gL_sR, gL_sB, gR_sI, gR_sL, gR_sB, gB_sI, gB_sL, gB_sR, gI_sIs, gL_sLs, gR_sRs, gB_sBs, gI_sIn, gL_sLn, gR_sRn, gB_sBn, rdI_ok, rdL_ok, rdB_ok, wrI_ok, wrL_ok, wrB_ok, nl, nI_add, nI_mul, iSub, iEq, iLe, iLt, iEqN, iNEq, iNN, iLtN, iNLt, iLeN, iNLe, iAddN, iNAdd, iMin, iMax, iDiv, iRem, tA2, r1]
      rw [if_neg (by omega), if_neg (by simp)]
      rw [Do_textOf_k d1 d2 hf]
      simp (disch := first | assumption | omega | (simp only [gT_sI, gT_sL, gT_sR, gT_sB]; first | assumption | omega)) only [Option.bind_some, ldI_ok, ldL_ok, ldR_ok, ldB_ok, stI_ok, stL_ok, stR_ok, stB_ok, chk_ok, raI_k, raL_k, raR_k, raB_k, waI_k, waL_k, waB_k, waR_k, alen_k, gT_sI, gT_sL, gT_sR, gT_sB, gN_sI, gN_sL, gN_sR, gN_sB, gI_sL, gI_sR, gI_sB, gL_sI, gL_sR, gL_sB, gR_sI, gR_sL, gR_sB, gB_sI, gB_sL, gB_sR, gI_sIs, gL_sLs, gR_sRs, gB_sBs, gI_sIn, gL_sLn, gR_sRn, gB_sBn, rdI_ok, rdL_ok, rdB_ok, wrI_ok, wrL_ok, wrB_ok, nl, nI_add, nI_mul, iSub, iEq, iLe, iLt, iEqN, iNEq, iNN, iLtN, iNLt, iLeN, iNLe, iAddN, iNAdd, iMin, iMax, iDiv, iRem, d4, d6.size]
    · rw [Nat.zero_add]
      unfold Se_termsOf_l4
      simp (disch := first | assumption | omega | (simp only [gT_sI, gT_sL, gT_sR, gT_sB]; first | assumption | omega)) only [Option.bind_some, ldI_ok, ldL_ok, ldR_ok, ldB_ok, stI_ok, stL_ok, stR_ok, stB_ok, chk_ok, raI_k, raL_k, raR_k, raB_k, waI_k, waL_k, waB_k, waR_k, alen_k, gT_sI, gT_sL, gT_sR, gT_sB, gN_sI, gN_sL, gN_sR, gN_sB, gI_sL, gI_sR, gI_sB, gL_sI, gL_sR, gL_sB, gR_sI, gR_sL, gR_sB, gB_sI, gB_sL, gB_sR, gI_sIs, gL_sLs, gR_sRs, gB_sBs, gI_sIn, gL_sLn, gR_sRn, gB_sBn, rdI_ok, rdL_ok, rdB_ok, wrI_ok, wrL_ok, wrB_ok, nl, nI_add, nI_mul, iSub, iEq, iLe, iLt, iEqN, iNEq, iNN, iLtN, iNLt, iLeN, iNLe, iAddN, iNAdd, iMin, iMax, iDiv, iRem, tA2]
      rw [if_pos (by omega)]
  unfold Se_termsOf
  rw [show (0 : Int32) = nI 0 from rfl, h1]
  simp only [Option.bind_some]
  generalize hTT : (Lk E n).length = T at *
  rw [nwA_ok (by omega)]
  simp only [Option.bind_some]
  have k2 : Kp (fun _ _ _ => False) σ (nw σ (100 + 1, T) T) := Kp.nw
  have hN2 : gN (nw σ (100 + 1, T) T) = gN σ + 1 := gN_nw _ _ _
  have hU2 : gU (nw σ (100 + 1, T) T) = gU σ + T := gU_nw _ _ _
  have hT2 : gT (nw σ (100 + 1, T) T) (gN σ) = (101, T) := by rw [gT_nw, if_pos rfl]
  generalize nw σ (100 + 1, T) T = σ2 at *
  let G : Nat := gN σ
  have hG : gN σ = G := rfl
  rw [hG] at *
  obtain ⟨z, hz, z1, z2, z3, z4⟩ : ∃ z, lp (fun q : Int32 × Int32 × Mem => Se_termsOf_l48 q.2.2 (some arr) (nI f) (nI T) (some G) q.1 q.2.1) (nI 0, nI 0, σ2) = some z ∧ (Kp (fun t a _ => t = 1 ∧ a = G) σ2 z ∧ gN z = gN σ2 ∧ gU z = gU σ2 ∧ hL z G T (fun i => (Lk E n).getD i 0)) := by
    have hw0 : ∀ {τ : Mem}, gN σ2 ≤ gN τ → True := fun _ => trivial
    refine lp_for (fun k (Y : Mem) => (nI (sN (fun i => (E i).length) k), nI k, Y)) n (fun k Y => Kp (fun t a _ => t = 1 ∧ a = G) σ2 Y ∧ gN Y = gN σ2 ∧ gU Y = gU σ2 ∧ hL Y G (sN (fun i => (E i).length) k) (fun i => (Lk E n).getD i 0)) _ (fun k Y hk hI => ?_) (fun Y hI => ?_) n 0 _ (by omega) ?_
    · left
      obtain ⟨y1, y2, y3, y4⟩ := hI
      obtain ⟨r1, dv⟩ := hr k hk
      have hs1 := hsum (k + 1) (by omega)
      rw [sN] at hs1
      have hWh : Wh lo σ (fun t a _ => t = 1 ∧ a = G) := fun t a k' h1 h2 h3 => by omega
      have kσY : Kp (fun t a _ => t = 1 ∧ a = G) σ Y := Kp.tr (k2.mono (fun _ _ _ _ q => q.elim)) y1 (fun _ _ _ _ q => q)
      obtain ⟨p, v, d1, d2, d3, d4, d5, d6⟩ := dv.kp kσY hWh
      have hAY : hp lo Y arr 104 n := ha.kp kσY
      have tY1 : (gT Y arr).1 = 100 + 4 := hAY.t
      have tY2 : (gT Y arr).2 = n := hAY.m
      have rY : gR Y arr k = some (as k) := by rw [kσY.R ha.2.1 (by omega)]; exact r1
      have td := d1.t
      have tp := d3.t
      unfold Se_termsOf_l48
      rw [alen_k tY1, tY2]
      simp only [Option.bind_some, iLe (show n < 2147483648 by omega) (show k < 2147483648 by omega)]
      rw [if_neg (by omega), raR_k tY1 (by omega) (by omega), rY]
      simp only [Option.bind_some]
      rw [if_neg (by simp)]
      rw [chk_ok td]
      simp only [Option.bind_some]
      rw [Do_textOf_k d1 d2 hf]
      simp only [Option.bind_some]
      rw [ldR_ok tp, d4]
      simp only [Option.bind_some]
      obtain ⟨y, hy, x1, x2, x3, x4⟩ : ∃ y, lp (fun q : Int32 × Int32 × Mem => Se_termsOf_l78 q.2.2 (some arr) (nI f) (nI T) (some G) q.1 (nI k) (some v) q.2.1) (nI (sN (fun i => (E i).length) k + 0), nI 0, Y) = some y ∧ (y.1 = nI (sN (fun i => (E i).length) (k + 1)) ∧ Kp (fun t a _ => t = 1 ∧ a = G) σ2 y.2 ∧ (gN y.2 = gN σ2 ∧ gU y.2 = gU σ2) ∧ hL y.2 G (sN (fun i => (E i).length) (k + 1)) (fun i => (Lk E n).getD i 0)) := by
        refine lp_for (fun t (Q : Mem) => (nI (sN (fun i => (E i).length) k + t), nI t, Q)) (E k).length (fun t Q => Kp (fun t a _ => t = 1 ∧ a = G) σ2 Q ∧ gN Q = gN σ2 ∧ gU Q = gU σ2 ∧ hL Q G (sN (fun i => (E i).length) k + t) (fun i => (Lk E n).getD i 0)) _ (fun t Q ht hI => ?_) (fun Q hI => ?_) (E k).length 0 _ (by omega) ?_
        · left
          obtain ⟨q1, q2, q3, q4⟩ := hI
          have kσQ : Kp (fun t a _ => t = 1 ∧ a = G) σ Q := Kp.tr (k2.mono (fun _ _ _ _ q => q.elim)) q1 (fun _ _ _ _ q => q)
          obtain ⟨p', v', e1, e2, e3, e4, e5, e6⟩ := dv.kp kσQ hWh
          have ep : p' = p := by
            rw [kσQ.R dv.choose_spec.choose_spec.1.2.1 (by omega)] at e2
            rw [kσY.R dv.choose_spec.choose_spec.1.2.1 (by omega), e2] at d2
            exact Option.some.inj d2
          subst ep
          have hp1 : p' < gN σ := by
            have hdv := dv.choose_spec.choose_spec
            rw [kσQ.R hdv.1.2.1 (by omega), hdv.2.1] at e2
            rw [← Option.some.inj e2]
            exact hdv.2.2.1.2.1
          have ev : v' = v := by
            rw [kσQ.R hp1 (by omega)] at e4
            rw [kσY.R hp1 (by omega), e4] at d4
            exact Option.some.inj d4
          subst ev
          have tG1 : (gT Q G).1 = 100 + 1 := by rw [q1.T (by omega), hT2]
          have tG2 : (gT Q G).2 = T := by rw [q1.T (by omega), hT2]
          unfold Se_termsOf_l78
          simp (disch := first | assumption | omega | (simp only [gT_sI, gT_sL, gT_sR, gT_sB]; first | assumption | omega)) only [Option.bind_some, ldI_ok, ldL_ok, ldR_ok, ldB_ok, stI_ok, stL_ok, stR_ok, stB_ok, chk_ok, raI_k, raL_k, raR_k, raB_k, waI_k, waL_k, waB_k, waR_k, alen_k, gT_sI, gT_sL, gT_sR, gT_sB, gN_sI, gN_sL, gN_sR, gN_sB, gI_sL, gI_sR, gI_sB, gL_sI, gL_sR, gL_sB, gR_sI, gR_sL, gR_sB, gB_sI, gB_sL, gB_sR, gI_sIs, gL_sLs, gR_sRs, gB_sBs, gI_sIn, gL_sLn, gR_sRn, gB_sBn, rdI_ok, rdL_ok, rdB_ok, wrI_ok, wrL_ok, wrB_ok, nl, nI_add, nI_mul, iSub, iEq, iLe, iLt, iEqN, iNEq, iNN, iLtN, iNLt, iLeN, iNLe, iAddN, iNAdd, iMin, iMax, iDiv, iRem, e6.size, e6.at ht, tG2]
          rw [if_neg (by omega), if_neg (by omega)]
          refine ⟨_, rfl, Kp.tr q1 (Kp.sL (W := fun t a _ => t = 1 ∧ a = G) ⟨rfl, rfl⟩) (fun _ _ _ _ q => q), q2, q3, fun i hi => ?_⟩
          by_cases c : i = sN (fun i => (E i).length) k + t
          · subst c
            rw [gL_sLs]
            exact (congrArg lN (Lk_at E n k t hk ht)).symm
          · rw [gL_sLn (by omega)]
            exact q4 i (by omega)
        · obtain ⟨q1, q2, q3, q4⟩ := hI
          have kσQ : Kp (fun t a _ => t = 1 ∧ a = G) σ Q := Kp.tr (k2.mono (fun _ _ _ _ q => q.elim)) q1 (fun _ _ _ _ q => q)
          have d6' : isVq lo Q v (E k) := by
            have kYQ : isVq lo σ v (E k) := by
              obtain ⟨p', v', g1, g2, g3, g4, g5, g6⟩ := dv
              have ep : p' = p := by
                rw [kσY.R g1.2.1 (by omega), g2] at d2
                exact Option.some.inj d2
              subst ep
              have ev : v' = v := by
                rw [kσY.R g3.2.1 (by omega), g4] at d4
                exact Option.some.inj d4
              rw [← ev]
              exact g6
            exact kYQ.kp kσQ hWh
          have tv := d6'.choose_spec.1.t
          refine ⟨(nI (sN (fun i => (E i).length) (k + 1)), Q), ?_, rfl, q1, ⟨q2, q3⟩, q4⟩
          unfold Se_termsOf_l78
          simp (disch := first | assumption | omega | (simp only [gT_sI, gT_sL, gT_sR, gT_sB]; first | assumption | omega)) only [Option.bind_some, ldI_ok, ldL_ok, ldR_ok, ldB_ok, stI_ok, stL_ok, stR_ok, stB_ok, chk_ok, raI_k, raL_k, raR_k, raB_k, waI_k, waL_k, waB_k, waR_k, alen_k, gT_sI, gT_sL, gT_sR, gT_sB, gN_sI, gN_sL, gN_sR, gN_sB, gI_sL, gI_sR, gI_sB, gL_sI, gL_sR, gL_sB, gR_sI, gR_sL, gR_sB, gB_sI, gB_sL, gB_sR, gI_sIs, gL_sLs, gR_sRs, gB_sBs, gI_sIn, gL_sLn, gR_sRn, gB_sBn, rdI_ok, rdL_ok, rdB_ok, wrI_ok, wrL_ok, wrB_ok, nl, nI_add, nI_mul, iSub, iEq, iLe, iLt, iEqN, iNEq, iNN, iLtN, iNLt, iLeN, iNLe, iAddN, iNAdd, iMin, iMax, iDiv, iRem, d6'.size]
          rw [if_pos (by omega)]
          rfl
        · exact ⟨y1, y2, y3, y4⟩
      rw [Nat.add_zero] at hy
      rw [show nI 0 = (0 : Int32) from rfl] at hy
      rw [hy]
      simp only [Option.bind_some, x1, nl, nI_add]
      exact ⟨_, rfl, x2, x3.1, x3.2, x4⟩
    · obtain ⟨y1, y2, y3, y4⟩ := hI
      have kσY : Kp (fun t a _ => t = 1 ∧ a = G) σ Y := Kp.tr (k2.mono (fun _ _ _ _ q => q.elim)) y1 (fun _ _ _ _ q => q)
      have hAY : hp lo Y arr 104 n := ha.kp kσY
      have tY1 : (gT Y arr).1 = 100 + 4 := hAY.t
      have tY2 : (gT Y arr).2 = n := hAY.m
      refine ⟨Y, ?_, y1, y2, y3, by rw [← hlen, hTT] at y4; exact y4⟩
      unfold Se_termsOf_l48
      simp (disch := first | assumption | omega | (simp only [gT_sI, gT_sL, gT_sR, gT_sB]; first | assumption | omega)) only [Option.bind_some, ldI_ok, ldL_ok, ldR_ok, ldB_ok, stI_ok, stL_ok, stR_ok, stB_ok, chk_ok, raI_k, raL_k, raR_k, raB_k, waI_k, waL_k, waB_k, waR_k, alen_k, gT_sI, gT_sL, gT_sR, gT_sB, gN_sI, gN_sL, gN_sR, gN_sB, gI_sL, gI_sR, gI_sB, gL_sI, gL_sR, gL_sB, gR_sI, gR_sL, gR_sB, gB_sI, gB_sL, gB_sR, gI_sIs, gL_sLs, gR_sRs, gB_sBs, gI_sIn, gL_sLn, gR_sRn, gB_sBn, rdI_ok, rdL_ok, rdB_ok, wrI_ok, wrL_ok, wrB_ok, nl, nI_add, nI_mul, iSub, iEq, iLe, iLt, iEqN, iNEq, iNN, iLtN, iNLt, iLeN, iNLe, iAddN, iNAdd, iMin, iMax, iDiv, iRem, tY2]
      rw [if_pos (by omega)]
    · exact ⟨Kp.rf, rfl, rfl, fun i hi => absurd hi (by simp [sN])⟩
  rw [hz]
  refine ⟨z, rfl, Kp.tr k2 z1 (fun t a k ha' q => by omega), by omega, by omega, by rw [z1.T (by omega)]; exact hT2, z4⟩
