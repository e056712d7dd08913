/-! WORDS OF THE TAPE, and their terms: of the class -/
def isL (b : Nat) : Bool := decide (sgn b ≠ 0)
def low (b : Nat) : Nat := if 65 ≤ b ∧ b ≤ 90 then b + 32 else b
def wE (tp : Nat → Nat) (p n : Nat) : Nat := run (fun i => isL (tp i)) (n - p) p
def wS (tp : Nat → Nat) (p n : Nat) : Nat := run (fun i => !isL (tp i)) (n - p) p
def small (tp : Nat → Nat) (p k : Nat) : List Nat := (List.range (min k 12)).map (fun i => low (tp (p + i)))
def stemT (st : Bool) (t : List Nat) : List Nat := if st = true ∧ 4 ≤ t.length ∧ t.getD (t.length - 1) 0 = 115 ∧ t.getD (t.length - 2) 0 ≠ 115 then t.take (t.length - 1) else t
def mkT (st sp : Bool) (tp : Nat → Nat) (p k : Nat) : List Nat := if sp = true ∧ stemT st (small tp p k) ∈ stopL then [] else stemT st (small tp p k)
def tpA (σ : Mem) (a : Nat) (tp : Nat → Nat) : Prop := (gT σ a).1 = 102 ∧ (gT σ a).2 = 600 ∧ ∀ i, i < 600 → tp i < 256 ∧ gI σ a i = jb (tp i)
set_option maxRecDepth 100000 in
theorem Sp_sign_all : ∀ b, b < 256 → Sp_signOf (jb b) = some (nI (sgn b)) := by decide +kernel
theorem Sp_sign_nI : ∀ b, b < 128 → Sp_signOf (nI b) = some (nI (sgn b)) := by decide +kernel
theorem low_sgn : ∀ b, b < 256 → sgn (low b) = sgn b ∧ (isL b = true → isTb (low b)) := by
  intro b hb
  unfold low isL isTb
  by_cases h : 65 ≤ b ∧ b ≤ 90
  · rw [if_pos h]
    refine ⟨?_, fun _ => by omega⟩
    unfold sgn
    repeat' split
    all_goals omega
  · rw [if_neg h]
    refine ⟨rfl, fun q => ?_⟩
    rw [decide_eq_true_eq] at q
    unfold sgn at q
    repeat' split at q
    all_goals omega
theorem sgn_s : ∀ b, sgn b = 29 ↔ low b = 115 := by
  intro b
  unfold low
  by_cases h : 65 ≤ b ∧ b ≤ 90
  · rw [if_pos h]
    unfold sgn
    repeat' split
    all_goals omega
  · rw [if_neg h]
    unfold sgn
    repeat' split
    all_goals omega
theorem Sp_wordEnd_ok {σ : Mem} {a : Nat} {tp : Nat → Nat} (h : tpA σ a tp) {p n : Nat} (hp : p ≤ n) (hn : n ≤ 600) : Sp_wordEnd σ (some a) (nI p) (nI n) = some (nI (wE tp p n)) := by
  obtain ⟨h1, h2, h3⟩ := h
  have hr := run_ge (fun i => isL (tp i)) (n - p) p
  unfold Sp_wordEnd
  have hlp : lp (fun q : Int32 => Sp_wordEnd_l2 σ (some a) (nI n) q) (nI p) = some (nI (wE tp p n)) := by
    refine lp_run (p := fun i => isL (tp i)) (n - p) p (fun i h4 h5 h6 => ?_) ?_
    · obtain ⟨h7, h8⟩ := h3 i (by omega)
      unfold Sp_wordEnd_l2
      simp (disch := first | assumption | omega | (simp only [gT_sI, gT_sL, gT_sR, gT_sB]; first | assumption | omega)) only [Option.bind_some, ldI_ok, ldL_ok, ldR_ok, ldB_ok, stI_ok, stL_ok, stR_ok, stB_ok, chk_ok, raI_k, raL_k, raR_k, raB_k, waI_k, waL_k, waB_k, waR_k, alen_k, gT_sI, gT_sL, gT_sR, gT_sB, gN_sI, gN_sL, gN_sR, gN_sB, gI_sL, gI_sR, gI_sB, gL_sI, gL_sR, gL_sB, gR_sI, gR_sL, gR_sB, gB_sI, gB_sL, gB_sR, gI_sIs, gL_sLs, gR_sRs, gB_sBs, gI_sIn, gL_sLn, gR_sRn, gB_sBn, rdI_ok, rdL_ok, rdB_ok, wrI_ok, wrL_ok, wrB_ok, nl, nI_add, nI_mul, iSub, iEq, iLe, iLt, iEqN, iNEq, iNN, iLtN, iNLt, iLeN, iNLe, iAddN, iNAdd, iMin, iMax, iDiv, iRem, h2, h8, Sp_sign_all _ h7]
      have h9 : sgn (tp i) ≠ 0 := of_decide_eq_true h6
      have := sgn_lt (tp i)
      rw [if_neg (by omega), if_neg (by omega), if_neg (by omega)]
      simp (disch := omega) only [iEq]
      rw [if_neg h9]
    · unfold Sp_wordEnd_l2
      unfold wE
      by_cases hz : run (fun i => isL (tp i)) (n - p) p = n
      · rw [hz]
        simp (disch := first | assumption | omega | (simp only [gT_sI, gT_sL, gT_sR, gT_sB]; first | assumption | omega)) only [nl, nI_add, nI_mul, iSub, iEq, iLe, iLt, iEqN, iNEq, iNN, iLtN, iNLt, iLeN, iNLe, iAddN, iNAdd, iMin, iMax, iDiv, iRem]
        rw [if_neg (by omega), if_pos (by omega)]
      · have ho := run_out (fun i => isL (tp i)) (n - p) p (by omega)
        generalize run (fun i => isL (tp i)) (n - p) p = r at *
        obtain ⟨h7, h8⟩ := h3 r (by omega)
        simp (disch := first | assumption | omega | (simp only [gT_sI, gT_sL, gT_sR, gT_sB]; first | assumption | omega)) only [Option.bind_some, ldI_ok, ldL_ok, ldR_ok, ldB_ok, stI_ok, stL_ok, stR_ok, stB_ok, chk_ok, raI_k, raL_k, raR_k, raB_k, waI_k, waL_k, waB_k, waR_k, alen_k, gT_sI, gT_sL, gT_sR, gT_sB, gN_sI, gN_sL, gN_sR, gN_sB, gI_sL, gI_sR, gI_sB, gL_sI, gL_sR, gL_sB, gR_sI, gR_sL, gR_sB, gB_sI, gB_sL, gB_sR, gI_sIs, gL_sLs, gR_sRs, gB_sBs, gI_sIn, gL_sLn, gR_sRn, gB_sBn, rdI_ok, rdL_ok, rdB_ok, wrI_ok, wrL_ok, wrB_ok, nl, nI_add, nI_mul, iSub, iEq, iLe, iLt, iEqN, iNEq, iNN, iLtN, iNLt, iLeN, iNLe, iAddN, iNAdd, iMin, iMax, iDiv, iRem, h2, h8, Sp_sign_all _ h7]
        have h9 : sgn (tp r) = 0 := by
          have := of_decide_eq_false ho
          omega
        rw [if_neg (by omega), if_neg (by omega), if_neg (by omega), if_pos (by rw [h9])]
  rw [hlp]
  rfl
theorem Sp_wordStart_ok {σ : Mem} {a : Nat} {tp : Nat → Nat} (h : tpA σ a tp) {p n : Nat} (hp : p ≤ n) (hn : n ≤ 600) : Sp_wordStart σ (some a) (nI p) (nI n) = some (nI (wS tp p n)) := by
  obtain ⟨h1, h2, h3⟩ := h
  have hr := run_ge (fun i => !isL (tp i)) (n - p) p
  unfold Sp_wordStart
  have hlp : lp (fun q : Int32 => Sp_wordStart_l2 σ (some a) (nI n) q) (nI p) = some (nI (wS tp p n)) := by
    refine lp_run (p := fun i => !isL (tp i)) (n - p) p (fun i h4 h5 h6 => ?_) ?_
    · obtain ⟨h7, h8⟩ := h3 i (by omega)
      unfold Sp_wordStart_l2
      simp (disch := first | assumption | omega | (simp only [gT_sI, gT_sL, gT_sR, gT_sB]; first | assumption | omega)) only [Option.bind_some, ldI_ok, ldL_ok, ldR_ok, ldB_ok, stI_ok, stL_ok, stR_ok, stB_ok, chk_ok, raI_k, raL_k, raR_k, raB_k, waI_k, waL_k, waB_k, waR_k, alen_k, gT_sI, gT_sL, gT_sR, gT_sB, gN_sI, gN_sL, gN_sR, gN_sB, gI_sL, gI_sR, gI_sB, gL_sI, gL_sR, gL_sB, gR_sI, gR_sL, gR_sB, gB_sI, gB_sL, gB_sR, gI_sIs, gL_sLs, gR_sRs, gB_sBs, gI_sIn, gL_sLn, gR_sRn, gB_sBn, rdI_ok, rdL_ok, rdB_ok, wrI_ok, wrL_ok, wrB_ok, nl, nI_add, nI_mul, iSub, iEq, iLe, iLt, iEqN, iNEq, iNN, iLtN, iNLt, iLeN, iNLe, iAddN, iNAdd, iMin, iMax, iDiv, iRem, h2, h8, Sp_sign_all _ h7]
      have h9 : sgn (tp i) = 0 := by
        have : isL (tp i) = false := by simpa using h6
        have := of_decide_eq_false this
        omega
      rw [if_neg (by omega), if_neg (by omega), if_neg (by omega), if_neg (by rw [h9]; simp [nl])]
    · unfold Sp_wordStart_l2
      unfold wS
      by_cases hz : run (fun i => !isL (tp i)) (n - p) p = n
      · rw [hz]
        simp (disch := first | assumption | omega | (simp only [gT_sI, gT_sL, gT_sR, gT_sB]; first | assumption | omega)) only [nl, nI_add, nI_mul, iSub, iEq, iLe, iLt, iEqN, iNEq, iNN, iLtN, iNLt, iLeN, iNLe, iAddN, iNAdd, iMin, iMax, iDiv, iRem]
        rw [if_neg (by omega), if_pos (by omega)]
      · have ho := run_out (fun i => !isL (tp i)) (n - p) p (by omega)
        generalize run (fun i => !isL (tp i)) (n - p) p = r at *
        obtain ⟨h7, h8⟩ := h3 r (by omega)
        have := sgn_lt (tp r)
        simp (disch := first | assumption | omega | (simp only [gT_sI, gT_sL, gT_sR, gT_sB]; first | assumption | omega)) only [Option.bind_some, ldI_ok, ldL_ok, ldR_ok, ldB_ok, stI_ok, stL_ok, stR_ok, stB_ok, chk_ok, raI_k, raL_k, raR_k, raB_k, waI_k, waL_k, waB_k, waR_k, alen_k, gT_sI, gT_sL, gT_sR, gT_sB, gN_sI, gN_sL, gN_sR, gN_sB, gI_sL, gI_sR, gI_sB, gL_sI, gL_sR, gL_sB, gR_sI, gR_sL, gR_sB, gB_sI, gB_sL, gB_sR, gI_sIs, gL_sLs, gR_sRs, gB_sBs, gI_sIn, gL_sLn, gR_sRn, gB_sBn, rdI_ok, rdL_ok, rdB_ok, wrI_ok, wrL_ok, wrB_ok, nl, nI_add, nI_mul, iSub, iEq, iLe, iLt, iEqN, iNEq, iNN, iLtN, iNLt, iLeN, iNLe, iAddN, iNAdd, iMin, iMax, iDiv, iRem, h2, h8, Sp_sign_all _ h7]
        have h9 : sgn (tp r) ≠ 0 := by
          have : isL (tp r) = true := by simpa using ho
          exact of_decide_eq_true this
        rw [if_neg (by omega), if_neg (by omega), if_neg (by omega), if_pos h9]
  rw [hlp]
  rfl
def isW (tp : Nat → Nat) (n : Nat) : Bool := decide (0 < n ∧ ∀ i, i < n → isL (tp i) = true)
theorem wE_all {tp : Nat → Nat} {p n : Nat} (hp : p ≤ n) : wE tp p n = n ↔ ∀ i, p ≤ i → i < n → isL (tp i) = true := by
  have hr := run_ge (fun i => isL (tp i)) (n - p) p
  constructor
  · intro e i h1 h2
    exact run_in (fun i => isL (tp i)) (n - p) p i h1 (by unfold wE at e; omega)
  · intro e
    exact run_eq hp (by omega) e (fun q => by omega)
theorem Sp_isWord_ok {σ : Mem} {a : Nat} {tp : Nat → Nat} (h : tpA σ a tp) {n : Nat} (hn : n ≤ 600) : Sp_isWord σ (some a) (nI n) = some (isW tp n) := by
  unfold Sp_isWord isW
  by_cases h0 : n = 0
  · subst h0
    rfl
  · have e := wE_all (tp := tp) (p := 0) (n := n) (by omega)
    have hr := run_ge (fun i => isL (tp i)) (n - 0) 0
    have hr : wE tp 0 n ≤ n := by unfold wE; omega
    rw [show (0 : Int32) = nI 0 from rfl, Sp_wordEnd_ok h (by omega) hn]
    simp (disch := first | assumption | omega | (simp only [gT_sI, gT_sL, gT_sR, gT_sB]; first | assumption | omega)) only [Option.bind_some, ldI_ok, ldL_ok, ldR_ok, ldB_ok, stI_ok, stL_ok, stR_ok, stB_ok, chk_ok, raI_k, raL_k, raR_k, raB_k, waI_k, waL_k, waB_k, waR_k, alen_k, gT_sI, gT_sL, gT_sR, gT_sB, gN_sI, gN_sL, gN_sR, gN_sB, gI_sL, gI_sR, gI_sB, gL_sI, gL_sR, gL_sB, gR_sI, gR_sL, gR_sB, gB_sI, gB_sL, gB_sR, gI_sIs, gL_sLs, gR_sRs, gB_sBs, gI_sIn, gL_sLn, gR_sRn, gB_sBn, rdI_ok, rdL_ok, rdB_ok, wrI_ok, wrL_ok, wrB_ok, nl, nI_add, nI_mul, iSub, iEq, iLe, iLt, iEqN, iNEq, iNN, iLtN, iNLt, iLeN, iNLe, iAddN, iNAdd, iMin, iMax, iDiv, iRem]
    rw [if_neg (by omega)]
    by_cases q : wE tp 0 n = n
    · rw [if_neg (by simp [q])]
      have := e.mp q
      simp only [Option.some.injEq]
      symm
      rw [decide_eq_true_eq]
      exact ⟨by omega, fun i hi => this i (by omega) hi⟩
    · rw [if_pos q]
      simp only [Option.some.injEq]
      symm
      rw [decide_eq_false_iff_not]
      intro z
      exact q (e.mpr (fun i _ hi => z.2 i hi))
theorem Sp_isS_ok {σ : Mem} {a : Nat} {tp : Nat → Nat} (h : tpA σ a tp) {i : Nat} (hi : i < 600) : Sp_isS σ (some a) (nI i) = some (decide (low (tp i) = 115)) := by
  obtain ⟨h1, h2, h3⟩ := h
  obtain ⟨h7, h8⟩ := h3 i hi
  have := sgn_lt (tp i)
  unfold Sp_isS
  simp (disch := first | assumption | omega | (simp only [gT_sI, gT_sL, gT_sR, gT_sB]; first | assumption | omega)) only [Option.bind_some, ldI_ok, ldL_ok, ldR_ok, ldB_ok, stI_ok, stL_ok, stR_ok, stB_ok, chk_ok, raI_k, raL_k, raR_k, raB_k, waI_k, waL_k, waB_k, waR_k, alen_k, gT_sI, gT_sL, gT_sR, gT_sB, gN_sI, gN_sL, gN_sR, gN_sB, gI_sL, gI_sR, gI_sB, gL_sI, gL_sR, gL_sB, gR_sI, gR_sL, gR_sB, gB_sI, gB_sL, gB_sR, gI_sIs, gL_sLs, gR_sRs, gB_sBs, gI_sIn, gL_sLn, gR_sRn, gB_sBn, rdI_ok, rdL_ok, rdB_ok, wrI_ok, wrL_ok, wrB_ok, nl, nI_add, nI_mul, iSub, iEq, iLe, iLt, iEqN, iNEq, iNN, iLtN, iNLt, iLeN, iNLe, iAddN, iNAdd, iMin, iMax, iDiv, iRem, h2, h8, Sp_sign_all _ h7]
  rw [if_neg (by omega), if_neg (by omega)]
  by_cases q : sgn (tp i) = 29
  · rw [if_neg (by simp [q])]
    simp [(sgn_s _).mp q]
  · rw [if_pos q]
    simp
    exact fun z => q ((sgn_s _).mpr z)
theorem Sp_signsOf_ok {σ : Mem} {a : Nat} {tp : Nat → Nat} (h : tpA σ a tp) {p k : Nat} (hp : p + k ≤ 600) : Sp_signsOf σ (some a) (nI p) (nI k) = some (lN (sg ((List.range k).map (fun i => low (tp (p + i)))))) := by
  obtain ⟨h1, h2, h3⟩ := h
  unfold Sp_signsOf
  have hlp : lp (fun q : Int64 × Int32 => Sp_signsOf_l5 σ (some a) (nI p) (nI k) q.1 q.2) (0, nI p) = some (lN (sg ((List.range k).map (fun i => low (tp (p + i)))))) := by
    refine lp_seq (fun i => (lN (sg ((List.range i).map (fun i => low (tp (p + i))))), nI (p + i))) (m := k) (fun i hi => ?_) ?_
    · obtain ⟨h7, h8⟩ := h3 (p + i) (by omega)
      have := sgn_lt (tp (p + i))
      unfold Sp_signsOf_l5
      simp (disch := first | assumption | omega | (simp only [gT_sI, gT_sL, gT_sR, gT_sB]; first | assumption | omega)) only [Option.bind_some, ldI_ok, ldL_ok, ldR_ok, ldB_ok, stI_ok, stL_ok, stR_ok, stB_ok, chk_ok, raI_k, raL_k, raR_k, raB_k, waI_k, waL_k, waB_k, waR_k, alen_k, gT_sI, gT_sL, gT_sR, gT_sB, gN_sI, gN_sL, gN_sR, gN_sB, gI_sL, gI_sR, gI_sB, gL_sI, gL_sR, gL_sB, gR_sI, gR_sL, gR_sB, gB_sI, gB_sL, gB_sR, gI_sIs, gL_sLs, gR_sRs, gB_sBs, gI_sIn, gL_sLn, gR_sRn, gB_sBn, rdI_ok, rdL_ok, rdB_ok, wrI_ok, wrL_ok, wrB_ok, nl, nI_add, nI_mul, iSub, iEq, iLe, iLt, iEqN, iNEq, iNN, iLtN, iNLt, iLeN, iNLe, iAddN, iNAdd, iMin, iMax, iDiv, iRem, h2, h8, Sp_sign_all _ h7]
      rw [if_neg (by omega), if_neg (by omega), if_neg (by omega)]
      simp (disch := omega) only [nI_l, ll, lN_mul, lN_add]
      rw [List.range_succ, List.map_append, List.map_cons, List.map_nil, sg_snoc, (low_sgn _ h7).1]
      rfl
    · unfold Sp_signsOf_l5
      simp (disch := first | assumption | omega | (simp only [gT_sI, gT_sL, gT_sR, gT_sB]; first | assumption | omega)) only [nl, nI_add, nI_mul, iSub, iEq, iLe, iLt, iEqN, iNEq, iNN, iLtN, iNLt, iLeN, iNLe, iAddN, iNAdd, iMin, iMax, iDiv, iRem]
      rw [if_neg (by omega), if_pos (by omega)]
  rw [hlp]
  rfl
theorem Sp_padded_ok {x k : Nat} (hk : k ≤ 12) : Sp_padded (lN x) (nI k) = some (lN (x * 37 ^ (12 - k))) := by
  unfold Sp_padded
  have hlp : lp (fun q : Int64 × Int32 => Sp_padded_l5 q.1 q.2) (lN x, nI k) = some (lN (x * 37 ^ (12 - k))) := by
    have := lp_seq (f := fun q : Int64 × Int32 => Sp_padded_l5 q.1 q.2) (fun i => (lN (x * 37 ^ i), nI (k + i))) (m := 12 - k) (b := lN (x * 37 ^ (12 - k))) (fun i hi => ?_) ?_
    · simpa using this
    · unfold Sp_padded_l5
      simp (disch := first | assumption | omega | (simp only [gT_sI, gT_sL, gT_sR, gT_sB]; first | assumption | omega)) only [nl, nI_add, nI_mul, iSub, iEq, iLe, iLt, iEqN, iNEq, iNN, iLtN, iNLt, iLeN, iNLe, iAddN, iNAdd, iMin, iMax, iDiv, iRem]
      rw [if_neg (by omega)]
      simp only [ll, lN_mul, Nat.pow_succ, Nat.mul_assoc]
      rfl
    · unfold Sp_padded_l5
      simp (disch := first | assumption | omega | (simp only [gT_sI, gT_sL, gT_sR, gT_sB]; first | assumption | omega)) only [nl, nI_add, nI_mul, iSub, iEq, iLe, iLt, iEqN, iNEq, iNN, iLtN, iNLt, iLeN, iNLe, iAddN, iNAdd, iMin, iMax, iDiv, iRem]
      rw [if_pos (by omega)]
  rw [hlp]
  rfl
theorem small_len (tp : Nat → Nat) (p k : Nat) : (small tp p k).length = min k 12 := by simp [small]
theorem small_at {tp : Nat → Nat} {p k i : Nat} (h : i < min k 12) : (small tp p k).getD i 0 = low (tp (p + i)) := by
  rw [List.getD_eq_getElem?_getD, List.getElem?_eq_getElem (by rw [small_len]; exact h)]
  simp [small]
theorem small_take {tp : Nat → Nat} {p k m : Nat} (h : m ≤ min k 12) : (small tp p k).take m = (List.range m).map (fun i => low (tp (p + i))) := by
  unfold small
  rw [← List.map_take, List.take_range, Nat.min_eq_left h]
/-- a row of letters and digits -/
def isWd (tp : Nat → Nat) (p k : Nat) : Prop := ∀ i, i < k → tp (p + i) < 256 ∧ isL (tp (p + i)) = true
theorem small_term {tp : Nat → Nat} {p k : Nat} (h : isWd tp p k) : isTerm (small tp p k) := by
  refine ⟨by rw [small_len]; omega, fun c hc => ?_⟩
  obtain ⟨i, hi, rfl⟩ := List.mem_map.mp hc
  have hi := List.mem_range.mp hi
  obtain ⟨h1, h2⟩ := h i (by omega)
  exact (low_sgn _ h1).2 h2
theorem take_term {t : List Nat} (h : isTerm t) (m : Nat) : isTerm (t.take m) := ⟨by have := h.1; rw [List.length_take]; omega, fun c hc => h.2 c (List.mem_of_mem_take hc)⟩
theorem stem_term {st : Bool} {t : List Nat} (h : isTerm t) : isTerm (stemT st t) := by
  unfold stemT
  split
  · exact take_term h _
  · exact h
theorem nil_term : isTerm [] := ⟨by simp, by simp⟩
theorem mkT_term {st sp : Bool} {tp : Nat → Nat} {p k : Nat} (h : isWd tp p k) : isTerm (mkT st sp tp p k) := by
  unfold mkT
  split
  · exact nil_term
  · exact stem_term (small_term h)
theorem stopL_term : ∀ t ∈ stopL, isTerm t := by
  have : ∀ t ∈ stopL, t.length ≤ 12 ∧ ∀ c ∈ t, (48 ≤ c ∧ c ≤ 57) ∨ (97 ≤ c ∧ c ≤ 122) := by decide
  exact this
theorem sg_small {tp : Nat → Nat} {p k : Nat} : sg ((List.range k).map (fun i => low (tp (p + i)))) = sg ((List.range k).map (fun i => low (tp (p + i)))) := rfl
/-- the class's speller at s, its stop terms at s1 -/
def isSp (σ : Mem) (s : Nat) (st sp : Bool) : Prop := (gT σ s).1 = 7 ∧ gB σ s 0 = st ∧ gB σ s 1 = sp ∧ ∃ q, gR σ s 2 = some q ∧ (gT σ q).1 = 101 ∧ (gT σ q).2 = 11 ∧ ∀ i, i < 11 → gL σ q i = lN (enc (stopL.getD i []))
theorem Sp_isStop_ok {σ : Mem} {s : Nat} {st sp : Bool} (h : isSp σ s st sp) {t : List Nat} (ht : isTerm t) : Sp_isStop σ s (lN (enc t)) = some (decide (t ∈ stopL)) := by
  obtain ⟨h1, h2, h3, q, h4, h5, h6, h7⟩ := h
  have hlt := enc_lt ht.1
  have hst : ∀ i, i < 11 → stopL.getD i [] ∈ stopL := by decide
  have hmem : ∀ t ∈ stopL, ∃ i, i < 11 ∧ t = stopL.getD i [] := by decide
  have eqv : ∀ i, i < 11 → (lN (enc (stopL.getD i [])) = lN (enc t)) = (stopL.getD i [] = t) := fun i hi => by
    have g := stopL_term _ (hst i hi)
    have := enc_lt g.1
    rw [lEq (by omega) (by omega)]
    exact propext ⟨fun e => enc_inj g ht e, fun e => by rw [e]⟩
  unfold Sp_isStop
  have hlp : lp (fun x : Int32 => Sp_isStop_l2 σ s (lN (enc t)) x) (nI 0) = some (if t ∈ stopL then .inl () else .inr ()) := by
    refine lp_run (p := fun i => decide (stopL.getD i [] ≠ t)) 11 0 (fun i h8 h9 h10 => ?_) ?_
    · have h10 := of_decide_eq_true h10
      unfold Sp_isStop_l2
      simp (disch := first | assumption | omega | (simp only [gT_sI, gT_sL, gT_sR, gT_sB]; first | assumption | omega)) only [Option.bind_some, ldI_ok, ldL_ok, ldR_ok, ldB_ok, stI_ok, stL_ok, stR_ok, stB_ok, chk_ok, raI_k, raL_k, raR_k, raB_k, waI_k, waL_k, waB_k, waR_k, alen_k, gT_sI, gT_sL, gT_sR, gT_sB, gN_sI, gN_sL, gN_sR, gN_sB, gI_sL, gI_sR, gI_sB, gL_sI, gL_sR, gL_sB, gR_sI, gR_sL, gR_sB, gB_sI, gB_sL, gB_sR, gI_sIs, gL_sLs, gR_sRs, gB_sBs, gI_sIn, gL_sLn, gR_sRn, gB_sBn, rdI_ok, rdL_ok, rdB_ok, wrI_ok, wrL_ok, wrB_ok, nl, nI_add, nI_mul, iSub, iEq, iLe, iLt, iEqN, iNEq, iNN, iLtN, iNLt, iLeN, iNLe, iAddN, iNAdd, iMin, iMax, iDiv, iRem, h4, h6, h7 i (by omega), eqv i (by omega)]
      rw [if_neg (by omega), if_pos h10]
    · have hr := run_ge (fun i => decide (stopL.getD i [] ≠ t)) 11 0
      have hin := run_in (fun i => decide (stopL.getD i [] ≠ t)) 11 0
      have hou := run_out (fun i => decide (stopL.getD i [] ≠ t)) 11 0
      generalize run (fun i => decide (stopL.getD i [] ≠ t)) 11 0 = r at *
      unfold Sp_isStop_l2
      by_cases hz : r = 11
      · subst hz
        have hn : t ∉ stopL := fun hm => by
          obtain ⟨i, hi, e⟩ := hmem t hm
          exact of_decide_eq_true (hin i (by omega) hi) e.symm
        rw [if_neg hn]
        simp (disch := omega) only [nl, nI_add, nI_mul, iSub, iEq, iLe, iLt, iEqN, iNEq, iNN, iLtN, iNLt, iLeN, iNLe, iAddN, iNAdd, iMin, iMax, iDiv, iRem]
        rw [if_pos (by omega)]
      · have h10 := of_decide_eq_false (hou (by omega))
        have h10 : stopL.getD r [] = t := Decidable.not_not.mp h10
        simp (disch := first | assumption | omega | (simp only [gT_sI, gT_sL, gT_sR, gT_sB]; first | assumption | omega)) only [Option.bind_some, ldI_ok, ldL_ok, ldR_ok, ldB_ok, stI_ok, stL_ok, stR_ok, stB_ok, chk_ok, raI_k, raL_k, raR_k, raB_k, waI_k, waL_k, waB_k, waR_k, alen_k, gT_sI, gT_sL, gT_sR, gT_sB, gN_sI, gN_sL, gN_sR, gN_sB, gI_sL, gI_sR, gI_sB, gL_sI, gL_sR, gL_sB, gR_sI, gR_sL, gR_sB, gB_sI, gB_sL, gB_sR, gI_sIs, gL_sLs, gR_sRs, gB_sBs, gI_sIn, gL_sLn, gR_sRn, gB_sBn, rdI_ok, rdL_ok, rdB_ok, wrI_ok, wrL_ok, wrB_ok, nl, nI_add, nI_mul, iSub, iEq, iLe, iLt, iEqN, iNEq, iNN, iLtN, iNLt, iLeN, iNLe, iAddN, iNAdd, iMin, iMax, iDiv, iRem, h4, h6, h7 r (by omega), eqv r (by omega)]
        rw [if_neg (by omega), if_neg (fun z => z h10), if_pos (by rw [← h10]; exact hst r (by omega))]
  rw [show (0 : Int32) = nI 0 from rfl, hlp]
  by_cases hm : t ∈ stopL
  · rw [if_pos hm]
    simp [hm, se]
  · rw [if_neg hm]
    simp [hm, se]
theorem Sp_termOf_ok {σ : Mem} {s a : Nat} {st sp : Bool} {tp : Nat → Nat} (hs : isSp σ s st sp) (h : tpA σ a tp) {p k : Nat} (hp : p + k ≤ 600) (hw : isWd tp p k) : Sp_termOf σ s (some a) (nI p) (nI k) = some (lN (enc (mkT st sp tp p k))) := by
  have s1 := hs.1
  have hT := stem_term (st := st) (small_term hw)
  have hlen := small_len tp p k
  have hkept : ∃ m, m ≤ min k 12 ∧ stemT st (small tp p k) = (small tp p k).take m ∧ (if st = true then (if minI (nI k) 12 < 4 then some (minI (nI k) 12) else (Sp_isS σ (some a) ((nI p + minI (nI k) 12) - 1)).bind fun v5 => if v5 = true then (Sp_isS σ (some a) (((nI p + minI (nI k) 12) - 1) - 1)).bind fun v7 => if v7 = true then some (minI (nI k) 12) else some (minI (nI k) 12 + (-1)) else some (minI (nI k) 12)) else some (minI (nI k) 12)) = some (nI m) := by
    have hall : (small tp p k).take (min k 12) = small tp p k := by rw [← hlen, List.take_length]
    simp (disch := omega) only [nl, nI_add, nI_mul, iSub, iEq, iLe, iLt, iEqN, iNEq, iNN, iLtN, iNLt, iLeN, iNLe, iAddN, iNAdd, iMin, iMax, iDiv, iRem]
    by_cases c0 : st = true
    · by_cases c1 : min k 12 < 4
      · refine ⟨min k 12, by omega, ?_, by rw [if_pos c0, if_pos c1]⟩
        unfold stemT
        rw [if_neg (by omega), hall]
      · rw [if_pos c0, if_neg c1]
        rw [Sp_isS_ok h (by omega)]
        simp only [Option.bind_some]
        have a1 : (small tp p k).getD ((small tp p k).length - 1) 0 = low (tp (p + min k 12 - 1)) := by
          rw [hlen, small_at (by omega)]
          congr 2
          omega
        have a2 : (small tp p k).getD ((small tp p k).length - 2) 0 = low (tp (p + min k 12 - 1 - 1)) := by
          rw [hlen, small_at (by omega)]
          congr 2
          omega
        by_cases c2 : low (tp (p + min k 12 - 1)) = 115
        · rw [Sp_isS_ok h (by omega)]
          by_cases c3 : low (tp (p + min k 12 - 1 - 1)) = 115
          · refine ⟨min k 12, by omega, ?_, by simp [c2, c3]⟩
            unfold stemT
            rw [if_neg (by rw [a2]; exact fun z => z.2.2.2 c3), hall]
          · refine ⟨min k 12 - 1, by omega, ?_, by simp [c2, c3]⟩
            unfold stemT
            rw [if_pos ⟨c0, by omega, by rw [a1]; exact c2, by rw [a2]; exact c3⟩, hlen]
        · refine ⟨min k 12, by omega, ?_, by simp [c2]⟩
          unfold stemT
          rw [if_neg (by rw [a1]; exact fun z => c2 z.2.2.1), hall]
    · refine ⟨min k 12, by omega, ?_, by rw [if_neg c0]⟩
      unfold stemT
      rw [if_neg (fun z => c0 z.1), hall]
  obtain ⟨m, hm, e1, e2⟩ := hkept
  have hst : gB σ s 0 = st := hs.2.1
  have hsp : gB σ s 1 = sp := hs.2.2.1
  unfold Sp_termOf
  simp (disch := first | assumption | omega | (simp only [gT_sI, gT_sL, gT_sR, gT_sB]; first | assumption | omega)) only [Option.bind_some, ldI_ok, ldL_ok, ldR_ok, ldB_ok, stI_ok, stL_ok, stR_ok, stB_ok, chk_ok, raI_k, raL_k, raR_k, raB_k, waI_k, waL_k, waB_k, waR_k, alen_k, gT_sI, gT_sL, gT_sR, gT_sB, gN_sI, gN_sL, gN_sR, gN_sB, gI_sL, gI_sR, gI_sB, gL_sI, gL_sR, gL_sB, gR_sI, gR_sL, gR_sB, gB_sI, gB_sL, gB_sR, gI_sIs, gL_sLs, gR_sRs, gB_sBs, gI_sIn, gL_sLn, gR_sRn, gB_sBn, rdI_ok, rdL_ok, rdB_ok, wrI_ok, wrL_ok, wrB_ok, hst]
  rw [e2]
  simp only [Option.bind_some]
  rw [Sp_signsOf_ok h (by omega)]
  simp only [Option.bind_some]
  rw [Sp_padded_ok (by omega)]
  have e3 : sg ((List.range m).map (fun i => low (tp (p + i)))) * 37 ^ (12 - m) = enc (stemT st (small tp p k)) := by
    rw [e1, ← small_take hm]
    show _ = sg _ * 37 ^ (12 - _)
    rw [List.length_take, hlen, Nat.min_eq_left hm]
  simp only [Option.bind_some, e3, hsp]
  unfold mkT
  by_cases c : sp = true
  · rw [if_pos c, Sp_isStop_ok hs hT]
    simp only [Option.bind_some]
    by_cases c2 : stemT st (small tp p k) ∈ stopL
    · simp [c, c2]
      rfl
    · simp [c, c2]
  · rw [if_neg c, if_neg (fun z => c z.1)]
