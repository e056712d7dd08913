/-! THE CLASS'S PARSER, an object at ps; its query at q; the engine at e -/
abbrev sIx : Mem → Nat → Nat → Int32 → Mem := sI
abbrev sLx : Mem → Nat → Nat → Int64 → Mem := sL
abbrev sBx : Mem → Nat → Nat → Bool → Mem := sB
theorem Kp.i {W : Nat → Nat → Nat → Prop} {σ m : Mem} {a k : Nat} {v : Int32} (h : Kp W σ m) (hw : W 0 a k) : Kp W σ (sIx m a k v) := h.tr (Kp.sI hw) (fun _ _ _ _ q => q)
theorem Kp.l {W : Nat → Nat → Nat → Prop} {σ m : Mem} {a k : Nat} {v : Int64} (h : Kp W σ m) (hw : W 1 a k) : Kp W σ (sLx m a k v) := h.tr (Kp.sL hw) (fun _ _ _ _ q => q)
theorem Kp.b {W : Nat → Nat → Nat → Prop} {σ m : Mem} {a k : Nat} {v : Bool} (h : Kp W σ m) (hw : W 3 a k) : Kp W σ (sBx m a k v) := h.tr (Kp.sB hw) (fun _ _ _ _ q => q)
theorem up2_up2 {α : Type} (f : Nat → Nat → α) (a k : Nat) (v w : α) : up2 (up2 f a k v) a k w = up2 f a k w := by
  funext b j
  unfold up2
  by_cases h : b = a ∧ j = k
  · rw [if_pos h, if_pos h]
  · rw [if_neg h, if_neg h, if_neg h]
theorem sI_sI (σ : Mem) (a k : Nat) (v w : Int32) : sI (sI σ a k v) a k w = sI σ a k w := by
  unfold sI
  rw [up2_up2]
def cEnv (e ps q : Nat) (σ : Mem) (tp : Nat → Nat) (n : Nat) (st sp : Bool) : Prop := n ≤ 600 ∧ tpA σ (e + 3) tp ∧ ((gT σ (e + 1)).1 = 7 ∧ gB σ (e + 1) 0 = st ∧ gB σ (e + 1) 1 = sp ∧ gR σ (e + 1) 2 = some (e + 2) ∧ (gT σ (e + 2)).1 = 101 ∧ (gT σ (e + 2)).2 = 11 ∧ ∀ i, i < 11 → gL σ (e + 2) i = lN (enc (stopL.getD i []))) ∧ isQ σ q ∧ e + 4 ≤ q ∧ q + 162 ≤ e + 401 ∧ e + 401 ≤ ps ∧ ps < gN σ ∧ (gT σ ps).1 = 3 ∧ gR σ ps 0 = some (e + 3) ∧ gI σ ps 1 = nI n ∧ gR σ ps 2 = some (e + 1) ∧ gR σ ps 3 = some q
def cPc (ps : Nat) (σ : Mem) (tp : Nat → Nat) (n i : Nat) : Prop := i ≤ n ∧ gI σ ps 4 = nI (pK tp n i) ∧ gI σ ps 5 = nI (pS tp n i) ∧ gI σ ps 6 = nI (pE tp n i)
def wAd (ps : Nat) : Nat → Nat → Nat → Prop := fun t a k => t = 0 ∧ a = ps ∧ 4 ≤ k
def wPt (p : Nat) : Nat → Nat → Nat → Prop := fun t a _ => t ≠ 2 ∧ p ≤ a ∧ a < p + 3
def wAt (ps p : Nat) : Nat → Nat → Nat → Prop := fun t a k => wAd ps t a k ∨ wPt p t a k
def wPs (ps q : Nat) : Nat → Nat → Nat → Prop := fun t a k => wAd ps t a k ∨ (t ≠ 2 ∧ q ≤ a ∧ a < q + 162)
theorem isP.kp {σ σ' : Mem} {p : Nat} {W : Nat → Nat → Nat → Prop} (h : isP σ p) (hk : Kp W σ σ') (hp : p + 4 ≤ gN σ) (hw : ∀ a k, ¬ W 2 a k) : isP σ' p := by
  obtain ⟨a, b, c, d, f, g, i⟩ := h
  refine ⟨?_, ?_, ?_, ?_, ?_, ?_, ?_⟩
  · rw [hk.T (by omega)]; exact a
  · rw [hk.T (by omega)]; exact b
  · rw [hk.T (by omega)]; exact c
  · rw [hk.T (by omega)]; exact d
  · rw [hk.R (by omega) (hw _ _)]; exact f
  · rw [hk.R (by omega) (hw _ _)]; exact g
  · rw [hk.R (by omega) (hw _ _)]; exact i
theorem isQ.kp {σ σ' : Mem} {q : Nat} {W : Nat → Nat → Nat → Prop} (h : isQ σ q) (hk : Kp W σ σ') (hp : q + 162 ≤ gN σ) (hw : ∀ a k, ¬ W 2 a k) : isQ σ' q := by
  obtain ⟨a, b, c, d⟩ := h
  refine ⟨?_, ?_, ?_, fun j hj => ⟨?_, (d j hj).2.kp hk (by omega) hw⟩⟩
  · rw [hk.T (by omega)]; exact a
  · rw [hk.R (by omega) (hw _ _)]; exact b
  · rw [hk.T (by omega)]; exact c
  · rw [hk.R (by omega) (hw _ _)]; exact (d j hj).1
theorem cEnv.kp {e ps q n : Nat} {σ σ' : Mem} {tp : Nat → Nat} {st sp : Bool} {W : Nat → Nat → Nat → Prop} (h : cEnv e ps q σ tp n st sp) (hk : Kp W σ σ') (hw : ∀ t a k, W t a k → wPs ps q t a k) : cEnv e ps q σ' tp n st sp := by
  obtain ⟨h1, h2, ⟨s1, s2, s3, s4, s5, s6, s7⟩, h3, h4, h5, h6, h7, h8, h9, h10, h11, h12⟩ := h
  have w2 : ∀ a k, ¬ W 2 a k := fun a k z => by
    have := hw _ _ _ z
    unfold wPs wAd at this
    omega
  have w0 : ∀ t a k, (a < q ∨ (q + 162 ≤ a ∧ a ≠ ps) ∨ (a = ps ∧ k < 4)) → ¬ W t a k := fun t a k z z2 => by
    have := hw _ _ _ z2
    unfold wPs wAd at this
    omega
  have hn := hk.n
  refine ⟨h1, h2.kp hk (by omega) (fun k => w0 _ _ _ (by omega)), ⟨?_, ?_, ?_, ?_, ?_, ?_, fun i hi => ?_⟩, h3.kp hk (by omega) w2, h4, h5, h6, by omega, ?_, ?_, ?_, ?_, ?_⟩
  · rw [hk.T (by omega)]; exact s1
  · rw [hk.B (by omega) (w0 _ _ _ (by omega))]; exact s2
  · rw [hk.B (by omega) (w0 _ _ _ (by omega))]; exact s3
  · rw [hk.R (by omega) (w2 _ _)]; exact s4
  · rw [hk.T (by omega)]; exact s5
  · rw [hk.T (by omega)]; exact s6
  · rw [hk.L (by omega) (w0 _ _ _ (by omega))]; exact s7 i hi
  · rw [hk.T (by omega)]; exact h8
  · rw [hk.R (by omega) (w2 _ _)]; exact h9
  · rw [hk.I (by omega) (w0 _ _ _ (by omega))]; exact h10
  · rw [hk.R (by omega) (w2 _ _)]; exact h11
  · rw [hk.R (by omega) (w2 _ _)]; exact h12
theorem cEnv.sp {e ps q n : Nat} {σ : Mem} {tp : Nat → Nat} {st sp : Bool} (h : cEnv e ps q σ tp n st sp) : isSp σ (e + 1) st sp := by
  obtain ⟨s1, s2, s3, s4, s5, s6, s7⟩ := h.2.2.1
  exact ⟨s1, s2, s3, e + 2, s4, s5, s6, s7⟩
theorem cEnv.ps {e ps q n : Nat} {σ : Mem} {tp : Nat → Nat} {st sp : Bool} (h : cEnv e ps q σ tp n st sp) : (gT σ ps).1 = 3 ∧ gR σ ps 0 = some (e + 3) ∧ gI σ ps 1 = nI n ∧ gR σ ps 2 = some (e + 1) ∧ gR σ ps 3 = some q ∧ e + 401 ≤ ps ∧ ps < gN σ ∧ n ≤ 600 :=
  ⟨h.2.2.2.2.2.2.2.2.1, h.2.2.2.2.2.2.2.2.2.1, h.2.2.2.2.2.2.2.2.2.2.1, h.2.2.2.2.2.2.2.2.2.2.2.1, h.2.2.2.2.2.2.2.2.2.2.2.2, h.2.2.2.2.2.2.1, h.2.2.2.2.2.2.2.1, h.1⟩
theorem cEnv.pt {e ps q n : Nat} {σ : Mem} {tp : Nat → Nat} {st sp : Bool} (h : cEnv e ps q σ tp n st sp) {j : Nat} (hj : j < 40) : gR σ (q + 1) j = some (q + (2 + 4 * j)) ∧ isP σ (q + (2 + 4 * j)) := h.2.2.2.1.2.2.2 j hj
theorem wAd_wPs {ps q : Nat} : ∀ t a k, wAd ps t a k → wPs ps q t a k := fun _ _ _ z => .inl z
theorem Ps_advance_ok {e ps q n : Nat} {σ : Mem} {tp : Nat → Nat} {st sp : Bool} (h : cEnv e ps q σ tp n st sp) {i : Nat} (hi : i ≤ n) (hE : gI σ ps 6 = nI i) : ∃ σ', Ps_advance σ ps = some σ' ∧ Kp (wAd ps) σ σ' ∧ cPc ps σ' tp n i := by
  obtain ⟨t0, r0, i1, r2, r3, hps, hlt, hn⟩ := h.ps
  obtain ⟨ta, tb, tc⟩ := h.2.1
  have hS := pS_b (tp := tp) hi
  have hT := fun j (hj : j < 600) => (tc j hj).1
  have k1 : ∀ v, Kp (wAd ps) σ (sI σ ps 5 v) := fun v => Kp.sI ⟨rfl, rfl, by decide⟩
  have tpz : ∀ v, tpA (sI σ ps 5 v) (e + 3) tp := fun v => h.2.1.kp (k1 v) (by omega) (fun k z => by unfold wAd at z; omega)
  have hlp : lp (fun q => Ps_advance_l8 q ps) (sI σ ps 5 (nI i)) = some (sI σ ps 5 (nI (pS tp n i))) := by
    refine lp_seq (fun j => sI σ ps 5 (nI (i + j))) (m := pS tp n i - i) (fun j hj => ?_) ?_
    · have c := run_in (fun j => decide (tp j = 32)) (n - i) i (i + j) (by omega) (by unfold pS at hj; omega)
      rw [decide_eq_true_eq] at c
      obtain ⟨u1, u2⟩ := tc (i + j) (by omega)
      have e32 := (jb_all _ u1).2.1
      unfold Ps_advance_l8
      simp (disch := first | assumption | omega | (simp only [gT_sI, gT_sL, gT_sR, gT_sB]; first | assumption | omega)) only [Option.bind_some, ldI_ok, ldL_ok, ldR_ok, ldB_ok, stI_ok, stL_ok, stR_ok, stB_ok, chk_ok, raI_k, raL_k, raR_k, raB_k, waI_k, waL_k, waB_k, waR_k, alen_k, gT_sI, gT_sL, gT_sR, gT_sB, gN_sI, gN_sL, gN_sR, gN_sB, gI_sL, gI_sR, gI_sB, gL_sI, gL_sR, gL_sB, gR_sI, gR_sL, gR_sB, gB_sI, gB_sL, gB_sR, gI_sIs, gL_sLs, gR_sRs, gB_sBs, gI_sIn, gL_sLn, gR_sRn, gB_sBn, rdI_ok, rdL_ok, rdB_ok, wrI_ok, wrL_ok, wrB_ok, i1, r0]
      simp (disch := omega) only [iLe]
      rw [if_neg (by omega)]
      simp (disch := first | assumption | omega | (simp only [gT_sI, gT_sL, gT_sR, gT_sB]; first | assumption | omega)) only [Option.bind_some, ldI_ok, ldL_ok, ldR_ok, ldB_ok, stI_ok, stL_ok, stR_ok, stB_ok, chk_ok, raI_k, raL_k, raR_k, raB_k, waI_k, waL_k, waB_k, waR_k, alen_k, gT_sI, gT_sL, gT_sR, gT_sB, gN_sI, gN_sL, gN_sR, gN_sB, gI_sL, gI_sR, gI_sB, gL_sI, gL_sR, gL_sB, gR_sI, gR_sL, gR_sB, gB_sI, gB_sL, gB_sR, gI_sIs, gL_sLs, gR_sRs, gB_sBs, gI_sIn, gL_sLn, gR_sRn, gB_sBn, rdI_ok, rdL_ok, rdB_ok, wrI_ok, wrL_ok, wrB_ok, tb, u2]
      rw [if_neg (by rw [e32]; simp [c])]
      rw [sI_sI, show (1 : Int32) = nI 1 from rfl, nI_add]
      rfl
    · rw [Nat.add_sub_cancel' hS.1]
      unfold Ps_advance_l8
      simp (disch := first | assumption | omega | (simp only [gT_sI, gT_sL, gT_sR, gT_sB]; first | assumption | omega)) only [Option.bind_some, ldI_ok, ldL_ok, ldR_ok, ldB_ok, stI_ok, stL_ok, stR_ok, stB_ok, chk_ok, raI_k, raL_k, raR_k, raB_k, waI_k, waL_k, waB_k, waR_k, alen_k, gT_sI, gT_sL, gT_sR, gT_sB, gN_sI, gN_sL, gN_sR, gN_sB, gI_sL, gI_sR, gI_sB, gL_sI, gL_sR, gL_sB, gR_sI, gR_sL, gR_sB, gB_sI, gB_sL, gB_sR, gI_sIs, gL_sLs, gR_sRs, gB_sBs, gI_sIn, gL_sLn, gR_sRn, gB_sBn, rdI_ok, rdL_ok, rdB_ok, wrI_ok, wrL_ok, wrB_ok, i1, r0]
      simp (disch := omega) only [iLe]
      by_cases c : n ≤ pS tp n i
      · rw [if_pos c]
      · rw [if_neg c]
        have c2 := run_out (fun j => decide (tp j = 32)) (n - i) i (by unfold pS at c; omega)
        rw [decide_eq_false_iff_not] at c2
        have c2 : ¬ tp (pS tp n i) = 32 := c2
        obtain ⟨u1, u2⟩ := tc (pS tp n i) (by omega)
        have e32 := (jb_all _ u1).2.1
        simp (disch := first | assumption | omega | (simp only [gT_sI, gT_sL, gT_sR, gT_sB]; first | assumption | omega)) only [Option.bind_some, ldI_ok, ldL_ok, ldR_ok, ldB_ok, stI_ok, stL_ok, stR_ok, stB_ok, chk_ok, raI_k, raL_k, raR_k, raB_k, waI_k, waL_k, waB_k, waR_k, alen_k, gT_sI, gT_sL, gT_sR, gT_sB, gN_sI, gN_sL, gN_sR, gN_sB, gI_sL, gI_sR, gI_sB, gL_sI, gL_sR, gL_sB, gR_sI, gR_sL, gR_sB, gB_sI, gB_sL, gB_sR, gI_sIs, gL_sLs, gR_sRs, gB_sBs, gI_sIn, gL_sLn, gR_sRn, gB_sBn, rdI_ok, rdL_ok, rdB_ok, wrI_ok, wrL_ok, wrB_ok, tb, u2]
        rw [if_pos (fun z => c2 (e32.mp z))]
  unfold Ps_advance
  simp (disch := first | assumption | omega | (simp only [gT_sI, gT_sL, gT_sR, gT_sB]; first | assumption | omega)) only [Option.bind_some, ldI_ok, ldL_ok, ldR_ok, ldB_ok, stI_ok, stL_ok, stR_ok, stB_ok, chk_ok, raI_k, raL_k, raR_k, raB_k, waI_k, waL_k, waB_k, waR_k, alen_k, gT_sI, gT_sL, gT_sR, gT_sB, gN_sI, gN_sL, gN_sR, gN_sB, gI_sL, gI_sR, gI_sB, gL_sI, gL_sR, gL_sB, gR_sI, gR_sL, gR_sB, gB_sI, gB_sL, gB_sR, gI_sIs, gL_sLs, gR_sRs, gB_sBs, gI_sIn, gL_sLn, gR_sRn, gB_sBn, rdI_ok, rdL_ok, rdB_ok, wrI_ok, wrL_ok, wrB_ok, hE]
  rw [hlp]
  simp (disch := first | assumption | omega | (simp only [gT_sI, gT_sL, gT_sR, gT_sB]; first | assumption | omega)) only [Option.bind_some, ldI_ok, ldL_ok, ldR_ok, ldB_ok, stI_ok, stL_ok, stR_ok, stB_ok, chk_ok, raI_k, raL_k, raR_k, raB_k, waI_k, waL_k, waB_k, waR_k, alen_k, gT_sI, gT_sL, gT_sR, gT_sB, gN_sI, gN_sL, gN_sR, gN_sB, gI_sL, gI_sR, gI_sB, gL_sI, gL_sR, gL_sB, gR_sI, gR_sL, gR_sB, gB_sI, gB_sL, gB_sR, gI_sIs, gL_sLs, gR_sRs, gB_sBs, gI_sIn, gL_sLn, gR_sRn, gB_sBn, rdI_ok, rdL_ok, rdB_ok, wrI_ok, wrL_ok, wrB_ok, i1]
  simp (disch := omega) only [iLt]
  unfold cPc pK pE
  by_cases c : pS tp n i < n
  · rw [if_pos c, if_pos c, if_pos c]
    obtain ⟨u1, u2⟩ := tc (pS tp n i) (by omega)
    have hw := wE_b (tp := tp) (p := pS tp n i) (b := n) hS.2
    simp (disch := first | assumption | omega | (simp only [gT_sI, gT_sL, gT_sR, gT_sB]; first | assumption | omega)) only [Option.bind_some, ldI_ok, ldL_ok, ldR_ok, ldB_ok, stI_ok, stL_ok, stR_ok, stB_ok, chk_ok, raI_k, raL_k, raR_k, raB_k, waI_k, waL_k, waB_k, waR_k, alen_k, gT_sI, gT_sL, gT_sR, gT_sB, gN_sI, gN_sL, gN_sR, gN_sB, gI_sL, gI_sR, gI_sB, gL_sI, gL_sR, gL_sB, gR_sI, gR_sL, gR_sB, gB_sI, gB_sL, gB_sR, gI_sIs, gL_sLs, gR_sRs, gB_sBs, gI_sIn, gL_sLn, gR_sRn, gB_sBn, rdI_ok, rdL_ok, rdB_ok, wrI_ok, wrL_ok, wrB_ok, r0, i1]
    rw [Sp_wordEnd_ok (tpz _) hS.2 hn]
    simp (disch := first | assumption | omega | (simp only [gT_sI, gT_sL, gT_sR, gT_sB]; first | assumption | omega)) only [Option.bind_some, ldI_ok, ldL_ok, ldR_ok, ldB_ok, stI_ok, stL_ok, stR_ok, stB_ok, chk_ok, raI_k, raL_k, raR_k, raB_k, waI_k, waL_k, waB_k, waR_k, alen_k, gT_sI, gT_sL, gT_sR, gT_sB, gN_sI, gN_sL, gN_sR, gN_sB, gI_sL, gI_sR, gI_sB, gL_sI, gL_sR, gL_sB, gR_sI, gR_sL, gR_sB, gB_sI, gB_sL, gB_sR, gI_sIs, gL_sLs, gR_sRs, gB_sBs, gI_sIn, gL_sLn, gR_sRn, gB_sBn, rdI_ok, rdL_ok, rdB_ok, wrI_ok, wrL_ok, wrB_ok, r0, i1]
    simp (disch := omega) only [iEq]
    by_cases c2 : isL (tp (pS tp n i)) = true
    · have hg := wE_gt (b := n) c c2
      rw [if_pos (by omega), if_pos c2, if_pos c2]
      refine ⟨_, rfl, (((k1 _).i ⟨rfl, rfl, by decide⟩).i ⟨rfl, rfl, by decide⟩), hi, ?_, ?_, ?_⟩
      · rw [gI_sIs]; rfl
      · simp (disch := first | assumption | omega | (simp only [gT_sI, gT_sL, gT_sR, gT_sB]; first | assumption | omega)) only [Option.bind_some, ldI_ok, ldL_ok, ldR_ok, ldB_ok, stI_ok, stL_ok, stR_ok, stB_ok, chk_ok, raI_k, raL_k, raR_k, raB_k, waI_k, waL_k, waB_k, waR_k, alen_k, gT_sI, gT_sL, gT_sR, gT_sB, gN_sI, gN_sL, gN_sR, gN_sB, gI_sL, gI_sR, gI_sB, gL_sI, gL_sR, gL_sB, gR_sI, gR_sL, gR_sB, gB_sI, gB_sL, gB_sR, gI_sIs, gL_sLs, gR_sRs, gB_sBs, gI_sIn, gL_sLn, gR_sRn, gB_sBn, rdI_ok, rdL_ok, rdB_ok, wrI_ok, wrL_ok, wrB_ok]
      · simp (disch := first | assumption | omega | (simp only [gT_sI, gT_sL, gT_sR, gT_sB]; first | assumption | omega)) only [Option.bind_some, ldI_ok, ldL_ok, ldR_ok, ldB_ok, stI_ok, stL_ok, stR_ok, stB_ok, chk_ok, raI_k, raL_k, raR_k, raB_k, waI_k, waL_k, waB_k, waR_k, alen_k, gT_sI, gT_sL, gT_sR, gT_sB, gN_sI, gN_sL, gN_sR, gN_sB, gI_sL, gI_sR, gI_sB, gL_sI, gL_sR, gL_sB, gR_sI, gR_sL, gR_sB, gB_sI, gB_sL, gB_sR, gI_sIs, gL_sLs, gR_sRs, gB_sBs, gI_sIn, gL_sLn, gR_sRn, gB_sBn, rdI_ok, rdL_ok, rdB_ok, wrI_ok, wrL_ok, wrB_ok]
    · have hg : wE tp (pS tp n i) n = pS tp n i := by
        refine run_eq (Nat.le_refl _) (by omega) (fun j h1 h2 => by omega) (fun _ => Bool.eq_false_iff.mpr c2)
      rw [if_neg (by rw [hg]; simp), if_neg c2, if_neg c2]
      simp (disch := first | assumption | omega | (simp only [gT_sI, gT_sL, gT_sR, gT_sB]; first | assumption | omega)) only [Option.bind_some, ldI_ok, ldL_ok, ldR_ok, ldB_ok, stI_ok, stL_ok, stR_ok, stB_ok, chk_ok, raI_k, raL_k, raR_k, raB_k, waI_k, waL_k, waB_k, waR_k, alen_k, gT_sI, gT_sL, gT_sR, gT_sB, gN_sI, gN_sL, gN_sR, gN_sB, gI_sL, gI_sR, gI_sB, gL_sI, gL_sR, gL_sB, gR_sI, gR_sL, gR_sB, gB_sI, gB_sL, gB_sR, gI_sIs, gL_sLs, gR_sRs, gB_sBs, gI_sIn, gL_sLn, gR_sRn, gB_sBn, rdI_ok, rdL_ok, rdB_ok, wrI_ok, wrL_ok, wrB_ok, r0, tb, u2]
      refine ⟨_, rfl, (((((k1 _).i ⟨rfl, rfl, by decide⟩).i ⟨rfl, rfl, by decide⟩).i ⟨rfl, rfl, by decide⟩).i ⟨rfl, rfl, by decide⟩), hi, ?_, ?_, ?_⟩
      · simp (disch := first | assumption | omega | (simp only [gT_sI, gT_sL, gT_sR, gT_sB]; first | assumption | omega)) only [Option.bind_some, ldI_ok, ldL_ok, ldR_ok, ldB_ok, stI_ok, stL_ok, stR_ok, stB_ok, chk_ok, raI_k, raL_k, raR_k, raB_k, waI_k, waL_k, waB_k, waR_k, alen_k, gT_sI, gT_sL, gT_sR, gT_sB, gN_sI, gN_sL, gN_sR, gN_sB, gI_sL, gI_sR, gI_sB, gL_sI, gL_sR, gL_sB, gR_sI, gR_sL, gR_sB, gB_sI, gB_sL, gB_sR, gI_sIs, gL_sLs, gR_sRs, gB_sBs, gI_sIn, gL_sLn, gR_sRn, gB_sBn, rdI_ok, rdL_ok, rdB_ok, wrI_ok, wrL_ok, wrB_ok]
        exact (jb_all _ u1).1
      · simp (disch := first | assumption | omega | (simp only [gT_sI, gT_sL, gT_sR, gT_sB]; first | assumption | omega)) only [Option.bind_some, ldI_ok, ldL_ok, ldR_ok, ldB_ok, stI_ok, stL_ok, stR_ok, stB_ok, chk_ok, raI_k, raL_k, raR_k, raB_k, waI_k, waL_k, waB_k, waR_k, alen_k, gT_sI, gT_sL, gT_sR, gT_sB, gN_sI, gN_sL, gN_sR, gN_sB, gI_sL, gI_sR, gI_sB, gL_sI, gL_sR, gL_sB, gR_sI, gR_sL, gR_sB, gB_sI, gB_sL, gB_sR, gI_sIs, gL_sLs, gR_sRs, gB_sBs, gI_sIn, gL_sLn, gR_sRn, gB_sBn, rdI_ok, rdL_ok, rdB_ok, wrI_ok, wrL_ok, wrB_ok]
      · simp (disch := first | assumption | omega | (simp only [gT_sI, gT_sL, gT_sR, gT_sB]; first | assumption | omega)) only [Option.bind_some, ldI_ok, ldL_ok, ldR_ok, ldB_ok, stI_ok, stL_ok, stR_ok, stB_ok, chk_ok, raI_k, raL_k, raR_k, raB_k, waI_k, waL_k, waB_k, waR_k, alen_k, gT_sI, gT_sL, gT_sR, gT_sB, gN_sI, gN_sL, gN_sR, gN_sB, gI_sL, gI_sR, gI_sB, gL_sI, gL_sR, gL_sB, gR_sI, gR_sL, gR_sB, gB_sI, gB_sL, gB_sR, gI_sIs, gL_sLs, gR_sRs, gB_sBs, gI_sIn, gL_sLn, gR_sRn, gB_sBn, rdI_ok, rdL_ok, rdB_ok, wrI_ok, wrL_ok, wrB_ok]
        rw [show (1 : Int32) = nI 1 from rfl, nI_add]
  · rw [if_neg c, if_neg c, if_neg c]
    refine ⟨_, rfl, (((k1 _).i ⟨rfl, rfl, by decide⟩).i ⟨rfl, rfl, by decide⟩), hi, ?_, ?_, ?_⟩
    · simp (disch := first | assumption | omega | (simp only [gT_sI, gT_sL, gT_sR, gT_sB]; first | assumption | omega)) only [Option.bind_some, ldI_ok, ldL_ok, ldR_ok, ldB_ok, stI_ok, stL_ok, stR_ok, stB_ok, chk_ok, raI_k, raL_k, raR_k, raB_k, waI_k, waL_k, waB_k, waR_k, alen_k, gT_sI, gT_sL, gT_sR, gT_sB, gN_sI, gN_sL, gN_sR, gN_sB, gI_sL, gI_sR, gI_sB, gL_sI, gL_sR, gL_sB, gR_sI, gR_sL, gR_sB, gB_sI, gB_sL, gB_sR, gI_sIs, gL_sLs, gR_sRs, gB_sBs, gI_sIn, gL_sLn, gR_sRn, gB_sBn, rdI_ok, rdL_ok, rdB_ok, wrI_ok, wrL_ok, wrB_ok]; rfl
    · simp (disch := first | assumption | omega | (simp only [gT_sI, gT_sL, gT_sR, gT_sB]; first | assumption | omega)) only [Option.bind_some, ldI_ok, ldL_ok, ldR_ok, ldB_ok, stI_ok, stL_ok, stR_ok, stB_ok, chk_ok, raI_k, raL_k, raR_k, raB_k, waI_k, waL_k, waB_k, waR_k, alen_k, gT_sI, gT_sL, gT_sR, gT_sB, gN_sI, gN_sL, gN_sR, gN_sB, gI_sL, gI_sR, gI_sB, gL_sI, gL_sR, gL_sB, gR_sI, gR_sL, gR_sB, gB_sI, gB_sL, gB_sR, gI_sIs, gL_sLs, gR_sRs, gB_sBs, gI_sIn, gL_sLn, gR_sRn, gB_sBn, rdI_ok, rdL_ok, rdB_ok, wrI_ok, wrL_ok, wrB_ok]
    · simp (disch := first | assumption | omega | (simp only [gT_sI, gT_sL, gT_sR, gT_sB]; first | assumption | omega)) only [Option.bind_some, ldI_ok, ldL_ok, ldR_ok, ldB_ok, stI_ok, stL_ok, stR_ok, stB_ok, chk_ok, raI_k, raL_k, raR_k, raB_k, waI_k, waL_k, waB_k, waR_k, alen_k, gT_sI, gT_sL, gT_sR, gT_sB, gN_sI, gN_sL, gN_sR, gN_sB, gI_sL, gI_sR, gI_sB, gL_sI, gL_sR, gL_sB, gR_sI, gR_sL, gR_sB, gB_sI, gB_sL, gB_sR, gI_sIs, gL_sLs, gR_sRs, gB_sBs, gI_sIn, gL_sLn, gR_sRn, gB_sBn, rdI_ok, rdL_ok, rdB_ok, wrI_ok, wrL_ok, wrB_ok]
