/-! FRAMES: what W names may change (0 ints, 1 longs, 2 references, 3 truths), all else stays; what is new lies behind -/
def Kp (W : Nat → Nat → Nat → Prop) (σ σ' : Mem) : Prop := gN σ ≤ gN σ' ∧ (∀ a, a < gN σ → gT σ' a = gT σ a) ∧ ∀ a k, a < gN σ → (¬ W 0 a k → gI σ' a k = gI σ a k) ∧ (¬ W 1 a k → gL σ' a k = gL σ a k) ∧ (¬ W 2 a k → gR σ' a k = gR σ a k) ∧ (¬ W 3 a k → gB σ' a k = gB σ a k)
theorem Kp.rf {W : Nat → Nat → Nat → Prop} {σ : Mem} : Kp W σ σ := ⟨Nat.le_refl _, fun _ _ => rfl, fun _ _ _ => ⟨fun _ => rfl, fun _ => rfl, fun _ => rfl, fun _ => rfl⟩⟩
theorem Kp.n {W : Nat → Nat → Nat → Prop} {σ σ' : Mem} (h : Kp W σ σ') : gN σ ≤ gN σ' := h.1
theorem Kp.T {W : Nat → Nat → Nat → Prop} {σ σ' : Mem} (h : Kp W σ σ') {a : Nat} (ha : a < gN σ) : gT σ' a = gT σ a := h.2.1 a ha
theorem Kp.I {W : Nat → Nat → Nat → Prop} {σ σ' : Mem} (h : Kp W σ σ') {a k : Nat} (ha : a < gN σ) (hw : ¬ W 0 a k) : gI σ' a k = gI σ a k := (h.2.2 a k ha).1 hw
theorem Kp.L {W : Nat → Nat → Nat → Prop} {σ σ' : Mem} (h : Kp W σ σ') {a k : Nat} (ha : a < gN σ) (hw : ¬ W 1 a k) : gL σ' a k = gL σ a k := (h.2.2 a k ha).2.1 hw
theorem Kp.R {W : Nat → Nat → Nat → Prop} {σ σ' : Mem} (h : Kp W σ σ') {a k : Nat} (ha : a < gN σ) (hw : ¬ W 2 a k) : gR σ' a k = gR σ a k := (h.2.2 a k ha).2.2.1 hw
theorem Kp.B {W : Nat → Nat → Nat → Prop} {σ σ' : Mem} (h : Kp W σ σ') {a k : Nat} (ha : a < gN σ) (hw : ¬ W 3 a k) : gB σ' a k = gB σ a k := (h.2.2 a k ha).2.2.2 hw
theorem Kp.tr {W W' : Nat → Nat → Nat → Prop} {σ σ' σ'' : Mem} (h : Kp W σ σ') (h' : Kp W' σ' σ'') (hw : ∀ t a k, a < gN σ → W' t a k → W t a k) : Kp W σ σ'' := by
  have h0 := h.1
  refine ⟨Nat.le_trans h.1 h'.1, fun a ha => by rw [h'.T (by omega), h.T ha], fun a k ha => ⟨fun q => ?_, fun q => ?_, fun q => ?_, fun q => ?_⟩⟩
  · rw [h'.I (by omega) (fun z => q (hw _ _ _ ha z)), h.I ha q]
  · rw [h'.L (by omega) (fun z => q (hw _ _ _ ha z)), h.L ha q]
  · rw [h'.R (by omega) (fun z => q (hw _ _ _ ha z)), h.R ha q]
  · rw [h'.B (by omega) (fun z => q (hw _ _ _ ha z)), h.B ha q]
theorem Kp.mono {W W' : Nat → Nat → Nat → Prop} {σ σ' : Mem} (h : Kp W σ σ') (hw : ∀ t a k, a < gN σ → W t a k → W' t a k) : Kp W' σ σ' := Kp.tr (W := W') Kp.rf h hw
theorem Kp.sI {W : Nat → Nat → Nat → Prop} {σ : Mem} {a k : Nat} {v : Int32} (hw : W 0 a k) : Kp W σ (sI σ a k v) :=
  ⟨Nat.le_refl _, fun _ _ => rfl, fun b j _ => ⟨fun q => gI_sIn (fun z => q (by rw [z.1, z.2]; exact hw)), fun _ => rfl, fun _ => rfl, fun _ => rfl⟩⟩
theorem Kp.sL {W : Nat → Nat → Nat → Prop} {σ : Mem} {a k : Nat} {v : Int64} (hw : W 1 a k) : Kp W σ (sL σ a k v) :=
  ⟨Nat.le_refl _, fun _ _ => rfl, fun b j _ => ⟨fun _ => rfl, fun q => gL_sLn (fun z => q (by rw [z.1, z.2]; exact hw)), fun _ => rfl, fun _ => rfl⟩⟩
theorem Kp.sR {W : Nat → Nat → Nat → Prop} {σ : Mem} {a k : Nat} {v : Option Nat} (hw : W 2 a k) : Kp W σ (sR σ a k v) :=
  ⟨Nat.le_refl _, fun _ _ => rfl, fun b j _ => ⟨fun _ => rfl, fun _ => rfl, fun q => gR_sRn (fun z => q (by rw [z.1, z.2]; exact hw)), fun _ => rfl⟩⟩
theorem Kp.sB {W : Nat → Nat → Nat → Prop} {σ : Mem} {a k : Nat} {v : Bool} (hw : W 3 a k) : Kp W σ (sB σ a k v) :=
  ⟨Nat.le_refl _, fun _ _ => rfl, fun b j _ => ⟨fun _ => rfl, fun _ => rfl, fun _ => rfl, fun q => gB_sBn (fun z => q (by rw [z.1, z.2]; exact hw))⟩⟩
theorem Kp.nw {W : Nat → Nat → Nat → Prop} {σ : Mem} {t : Nat × Nat} {w : Nat} : Kp W σ (nw σ t w) :=
  ⟨by rw [gN_nw]; omega, fun a ha => by rw [gT_nw, if_neg (by omega)], fun a k ha => ⟨fun _ => by rw [gI_nw, if_neg (by omega)], fun _ => by rw [gL_nw, if_neg (by omega)], fun _ => by rw [gR_nw, if_neg (by omega)], fun _ => by rw [gB_nw, if_neg (by omega)]⟩⟩
theorem Kp.nwC {W : Nat → Nat → Nat → Prop} {σ : Mem} {c : Nat} : Kp W σ (nwC σ c) :=
  ⟨by rw [gN_nwC]; omega, fun a ha => by rw [gT_nwC, if_neg (by omega)], fun a k ha => ⟨fun _ => by rw [gI_nwC, if_neg (by omega)], fun _ => by rw [gL_nwC, if_neg (by omega)], fun _ => by rw [gR_nwC, if_neg (by omega)], fun _ => by rw [gB_nwC, if_neg (by omega)]⟩⟩
/-- the block of the reference's cells -/
def wBlk (e : Nat) : Nat → Nat → Nat → Prop := fun _ a _ => e + 355 ≤ a ∧ a < e + 401
theorem Kp.eb {σ : Mem} {e : Nat} {R : RS} : Kp (wBlk e) σ (emb σ (e + 355) R) := by
  refine ⟨Nat.le_refl _, fun _ _ => rfl, fun a k _ => ⟨fun q => ?_, fun q => ?_, fun _ => rfl, fun q => ?_⟩⟩
  all_goals
    have h : ¬ inB (e + 355) a = true := by
      intro hh
      simp only [inB, Bool.and_eq_true, decide_eq_true_eq] at hh
      have h46 : NB = 46 := rfl
      unfold wBlk at q
      omega
    simp [gI, gL, gB, emb, h]
/-! HEAP CELLS behind lo -/
def hp (lo : Nat) (σ : Mem) (a t n : Nat) : Prop := lo ≤ a ∧ a < gN σ ∧ gT σ a = (t, n)
/-- of what lies behind lo, only the truths of documents, and parsers, may change -/
def Wh (lo : Nat) (σ : Mem) (W : Nat → Nat → Nat → Prop) : Prop := ∀ t a k, lo ≤ a → a < gN σ → W t a k → (t = 3 ∧ (gT σ a).1 = 1) ∨ (gT σ a).1 = 3
theorem hp.kp {lo a t n : Nat} {σ σ' : Mem} {W : Nat → Nat → Nat → Prop} (h : hp lo σ a t n) (hk : Kp W σ σ') : hp lo σ' a t n := ⟨h.1, Nat.lt_of_lt_of_le h.2.1 hk.1, by rw [hk.T h.2.1]; exact h.2.2⟩
theorem hp.I {lo a t n k : Nat} {σ σ' : Mem} {W : Nat → Nat → Nat → Prop} (h : hp lo σ a t n) (hk : Kp W σ σ') (hw : Wh lo σ W) (h3 : t ≠ 3) : gI σ' a k = gI σ a k := hk.I h.2.1 (fun q => by
  rcases hw _ _ _ h.1 h.2.1 q with z | z
  · cases z.1
  · rw [h.2.2] at z; exact h3 z)
theorem hp.L {lo a t n k : Nat} {σ σ' : Mem} {W : Nat → Nat → Nat → Prop} (h : hp lo σ a t n) (hk : Kp W σ σ') (hw : Wh lo σ W) (h3 : t ≠ 3) : gL σ' a k = gL σ a k := hk.L h.2.1 (fun q => by
  rcases hw _ _ _ h.1 h.2.1 q with z | z
  · cases z.1
  · rw [h.2.2] at z; exact h3 z)
theorem hp.R {lo a t n k : Nat} {σ σ' : Mem} {W : Nat → Nat → Nat → Prop} (h : hp lo σ a t n) (hk : Kp W σ σ') (hw : Wh lo σ W) (h3 : t ≠ 3) : gR σ' a k = gR σ a k := hk.R h.2.1 (fun q => by
  rcases hw _ _ _ h.1 h.2.1 q with z | z
  · cases z.1
  · rw [h.2.2] at z; exact h3 z)
theorem hp.t {lo a t n : Nat} {σ : Mem} (h : hp lo σ a t n) : (gT σ a).1 = t := by rw [h.2.2]
theorem hp.m {lo a t n : Nat} {σ : Mem} (h : hp lo σ a t n) : (gT σ a).2 = n := by rw [h.2.2]
theorem hp.g {lo a t n : Nat} {σ : Mem} (h : hp lo σ a t n) : gT σ a = (t, n) := h.2.2
/-! WHAT THE HEAP HOLDS -/
def tA (ts : List Tok) (j : Nat) : Tok := ts.getD j (0, 0, [])
def dA (D : List DocT) (i : Nat) : DocT := D.getD i (0, 0, 0, [], [])
/-- a vocabulary: different terms, the least first; c tells how often each is there -/
def vocE (E : List Nat) (c : Nat → Nat) : Prop := E.length < 1000000 ∧ (∀ i j, i < j → j < E.length → E.getD i 0 < E.getD j 0) ∧ (∀ t, t ∈ E ↔ t ≠ 0 ∧ 0 < c t) ∧ (∀ t, c t < 1000000) ∧ ∀ t, t ∈ E → t < 6582952005840035281
def isVoc (lo : Nat) (σ : Mem) (v : Nat) (c : Nat → Nat) : Prop := ∃ (q r : Nat) (E : List Nat), hp lo σ v 10 0 ∧ gR σ v 0 = some q ∧ gR σ v 1 = some r ∧ hp lo σ q 101 E.length ∧ hp lo σ r 100 E.length ∧ (∀ i, i < E.length → gL σ q i = lN (E.getD i 0) ∧ gI σ r i = nI (c (E.getD i 0))) ∧ vocE E c
/-- how many tokens have a term -/
def tcn (ts : List Tok) (t : Nat) : Nat := cN (fun j => decide (enc (tA ts j).2.2 = t)) ts.length
def isText (lo : Nat) (σ : Mem) (p : Nat) (ts : List Tok) : Prop := ∃ a b c v, hp lo σ p 8 0 ∧ gR σ p 0 = some a ∧ gR σ p 1 = some b ∧ gR σ p 2 = some c ∧ gR σ p 3 = some v ∧ hp lo σ a 100 ts.length ∧ hp lo σ b 100 ts.length ∧ hp lo σ c 101 ts.length ∧ (∀ j, j < ts.length → gI σ a j = nI (tA ts j).1 ∧ gI σ b j = nI (tA ts j).2.1 ∧ gL σ c j = lN (enc (tA ts j).2.2)) ∧ isVoc lo σ v (tcn ts)
def isDoc (lo : Nat) (σ : Mem) (a i : Nat) (d : DocT) : Prop := hp lo σ a 1 0 ∧ gL σ a 0 = dKey d ∧ gI σ a 1 = dX d ∧ gI σ a 2 = dY d ∧ gI σ a 3 = nI i ∧ ∃ p q, gR σ a 4 = some p ∧ gR σ a 5 = some q ∧ isText lo σ p (dTok d 0) ∧ isText lo σ q (dTok d 1)
/-- how many of some documents have a term in a field -/
def sgc (D : List DocT) (ds : List Nat) (f t : Nat) : Nat := cN (fun k => decide (0 < tcn (dTok (dA D (ds.getD k 0)) f) t)) ds.length
def isSeg (lo : Nat) (σ : Mem) (da : Nat → Nat) (D : List DocT) (s : Nat) (g : SegT) : Prop := ∃ q v w, hp lo σ s 6 0 ∧ gI σ s 0 = nI g.1 ∧ gR σ s 1 = some q ∧ gR σ s 2 = some v ∧ gR σ s 3 = some w ∧ hp lo σ q 104 g.2.length ∧ (∀ k, k < g.2.length → gR σ q k = some (da (g.2.getD k 0))) ∧ isVoc lo σ v (sgc D g.2 0) ∧ isVoc lo σ w (sgc D g.2 1)
theorem isVoc.kp {lo v : Nat} {σ σ' : Mem} {W : Nat → Nat → Nat → Prop} {c : Nat → Nat} (h : isVoc lo σ v c) (hk : Kp W σ σ') (hw : Wh lo σ W) : isVoc lo σ' v c := by
  obtain ⟨q, r, E, h1, h2, h3, h4, h5, h6, h7⟩ := h
  refine ⟨q, r, E, h1.kp hk, ?_, ?_, h4.kp hk, h5.kp hk, fun i hi => ?_, h7⟩
  · rw [h1.R hk hw (by decide)]; exact h2
  · rw [h1.R hk hw (by decide)]; exact h3
  · rw [h4.L hk hw (by decide), h5.I hk hw (by decide)]; exact h6 i hi
theorem isText.kp {lo p : Nat} {σ σ' : Mem} {W : Nat → Nat → Nat → Prop} {ts : List Tok} (h : isText lo σ p ts) (hk : Kp W σ σ') (hw : Wh lo σ W) : isText lo σ' p ts := by
  obtain ⟨a, b, c, v, h1, h2, h3, h4, h5, h6, h7, h8, h9, h10⟩ := h
  refine ⟨a, b, c, v, h1.kp hk, ?_, ?_, ?_, ?_, h6.kp hk, h7.kp hk, h8.kp hk, fun j hj => ?_, h10.kp hk hw⟩
  · rw [h1.R hk hw (by decide)]; exact h2
  · rw [h1.R hk hw (by decide)]; exact h3
  · rw [h1.R hk hw (by decide)]; exact h4
  · rw [h1.R hk hw (by decide)]; exact h5
  · rw [h6.I hk hw (by decide), h7.I hk hw (by decide), h8.L hk hw (by decide)]; exact h9 j hj
theorem isDoc.kp {lo a i : Nat} {σ σ' : Mem} {W : Nat → Nat → Nat → Prop} {d : DocT} (h : isDoc lo σ a i d) (hk : Kp W σ σ') (hw : Wh lo σ W) : isDoc lo σ' a i d := by
  obtain ⟨h1, h2, h3, h4, h5, p, q, h6, h7, h8, h9⟩ := h
  refine ⟨h1.kp hk, ?_, ?_, ?_, ?_, p, q, ?_, ?_, h8.kp hk hw, h9.kp hk hw⟩
  · rw [h1.L hk hw (by decide)]; exact h2
  · rw [h1.I hk hw (by decide)]; exact h3
  · rw [h1.I hk hw (by decide)]; exact h4
  · rw [h1.I hk hw (by decide)]; exact h5
  · rw [h1.R hk hw (by decide)]; exact h6
  · rw [h1.R hk hw (by decide)]; exact h7
theorem isSeg.kp {lo s : Nat} {σ σ' : Mem} {W : Nat → Nat → Nat → Prop} {da : Nat → Nat} {D : List DocT} {g : SegT} (h : isSeg lo σ da D s g) (hk : Kp W σ σ') (hw : Wh lo σ W) : isSeg lo σ' da D s g := by
  obtain ⟨q, v, w, h1, h2, h3, h4, h5, h6, h7, h8, h9⟩ := h
  refine ⟨q, v, w, h1.kp hk, ?_, ?_, ?_, ?_, h6.kp hk, fun k hk' => ?_, h8.kp hk hw, h9.kp hk hw⟩
  · rw [h1.I hk hw (by decide)]; exact h2
  · rw [h1.R hk hw (by decide)]; exact h3
  · rw [h1.R hk hw (by decide)]; exact h4
  · rw [h1.R hk hw (by decide)]; exact h5
  · rw [h6.R hk hw (by decide)]; exact h7 k hk'
/-! THE ENGINE -/
def fI (f : Option Nat) : Int32 := match f with
  | none => -1
  | some f => nI f
def cDocs (e : Nat) (da : Nat → Nat) (σ : Mem) (D : List DocT) (dl : Nat → Bool) : Prop := gI σ e 4 = nI D.length ∧ D.length ≤ 400 ∧ ∀ i, i < D.length → gR σ (e + 4) i = some (da i) ∧ isDoc (e + 401) σ (da i) i (dA D i) ∧ gB σ (da i) 6 = dl i
def gA (G : List SegT) (j : Nat) : SegT := G.getD j (0, [])
def cSegs (e : Nat) (da : Nat → Nat) (σ : Mem) (D : List DocT) (G : List SegT) : Prop := gI σ e 7 = nI G.length ∧ G.length ≤ 16 ∧ ∀ j, j < G.length → ∃ s, gR σ (e + 5) j = some s ∧ isSeg (e + 401) σ da D s (gA G j)
def vSegs (v : VwT) : List (List Nat) := v.2.1
def vDocs (v : VwT) : List Nat := v.2.1.flatten
def vDead (v : VwT) (k : Nat) : Bool := v.2.2.getD k false
def cView (e : Nat) (da : Nat → Nat) (σ : Mem) (D : List DocT) (i : Nat) (v : VwT) : Prop := gB σ (e + (8 + 4 * i)) 0 = v.1 ∧ (v.1 = true → gI σ (e + (8 + 4 * i)) 2 = nI (vSegs v).length ∧ (vSegs v).length ≤ 16 ∧ (∀ j, j < (vSegs v).length → ∃ s l, gR σ (e + (9 + 4 * i)) j = some s ∧ isSeg (e + 401) σ da D s (l, (vSegs v).getD j [])) ∧ gI σ (e + (8 + 4 * i)) 5 = nI (vDocs v).length ∧ (vDocs v).length ≤ 400 ∧ (∀ k, k < (vDocs v).length → gR σ (e + (10 + 4 * i)) k = some (da ((vDocs v).getD k 0)) ∧ gB σ (e + (11 + 4 * i)) k = vDead v k) ∧ gI σ (e + (8 + 4 * i)) 6 = nI (cN (fun k => !vDead v k) (vDocs v).length))
/-- a part at its place; what its kind doesn't read is free -/
def cPart (σ : Mem) (p : Nat) (x : PT) : Prop := gI σ p 0 = nI (pKind x) ∧ gI σ p 1 = fI (pField x) ∧ gB σ p 2 = pNeg x ∧ gB σ p 3 = pBar x ∧ gB σ p 4 = pSt x ∧ gI σ p 5 = nI (pBoost x) ∧ gI σ p 6 = nI (pEnd x) ∧ gI σ p 9 = nI (pTms x).length ∧ (pTms x).length ≤ 8 ∧ (∀ k, k < (pTms x).length → gL σ (p + 1) k = lN (enc ((pTms x).getD k ([], 0)).1) ∧ gI σ (p + 2) k = nI ((pTms x).getD k ([], 0)).2) ∧ gI σ p 10 = nI (pSlack x) ∧ (2 ≤ pKind x → gL σ p 12 = pLo x ∧ gL σ p 13 = pHi x) ∧ (pKind x = 3 → gI σ p 11 = nI (pWhat x))
def cQuery (σ : Mem) (q : Nat) (P : List PT) : Prop := gI σ q 1 = nI P.length ∧ P.length ≤ 40 ∧ ∀ j, j < P.length → cPart σ (q + (2 + 4 * j)) (P.getD j default)
def cAns (e : Nat) (da : Nat → Nat) (σ : Mem) (A : AnT) : Prop := gI σ (e + 24) 1 = A.1 ∧ gI σ (e + 24) 4 = nI A.2.1.length ∧ A.2.1.length ≤ 400 ∧ (∀ k, k < A.2.1.length → gR σ (e + 187) k = some (da (A.2.1.getD k (0, 0)).1) ∧ gI σ (e + 188) k = nI (A.2.1.getD k (0, 0)).2) ∧ ∃ aq, fixQ σ e aq ∧ cQuery σ (e + aq) A.2.2
def cNear (e : Nat) (σ : Mem) (nr : Option (List Nat)) : Prop := gL σ (e + 351) 0 = lN (match nr with | none => 0 | some t => enc t)
/-! the engine's components under frames -/
/-- references among the fixed cells that may change -/
def mtR (c k : Nat) : Prop := (c = 0 ∧ k = 13) ∨ c = 4 ∨ c = 5 ∨ c = 6 ∨ (8 ≤ c ∧ c < 24 ∧ (c % 4 = 1 ∨ c % 4 = 2)) ∨ (c = 24 ∧ k = 0) ∨ c = 187
def Wf (e : Nat) (W : Nat → Nat → Nat → Prop) : Prop := ∀ c k, c < 355 → (W 2 (e + c) k → mtR c k) ∧ (W 3 (e + c) k → c ≠ 1) ∧ (W 1 (e + c) k → c ≠ 2)
theorem cFix.kp {e : Nat} {σ σ' : Mem} {st sp : Bool} {W : Nat → Nat → Nat → Prop} (h : cFix e σ st sp) (hk : Kp W σ σ') (hw : Wf e W) : cFix e σ' st sp := by
  obtain ⟨h1, h2, h3, h4, h5, h6⟩ := h
  have r : ∀ c k, c < 355 → ¬ mtR c k → gR σ' (e + c) k = gR σ (e + c) k := fun c k hc hm => hk.R (by omega) (fun q => hm ((hw c k hc).1 q))
  have r0 : ∀ k, k ≠ 13 → gR σ' e k = gR σ e k := fun k hk' => r 0 k (by omega) (by unfold mtR; omega)
  refine ⟨fun c hc => ?_, ?_, ?_, ?_, fun i hi => ?_, by have := hk.1; omega⟩
  · rw [hk.T (by omega)]; exact h1 c hc
  · obtain ⟨a1, a2, a3, a4, a5, a6, a7, a8, a9, b, a10, a11, q, a12, a13, a14⟩ := h2
    refine ⟨?_, ?_, ?_, ?_, ?_, ?_, ?_, ?_, ?_, fun i hi => ?_, ?_, ?_, fun j hj => ?_, ?_, ?_, ?_⟩
    · rw [r0 _ (by omega)]; exact a1
    · rw [r0 _ (by omega)]; exact a2
    · rw [r0 _ (by omega)]; exact a3
    · rw [r0 _ (by omega)]; exact a4
    · rw [r0 _ (by omega)]; exact a5
    · rw [r0 _ (by omega)]; exact a6
    · rw [r0 _ (by omega)]; exact a7
    · rw [r0 _ (by omega)]; exact a8
    · rw [r _ _ (by omega) (by unfold mtR; omega)]; exact a9
    · obtain ⟨c1, c2, c3, c4⟩ := b i hi
      refine ⟨?_, ?_, ?_, ?_⟩
      · rw [r _ _ (by omega) (by unfold mtR; omega)]; exact c1
      · rw [r _ _ (by omega) (by unfold mtR; omega)]; exact c2
      · rw [r _ _ (by omega) (by unfold mtR; omega)]; exact c3
      · rw [r _ _ (by omega) (by unfold mtR; omega)]; exact c4
    · rw [r _ _ (by omega) (by unfold mtR; omega)]; exact a10
    · rw [r _ _ (by omega) (by unfold mtR; omega)]; exact a11
    · obtain ⟨c1, c2⟩ := q j hj
      refine ⟨?_, fun i hi => ?_⟩
      · rw [r _ _ (by omega) (by unfold mtR; omega)]; exact c1
      · obtain ⟨d1, d2, d3, d4⟩ := c2 i hi
        refine ⟨?_, ?_, ?_, ?_⟩
        · rw [r _ _ (by omega) (by unfold mtR; omega)]; exact d1
        · rw [r _ _ (by omega) (by unfold mtR; omega)]; exact d2
        · rw [r _ _ (by omega) (by unfold mtR; omega)]; exact d3
        · rw [r _ _ (by omega) (by unfold mtR; omega)]; exact d4
    · rw [r _ _ (by omega) (by unfold mtR; omega)]; exact a12
    · rw [r _ _ (by omega) (by unfold mtR; omega)]; exact a13
    · rw [r _ _ (by omega) (by unfold mtR; omega)]; exact a14
  · rw [hk.B (by omega) (fun q => (hw 1 0 (by omega)).2.1 q rfl)]; exact h3
  · rw [hk.B (by omega) (fun q => (hw 1 1 (by omega)).2.1 q rfl)]; exact h4
  · rw [hk.L (by omega) (fun q => (hw 2 i (by omega)).2.2 q rfl)]; exact h5 i hi
theorem cTape.kp {e : Nat} {σ σ' : Mem} {tp : Nat → Nat} {n : Nat} {W : Nat → Nat → Nat → Prop} (h : cTape e σ tp n) (hk : Kp W σ σ') (hN : e + 401 ≤ gN σ) (h1 : ¬ W 0 e 2) (h2 : ∀ k, ¬ W 0 (e + 3) k) : cTape e σ' tp n := by
  obtain ⟨a, b, c⟩ := h
  refine ⟨a, ?_, fun i hi => ?_⟩
  · rw [hk.I (by omega) h1]; exact b
  · rw [hk.I (by omega) (h2 i)]; exact c i hi
theorem cDocs.kp {e : Nat} {da : Nat → Nat} {σ σ' : Mem} {D : List DocT} {dl : Nat → Bool} {W : Nat → Nat → Nat → Prop} (h : cDocs e da σ D dl) (hk : Kp W σ σ') (hN : e + 401 ≤ gN σ) (hw : Wh (e + 401) σ W) (h1 : ¬ W 0 e 4) (h2 : ∀ k, ¬ W 2 (e + 4) k) (h3 : ∀ i, i < D.length → ¬ W 3 (da i) 6) : cDocs e da σ' D dl := by
  obtain ⟨a, b, c⟩ := h
  refine ⟨?_, b, fun i hi => ?_⟩
  · rw [hk.I (by omega) h1]; exact a
  · obtain ⟨c1, c2, c3⟩ := c i hi
    refine ⟨?_, c2.kp hk hw, ?_⟩
    · rw [hk.R (by omega) (h2 i)]; exact c1
    · rw [hk.B c2.1.2.1 (h3 i hi)]; exact c3
theorem cSegs.kp {e : Nat} {da : Nat → Nat} {σ σ' : Mem} {D : List DocT} {G : List SegT} {W : Nat → Nat → Nat → Prop} (h : cSegs e da σ D G) (hk : Kp W σ σ') (hN : e + 401 ≤ gN σ) (hw : Wh (e + 401) σ W) (h1 : ¬ W 0 e 7) (h2 : ∀ k, ¬ W 2 (e + 5) k) : cSegs e da σ' D G := by
  obtain ⟨a, b, c⟩ := h
  refine ⟨?_, b, fun j hj => ?_⟩
  · rw [hk.I (by omega) h1]; exact a
  · obtain ⟨s, c1, c2⟩ := c j hj
    exact ⟨s, by rw [hk.R (by omega) (h2 j)]; exact c1, c2.kp hk hw⟩
theorem cView.kp {e : Nat} {da : Nat → Nat} {σ σ' : Mem} {D : List DocT} {i : Nat} {v : VwT} {W : Nat → Nat → Nat → Prop} (h : cView e da σ D i v) (hk : Kp W σ σ') (hN : e + 401 ≤ gN σ) (hw : Wh (e + 401) σ W) (hi : i < 4) (h1 : ∀ t c k, 8 + 4 * i ≤ c → c < 12 + 4 * i → ¬ W t (e + c) k) : cView e da σ' D i v := by
  obtain ⟨a, b⟩ := h
  refine ⟨?_, fun ho => ?_⟩
  · rw [hk.B (by omega) (h1 _ _ _ (by omega) (by omega))]; exact a
  · obtain ⟨b1, b2, b3, b4, b5, b6, b7⟩ := b ho
    refine ⟨?_, b2, fun j hj => ?_, ?_, b5, fun k hk' => ?_, ?_⟩
    · rw [hk.I (by omega) (h1 _ _ _ (by omega) (by omega))]; exact b1
    · obtain ⟨s, l, c1, c2⟩ := b3 j hj
      exact ⟨s, l, by rw [hk.R (by omega) (h1 _ _ _ (by omega) (by omega))]; exact c1, c2.kp hk hw⟩
    · rw [hk.I (by omega) (h1 _ _ _ (by omega) (by omega))]; exact b4
    · rw [hk.R (by omega) (h1 _ _ _ (by omega) (by omega)), hk.B (by omega) (h1 _ _ _ (by omega) (by omega))]; exact b6 k hk'
    · rw [hk.I (by omega) (h1 _ _ _ (by omega) (by omega))]; exact b7
theorem cQuery.kp {q : Nat} {σ σ' : Mem} {P : List PT} {W : Nat → Nat → Nat → Prop} (h : cQuery σ q P) (hk : Kp W σ σ') (hN : q + 162 ≤ gN σ) (h1 : ∀ t c k, c < 162 → ¬ W t (q + c) k) : cQuery σ' q P := by
  obtain ⟨a, b, c⟩ := h
  refine ⟨?_, b, fun j hj => ?_⟩
  · rw [hk.I (a := q) (by omega) (h1 0 0 1 (by omega))]; exact a
  · have hI : ∀ d k, d < 3 → gI σ' (q + (2 + 4 * j) + d) k = gI σ (q + (2 + 4 * j) + d) k := fun d k hd => by rw [Nat.add_assoc]; exact hk.I (by omega) (h1 0 _ k (by omega))
    have hL : ∀ d k, d < 3 → gL σ' (q + (2 + 4 * j) + d) k = gL σ (q + (2 + 4 * j) + d) k := fun d k hd => by rw [Nat.add_assoc]; exact hk.L (by omega) (h1 1 _ k (by omega))
    have hB : ∀ k, gB σ' (q + (2 + 4 * j)) k = gB σ (q + (2 + 4 * j)) k := fun k => hk.B (by omega) (h1 3 _ k (by omega))
    have hI0 : ∀ k, gI σ' (q + (2 + 4 * j)) k = gI σ (q + (2 + 4 * j)) k := fun k => hI 0 k (by omega)
    have hL0 : ∀ k, gL σ' (q + (2 + 4 * j)) k = gL σ (q + (2 + 4 * j)) k := fun k => hL 0 k (by omega)
    have := c j hj
    unfold cPart at this ⊢
    simp only [hI0, hL0, hB, hI 2 _ (by omega), hL 1 _ (by omega)]
    exact this
theorem cAns.kp {e : Nat} {da : Nat → Nat} {σ σ' : Mem} {A : AnT} {W : Nat → Nat → Nat → Prop} (h : cAns e da σ A) (hk : Kp W σ σ') (hN : e + 401 ≤ gN σ) (h0 : ¬ W 2 e 13) (h1 : ∀ t c k, 24 ≤ c → c < 351 → ¬ W t (e + c) k) : cAns e da σ' A := by
  obtain ⟨a, b, c, d, aq, f, g⟩ := h
  refine ⟨?_, ?_, c, fun k hk' => ?_, aq, ⟨f.1, ?_, ?_⟩, g.kp hk (by rcases f.1 with q | q <;> omega) (fun t c k hc => ?_)⟩
  · rw [hk.I (by omega) (h1 _ _ _ (by omega) (by omega))]; exact a
  · rw [hk.I (by omega) (h1 _ _ _ (by omega) (by omega))]; exact b
  · rw [hk.R (by omega) (h1 _ _ _ (by omega) (by omega)), hk.I (by omega) (h1 _ _ _ (by omega) (by omega))]; exact d k hk'
  · rw [hk.R (by omega) (h1 _ _ _ (by omega) (by omega))]; exact f.2.1
  · rw [hk.R (by omega) h0]; exact f.2.2
  · rw [Nat.add_assoc]
    exact h1 _ _ _ (by rcases f.1 with q | q <;> omega) (by rcases f.1 with q | q <;> omega)
theorem cNear.kp {e : Nat} {σ σ' : Mem} {nr : Option (List Nat)} {W : Nat → Nat → Nat → Prop} (h : cNear e σ nr) (hk : Kp W σ σ') (hN : e + 401 ≤ gN σ) (h1 : ¬ W 1 (e + 351) 0) : cNear e σ' nr := by
  unfold cNear at *
  rw [hk.L (by omega) h1]
  exact h
/-- THE CLASS'S HOLD of an engine -/
def cH (e : Nat) (da : Nat → Nat) (σ : Mem) (tp : Nat → Nat) (n : Nat) (D : List DocT) (dl : Nat → Bool) (bs : Nat) (G : List SegT) (V : Nat → VwT) (A : AnT) (nr : Option (List Nat)) (mg : Nat) (st sp : Bool) : Prop :=
  cFix e σ st sp ∧ cTape e σ tp n ∧ cDocs e da σ D dl ∧ gI σ e 5 = nI bs ∧ cSegs e da σ D G ∧ (∀ i, i < 4 → cView e da σ D i (V i)) ∧ cAns e da σ A ∧ cNear e σ nr ∧ gI σ e 8 = nI mg
theorem cFix.N {e : Nat} {σ : Mem} {st sp : Bool} (h : cFix e σ st sp) : e + 401 ≤ gN σ := h.2.2.2.2.2
/-- nothing of it lies in the reference's block -/
theorem cH.eb {e : Nat} {da : Nat → Nat} {σ : Mem} {tp : Nat → Nat} {n : Nat} {D : List DocT} {dl : Nat → Bool} {bs : Nat} {G : List SegT} {V : Nat → VwT} {A : AnT} {nr : Option (List Nat)} {mg : Nat} {st sp : Bool} (h : cH e da σ tp n D dl bs G V A nr mg st sp) (R : RS) : cH e da (emb σ (e + 355) R) tp n D dl bs G V A nr mg st sp := by
  obtain ⟨h1, h2, h3, h4, h5, h6, h7, h8, h9⟩ := h
  have k : Kp (wBlk e) σ (emb σ (e + 355) R) := Kp.eb
  have hN := h1.N
  have hw : Wh (e + 401) σ (wBlk e) := fun t a k h1 h2 h3 => by unfold wBlk at h3; omega
  refine ⟨h1.kp k (fun c k hc => ⟨fun q => ?_, fun q => ?_, fun q => ?_⟩), h2.kp k hN ?_ (fun k q => ?_), h3.kp k hN hw ?_ (fun k q => ?_) (fun i hi q => ?_), ?_, h5.kp k hN hw ?_ (fun k q => ?_), fun i hi => (h6 i hi).kp k hN hw hi (fun t c k a b q => ?_), h7.kp k hN ?_ (fun t c k a b q => ?_), h8.kp k hN ?_, ?_⟩
  all_goals try (unfold wBlk at *; omega)
  · have := (h3.2.2 i hi).2.1.1.1
    unfold wBlk at *
    omega
  · rw [k.I (by omega) (by unfold wBlk; omega)]; exact h4
  · rw [k.I (by omega) (by unfold wBlk; omega)]; exact h9
