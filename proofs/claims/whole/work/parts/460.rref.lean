/-! THE REFERENCE'S HOLD of an engine -/
def rDocs (R : RS) (D : List DocT) (dl : Nat → Bool) : Prop := R.1 0 4 = nI D.length ∧ (∀ i, i < D.length → R.2.1 2 i = dKey (dA D i) ∧ R.1 3 i = dX (dA D i) ∧ R.1 4 i = dY (dA D i) ∧ R.2.2 5 i = dl i) ∧ (∀ i, D.length ≤ i → R.2.2 5 i = false) ∧ ∀ i f, i < D.length → f < 2 → R.1 6 (2 * i + f) = nI (dTok (dA D i) f).length ∧ ∀ t, t < (dTok (dA D i) f).length → R.1 7 (250 * i + 50 * f + t) = nI (tA (dTok (dA D i) f) t).1 ∧ R.1 8 (250 * i + 50 * f + t) = nI (tA (dTok (dA D i) f) t).2.1 ∧ R.1 9 (250 * i + 50 * f + t) = nI (tA (dTok (dA D i) f) t).2.2.length ∧ ∀ k, k < (tA (dTok (dA D i) f) t).2.2.length → R.1 10 (12 * (250 * i + 50 * f + t) + k) = nI ((tA (dTok (dA D i) f) t).2.2.getD k 0)
def rBuf (R : RS) (D : List DocT) (bs : Nat) : Prop := R.1 0 15 = nI (D.length - bs) ∧ ∀ k, k < D.length - bs → R.1 11 k = nI (bs + k)
def rSegs (R : RS) (G : List SegT) : Prop := R.1 0 16 = nI G.length ∧ ∀ s, s < G.length → R.1 12 s = nI (gA G s).1 ∧ R.1 13 s = nI (gA G s).2.length ∧ ∀ k, k < (gA G s).2.length → R.1 14 (400 * s + k) = nI ((gA G s).2.getD k 0)
def rView (R : RS) (i : Nat) (v : VwT) : Prop := R.2.2 15 i = v.1 ∧ (v.1 = true → R.1 16 i = nI (vSegs v).length ∧ R.1 17 i = nI (vDocs v).length ∧ ∀ k, k < (vDocs v).length → R.1 18 (400 * i + k) = nI ((vDocs v).getD k 0) ∧ R.2.2 19 (400 * i + k) = vDead v k)
/-- does a part ask for a term in a field -/
def isPre (w t : List Nat) : Bool := decide (w.length ≤ t.length ∧ ∀ k, k < w.length → t.getD k 0 = w.getD k 0)
def fFor (g : Option Nat) (f : Nat) : Bool := match g with
  | none => true
  | some h => decide (h = f)
def pAsks (x : PT) (t : List Nat) (f : Nat) : Bool := !pBar x && fFor (pField x) f && ((pKind x == 2 && isPre (pW x) t) || (pKind x == 1 && (pTms x).any (fun y => y.1 == t)))
/-- a mark: kind (1 word, 2 beginning), field, bytes -/
abbrev MkT : Type := Nat × Option Nat × List Nat
def mAsks (m : MkT) (t : List Nat) (f : Nat) : Bool := fFor m.2.1 f && ((m.1 == 2 && isPre m.2.2 t) || (m.1 == 1 && m.2.2 == t))
def mkA (M : List MkT) (k : Nat) : MkT := M.getD k (0, none, [])
def rMarks (R : RS) (P : List PT) : Prop := ∃ M : List MkT, R.1 0 30 = nI M.length ∧ M.length ≤ 400 ∧ (∀ k, k < M.length → ((mkA M k).1 = 1 ∨ (mkA M k).1 = 2) ∧ ((mkA M k).2.2.length ≤ 12 ∧ (∀ g, (mkA M k).2.1 = some g → g < 2) ∧ isTerm (mkA M k).2.2) ∧ R.1 22 k = nI (mkA M k).1 ∧ R.1 23 k = fI (mkA M k).2.1 ∧ R.1 24 k = nI (mkA M k).2.2.length ∧ ∀ i, i < (mkA M k).2.2.length → R.1 25 (12 * k + i) = nI ((mkA M k).2.2.getD i 0)) ∧ ∀ t f, t ≠ [] → M.any (fun m => mAsks m t f) = P.any (fun x => pAsks x t f)
def rAns (R : RS) (A : AnT) : Prop := R.1 0 27 = A.1 ∧ R.1 0 26 = nI A.2.1.length ∧ (∀ k, k < A.2.1.length → R.1 20 k = nI (A.2.1.getD k (0, 0)).1 ∧ R.1 21 k = nI (A.2.1.getD k (0, 0)).2) ∧ rMarks R A.2.2
def rNear (R : RS) (nr : Option (List Nat)) : Prop := match nr with
  | none => R.1 0 35 = -1
  | some t => R.1 0 35 = nI t.length ∧ ∀ k, k < t.length → R.1 26 k = nI (t.getD k 0)
def rH (R : RS) (tp : Nat → Nat) (n : Nat) (D : List DocT) (dl : Nat → Bool) (bs : Nat) (G : List SegT) (V : Nat → VwT) (A : AnT) (nr : Option (List Nat)) (mg : Nat) (st sp : Bool) : Prop :=
  rTape R tp n ∧ rDocs R D dl ∧ rBuf R D bs ∧ rSegs R G ∧ (∀ i, i < 4 → rView R i (V i)) ∧ rAns R A ∧ rNear R nr ∧ R.1 0 20 = nI mg ∧ R.2.2 0 0 = st ∧ R.2.2 0 1 = sp
/-! frames of the reference's states: what W names may change, of rows below 46 -/
def Rp (W : Nat → Nat → Nat → Prop) (R R' : RS) : Prop := ∀ c j, c < 46 → (¬ W 0 c j → R'.1 c j = R.1 c j) ∧ (¬ W 1 c j → R'.2.1 c j = R.2.1 c j) ∧ (¬ W 3 c j → R'.2.2 c j = R.2.2 c j)
theorem Rp.rf {W : Nat → Nat → Nat → Prop} {R : RS} : Rp W R R := fun _ _ _ => ⟨fun _ => rfl, fun _ => rfl, fun _ => rfl⟩
theorem Rp.I {W : Nat → Nat → Nat → Prop} {R R' : RS} (h : Rp W R R') {c j : Nat} (hc : c < 46) (hw : ¬ W 0 c j) : R'.1 c j = R.1 c j := (h c j hc).1 hw
theorem Rp.L {W : Nat → Nat → Nat → Prop} {R R' : RS} (h : Rp W R R') {c j : Nat} (hc : c < 46) (hw : ¬ W 1 c j) : R'.2.1 c j = R.2.1 c j := (h c j hc).2.1 hw
theorem Rp.B {W : Nat → Nat → Nat → Prop} {R R' : RS} (h : Rp W R R') {c j : Nat} (hc : c < 46) (hw : ¬ W 3 c j) : R'.2.2 c j = R.2.2 c j := (h c j hc).2.2 hw
theorem Rp.tr {W W' : Nat → Nat → Nat → Prop} {R R' R'' : RS} (h : Rp W R R') (h' : Rp W' R' R'') (hw : ∀ t c j, W' t c j → W t c j) : Rp W R R'' := fun c j hc => ⟨fun q => by rw [h'.I hc (fun z => q (hw _ _ _ z)), h.I hc q], fun q => by rw [h'.L hc (fun z => q (hw _ _ _ z)), h.L hc q], fun q => by rw [h'.B hc (fun z => q (hw _ _ _ z)), h.B hc q]⟩
theorem Rp.mono {W W' : Nat → Nat → Nat → Prop} {R R' : RS} (h : Rp W R R') (hw : ∀ t c j, W t c j → W' t c j) : Rp W' R R' := Rp.tr Rp.rf h hw
theorem up2_ne {α : Type} {f : Nat → Nat → α} {a k b j : Nat} {v : α} (h : ¬ (b = a ∧ j = k)) : up2 f a k v b j = f b j := by unfold up2; rw [if_neg h]
theorem Rp.pI {W : Nat → Nat → Nat → Prop} {R : RS} {k : Nat} {v : Int32} (hw : W 0 0 k) : Rp W R (pI R k v) := fun c j _ => ⟨fun q => up2_ne (fun z => q (by rw [z.1, z.2]; exact hw)), fun _ => rfl, fun _ => rfl⟩
theorem Rp.pL {W : Nat → Nat → Nat → Prop} {R : RS} {k : Nat} {v : Int64} (hw : W 1 0 k) : Rp W R (pL R k v) := fun c j _ => ⟨fun _ => rfl, fun q => up2_ne (fun z => q (by rw [z.1, z.2]; exact hw)), fun _ => rfl⟩
theorem Rp.pB {W : Nat → Nat → Nat → Prop} {R : RS} {k : Nat} {v : Bool} (hw : W 3 0 k) : Rp W R (pB R k v) := fun c j _ => ⟨fun _ => rfl, fun _ => rfl, fun q => up2_ne (fun z => q (by rw [z.1, z.2]; exact hw))⟩
theorem Rp.wI {W : Nat → Nat → Nat → Prop} {R : RS} {b k : Nat} {v : Int32} (hw : W 0 b k) : Rp W R (up2 R.1 b k v, R.2) := fun c j _ => ⟨fun q => up2_ne (fun z => q (by rw [z.1, z.2]; exact hw)), fun _ => rfl, fun _ => rfl⟩
theorem Rp.wL {W : Nat → Nat → Nat → Prop} {R : RS} {b k : Nat} {v : Int64} (hw : W 1 b k) : Rp W R (R.1, up2 R.2.1 b k v, R.2.2) := fun c j _ => ⟨fun _ => rfl, fun q => up2_ne (fun z => q (by rw [z.1, z.2]; exact hw)), fun _ => rfl⟩
theorem Rp.wB {W : Nat → Nat → Nat → Prop} {R : RS} {b k : Nat} {v : Bool} (hw : W 3 b k) : Rp W R (R.1, R.2.1, up2 R.2.2 b k v) := fun c j _ => ⟨fun _ => rfl, fun _ => rfl, fun q => up2_ne (fun z => q (by rw [z.1, z.2]; exact hw))⟩
theorem rTape.rp {R R' : RS} {tp : Nat → Nat} {n : Nat} {W : Nat → Nat → Nat → Prop} (h : rTape R tp n) (hk : Rp W R R') (h1 : ¬ W 0 0 3) (h2 : ∀ j, ¬ W 0 1 j) : rTape R' tp n := by
  obtain ⟨a, b, c⟩ := h
  exact ⟨a, by rw [hk.I (by decide) h1]; exact b, fun i hi => by rw [hk.I (by decide) (h2 i)]; exact c i hi⟩
theorem rDocs.rp {R R' : RS} {D : List DocT} {dl : Nat → Bool} {W : Nat → Nat → Nat → Prop} (h : rDocs R D dl) (hk : Rp W R R') (h1 : ¬ W 0 0 4) (h2 : ∀ t c j, 2 ≤ c → c ≤ 10 → ¬ W t c j) : rDocs R' D dl := by
  obtain ⟨a, b, c, d⟩ := h
  refine ⟨by rw [hk.I (by decide) h1]; exact a, fun i hi => ?_, fun i hi => ?_, fun i f hi hf => ?_⟩
  · rw [hk.L (by decide) (h2 _ _ _ (by decide) (by decide)), hk.I (by decide) (h2 _ _ _ (by decide) (by decide)), hk.I (by decide) (h2 _ _ _ (by decide) (by decide)), hk.B (by decide) (h2 _ _ _ (by decide) (by decide))]
    exact b i hi
  · rw [hk.B (by decide) (h2 _ _ _ (by decide) (by decide))]
    exact c i hi
  · obtain ⟨d1, d2⟩ := d i f hi hf
    refine ⟨by rw [hk.I (by decide) (h2 _ _ _ (by decide) (by decide))]; exact d1, fun t ht => ?_⟩
    obtain ⟨e1, e2, e3, e4⟩ := d2 t ht
    refine ⟨?_, ?_, ?_, fun k hk' => ?_⟩
    · rw [hk.I (by decide) (h2 _ _ _ (by decide) (by decide))]; exact e1
    · rw [hk.I (by decide) (h2 _ _ _ (by decide) (by decide))]; exact e2
    · rw [hk.I (by decide) (h2 _ _ _ (by decide) (by decide))]; exact e3
    · rw [hk.I (by decide) (h2 _ _ _ (by decide) (by decide))]; exact e4 k hk'
theorem rBuf.rp {R R' : RS} {D : List DocT} {bs : Nat} {W : Nat → Nat → Nat → Prop} (h : rBuf R D bs) (hk : Rp W R R') (h1 : ¬ W 0 0 15) (h2 : ∀ j, ¬ W 0 11 j) : rBuf R' D bs :=
  ⟨by rw [hk.I (by decide) h1]; exact h.1, fun k hk' => by rw [hk.I (by decide) (h2 k)]; exact h.2 k hk'⟩
theorem rSegs.rp {R R' : RS} {G : List SegT} {W : Nat → Nat → Nat → Prop} (h : rSegs R G) (hk : Rp W R R') (h1 : ¬ W 0 0 16) (h2 : ∀ c j, 12 ≤ c → c ≤ 14 → ¬ W 0 c j) : rSegs R' G := by
  refine ⟨by rw [hk.I (by decide) h1]; exact h.1, fun s hs => ?_⟩
  obtain ⟨a, b, c⟩ := h.2 s hs
  refine ⟨?_, ?_, fun k hk' => ?_⟩
  · rw [hk.I (by decide) (h2 _ _ (by decide) (by decide))]; exact a
  · rw [hk.I (by decide) (h2 _ _ (by decide) (by decide))]; exact b
  · rw [hk.I (by decide) (h2 _ _ (by decide) (by decide))]; exact c k hk'
theorem rView.rp {R R' : RS} {i : Nat} {v : VwT} {W : Nat → Nat → Nat → Prop} (h : rView R i v) (hk : Rp W R R') (h2 : ∀ t c j, 15 ≤ c → c ≤ 19 → ¬ W t c j) : rView R' i v := by
  refine ⟨by rw [hk.B (by decide) (h2 _ _ _ (by decide) (by decide))]; exact h.1, fun ho => ?_⟩
  obtain ⟨a, b, c⟩ := h.2 ho
  refine ⟨?_, ?_, fun k hk' => ?_⟩
  · rw [hk.I (by decide) (h2 _ _ _ (by decide) (by decide))]; exact a
  · rw [hk.I (by decide) (h2 _ _ _ (by decide) (by decide))]; exact b
  · rw [hk.I (by decide) (h2 _ _ _ (by decide) (by decide)), hk.B (by decide) (h2 _ _ _ (by decide) (by decide))]; exact c k hk'
theorem rMarks.rp {R R' : RS} {P : List PT} {W : Nat → Nat → Nat → Prop} (h : rMarks R P) (hk : Rp W R R') (h1 : ¬ W 0 0 30) (h2 : ∀ c j, 22 ≤ c → c ≤ 25 → ¬ W 0 c j) : rMarks R' P := by
  obtain ⟨M, a, b, c, d⟩ := h
  refine ⟨M, by rw [hk.I (by decide) h1]; exact a, b, fun k hk' => ?_, d⟩
  obtain ⟨c1, c2, c3, c4, c5, c6⟩ := c k hk'
  refine ⟨c1, c2, ?_, ?_, ?_, fun i hi => ?_⟩
  · rw [hk.I (by decide) (h2 _ _ (by decide) (by decide))]; exact c3
  · rw [hk.I (by decide) (h2 _ _ (by decide) (by decide))]; exact c4
  · rw [hk.I (by decide) (h2 _ _ (by decide) (by decide))]; exact c5
  · rw [hk.I (by decide) (h2 _ _ (by decide) (by decide))]; exact c6 i hi
theorem rAns.rp {R R' : RS} {A : AnT} {W : Nat → Nat → Nat → Prop} (h : rAns R A) (hk : Rp W R R') (h1 : ¬ W 0 0 27 ∧ ¬ W 0 0 26 ∧ ¬ W 0 0 30) (h2 : ∀ c j, 20 ≤ c → c ≤ 25 → ¬ W 0 c j) : rAns R' A := by
  obtain ⟨a, b, c, d⟩ := h
  refine ⟨by rw [hk.I (by decide) h1.1]; exact a, by rw [hk.I (by decide) h1.2.1]; exact b, fun k hk' => ?_, d.rp hk h1.2.2 (fun c j q1 q2 => h2 c j (by omega) q2)⟩
  rw [hk.I (by decide) (h2 _ _ (by decide) (by decide)), hk.I (by decide) (h2 _ _ (by decide) (by decide))]
  exact c k hk'
theorem rNear.rp {R R' : RS} {nr : Option (List Nat)} {W : Nat → Nat → Nat → Prop} (h : rNear R nr) (hk : Rp W R R') (h1 : ¬ W 0 0 35) (h2 : ∀ j, ¬ W 0 26 j) : rNear R' nr := by
  cases nr with
  | none => unfold rNear at *; rw [hk.I (by decide) h1]; exact h
  | some t => exact ⟨by rw [hk.I (by decide) h1]; exact h.1, fun k hk' => by rw [hk.I (by decide) (h2 k)]; exact h.2 k hk'⟩
/-- states whose rows below 46 are alike -/
def wNo : Nat → Nat → Nat → Prop := fun _ _ _ => False
theorem rH.rp0 {R R' : RS} {tp : Nat → Nat} {n : Nat} {D : List DocT} {dl : Nat → Bool} {bs : Nat} {G : List SegT} {V : Nat → VwT} {A : AnT} {nr : Option (List Nat)} {mg : Nat} {st sp : Bool} (h : rH R tp n D dl bs G V A nr mg st sp) (hk : Rp wNo R R') : rH R' tp n D dl bs G V A nr mg st sp := by
  obtain ⟨h1, h2, h3, h4, h5, h6, h7, h8, h9, h10⟩ := h
  have w : ∀ t c j, ¬ wNo t c j := fun _ _ _ q => q
  refine ⟨h1.rp hk (w _ _ _) (fun _ => w _ _ _), h2.rp hk (w _ _ _) (fun _ _ _ _ _ => w _ _ _), h3.rp hk (w _ _ _) (fun _ => w _ _ _), h4.rp hk (w _ _ _) (fun _ _ _ _ => w _ _ _), fun i hi => (h5 i hi).rp hk (fun _ _ _ _ _ => w _ _ _), h6.rp hk ⟨w _ _ _, w _ _ _, w _ _ _⟩ (fun _ _ _ _ => w _ _ _), h7.rp hk (w _ _ _) (fun _ => w _ _ _), ?_, ?_, ?_⟩
  · rw [hk.I (by decide) (w _ _ _)]; exact h8
  · rw [hk.B (by decide) (w _ _ _)]; exact h9
  · rw [hk.B (by decide) (w _ _ _)]; exact h10
/-- the block in a memory, and a frame that keeps off it -/
def Wb (e : Nat) (W : Nat → Nat → Nat → Prop) : Prop := ∀ t a k, W t a k → a < e + 355 ∨ e + 401 ≤ a
theorem vw_kp {σ σ' : Mem} {e : Nat} {W : Nat → Nat → Nat → Prop} (hk : Kp W σ σ') (hN : e + 401 ≤ gN σ) (hb : Wb e W) : Rp wNo (vw σ (e + 355)) (vw σ' (e + 355)) := fun c j hc => by
  have w : ∀ t, ¬ W t (e + 355 + c) j := fun t q => by have := hb _ _ _ q; omega
  exact ⟨fun _ => hk.I (by omega) (w 0), fun _ => hk.L (by omega) (w 1), fun _ => hk.B (by omega) (w 3)⟩
theorem vw_emb {σ : Mem} {e : Nat} {R : RS} : Rp wNo R (vw (emb σ (e + 355) R) (e + 355)) := fun c j hc => ⟨fun _ => em_gI hc, fun _ => em_gL hc, fun _ => em_gB hc⟩
