/-! the reference's state: its numbers (row 0) and its arrays (rows 1 ..), one cell each behind the object at B -/
abbrev RS : Type := (Nat → Nat → Int32) × (Nat → Nat → Int64) × (Nat → Nat → Bool)
def NB : Nat := 46
def arC : List (Nat × Nat) := [(12, 0), (100, 600), (101, 400), (100, 400), (100, 400), (103, 400), (100, 800), (100, 100000), (100, 100000), (100, 100000), (100, 1200000), (100, 400), (100, 420), (100, 420), (100, 168000), (103, 4), (100, 4), (100, 4), (100, 1600), (103, 1600), (100, 400), (100, 400), (100, 400), (100, 400), (100, 400), (100, 4800), (100, 12), (100, 12), (100, 400), (100, 400), (100, 400), (100, 400), (100, 400), (100, 400), (100, 4800), (100, 400), (100, 10), (100, 10), (103, 10), (100, 400), (100, 400), (100, 400), (103, 420), (100, 420), (100, 14), (100, 14)]
def refC : List Nat := [0, 0, 1, 0, 0, 2, 3, 4, 5, 6, 7, 8, 9, 10, 11, 0, 0, 12, 13, 14, 0, 15, 16, 17, 18, 19, 0, 0, 20, 21, 0, 22, 23, 24, 25, 0, 26, 27, 0, 28, 0, 0, 0, 0, 0, 0, 29, 30, 31, 32, 0, 0, 33, 34, 35, 36, 37, 38, 0, 0, 39, 40, 41, 0, 0, 0, 42, 43, 0, 44, 45]
def inB (B a : Nat) : Bool := decide (B ≤ a) && decide (a < B + NB)
def emb (τ : Mem) (B : Nat) (R : RS) : Mem := (τ.1, fun a j => if inB B a = true then R.1 (a - B) j else τ.2.1 a j, fun a j => if inB B a = true then R.2.1 (a - B) j else τ.2.2.1 a j, τ.2.2.2.1, fun a j => if inB B a = true then R.2.2 (a - B) j else τ.2.2.2.2.1 a j, τ.2.2.2.2.2.1, τ.2.2.2.2.2.2)
def RB (τ : Mem) (B : Nat) : Prop := (∀ c, c < NB → gT τ (B + c) = arC.getD c (99, 0)) ∧ ∀ k, k < 71 → refC.getD k 0 ≠ 0 → gR τ B k = some (B + refC.getD k 0)
theorem inB_c {B c : Nat} (h : c < NB) : inB B (B + c) = true := by simp [inB]; omega
theorem inB_0 {B : Nat} : inB B B = true := inB_c (c := 0) (by decide)
theorem em_gI {τ : Mem} {B c j : Nat} {R : RS} (h : c < NB) : gI (emb τ B R) (B + c) j = R.1 c j := by simp [gI, emb, inB_c h]
theorem em_gL {τ : Mem} {B c j : Nat} {R : RS} (h : c < NB) : gL (emb τ B R) (B + c) j = R.2.1 c j := by simp [gL, emb, inB_c h]
theorem em_gB {τ : Mem} {B c j : Nat} {R : RS} (h : c < NB) : gB (emb τ B R) (B + c) j = R.2.2 c j := by simp [gB, emb, inB_c h]
theorem em_ne {B c a : Nat} (h : inB B a = true) : a = B + c ↔ a - B = c := by
  simp [inB] at h
  omega
theorem em_sI {τ : Mem} {B c j : Nat} {R : RS} {v : Int32} (h : c < NB) : sI (emb τ B R) (B + c) j v = emb τ B (up2 R.1 c j v, R.2) := by
  simp only [sI, emb, Prod.mk.injEq, true_and, and_true]
  funext a k
  by_cases ha : inB B a = true
  · simp only [up2, ha, if_true, em_ne ha]
  · have hne : a ≠ B + c := fun e => ha (by rw [e]; exact inB_c h)
    simp [up2, ha, hne]
theorem em_sL {τ : Mem} {B c j : Nat} {R : RS} {v : Int64} (h : c < NB) : sL (emb τ B R) (B + c) j v = emb τ B (R.1, up2 R.2.1 c j v, R.2.2) := by
  simp only [sL, emb, Prod.mk.injEq, true_and, and_true]
  funext a k
  by_cases ha : inB B a = true
  · simp only [up2, ha, if_true, em_ne ha]
  · have hne : a ≠ B + c := fun e => ha (by rw [e]; exact inB_c h)
    simp [up2, ha, hne]
theorem em_sB {τ : Mem} {B c j : Nat} {R : RS} {v : Bool} (h : c < NB) : sB (emb τ B R) (B + c) j v = emb τ B (R.1, R.2.1, up2 R.2.2 c j v) := by
  simp only [sB, emb, Prod.mk.injEq, true_and, and_true]
  funext a k
  by_cases ha : inB B a = true
  · simp only [up2, ha, if_true, em_ne ha]
  · have hne : a ≠ B + c := fun e => ha (by rw [e]; exact inB_c h)
    simp [up2, ha, hne]
theorem RB.t0 {τ : Mem} {B : Nat} (h : RB τ B) (R : RS) : (gT (emb τ B R) B).1 = 12 := by
  have := h.1 0 (by decide)
  rw [Nat.add_zero] at this
  show (gT τ B).1 = 12
  rw [this]
  rfl
def rdI (R : RS) (c n : Nat) (i : Int32) : Option Int32 := if 0 ≤ i.toInt ∧ i.toInt < (n : Int) then some (R.1 c i.toNatClampNeg) else none
def rdL (R : RS) (c n : Nat) (i : Int32) : Option Int64 := if 0 ≤ i.toInt ∧ i.toInt < (n : Int) then some (R.2.1 c i.toNatClampNeg) else none
def rdB (R : RS) (c n : Nat) (i : Int32) : Option Bool := if 0 ≤ i.toInt ∧ i.toInt < (n : Int) then some (R.2.2 c i.toNatClampNeg) else none
def wrI (R : RS) (c n : Nat) (i v : Int32) : Option RS := if 0 ≤ i.toInt ∧ i.toInt < (n : Int) then some (up2 R.1 c i.toNatClampNeg v, R.2) else none
def wrL (R : RS) (c n : Nat) (i : Int32) (v : Int64) : Option RS := if 0 ≤ i.toInt ∧ i.toInt < (n : Int) then some (R.1, up2 R.2.1 c i.toNatClampNeg v, R.2.2) else none
def wrB (R : RS) (c n : Nat) (i : Int32) (v : Bool) : Option RS := if 0 ≤ i.toInt ∧ i.toInt < (n : Int) then some (R.1, R.2.1, up2 R.2.2 c i.toNatClampNeg v) else none
def pI (R : RS) (k : Nat) (v : Int32) : RS := (up2 R.1 0 k v, R.2)
def pL (R : RS) (k : Nat) (v : Int64) : RS := (R.1, up2 R.2.1 0 k v, R.2.2)
def pB (R : RS) (k : Nat) (v : Bool) : RS := (R.1, R.2.1, up2 R.2.2 0 k v)
theorem ibd {α ρ : Type} {P : Prop} {D : Decidable P} {g : α} {F : α → Option ρ} {z : ρ} {Z : Prop} (hf : (if P then some g else none).bind F = some z) (k : P → F g = some z → Z) : Z := by
  by_cases h : P
  · exact k h (by simpa [h] using hf)
  · simp [h] at hf
section RR
variable {Γ : W0} {M : MD} {σ0 τ : Mem} {B : Nat} {R : RS} {r : RT} {pc : Nat} {L : List (Nat × Value)} {st : List Value}
theorem rr_ldI {k index : Nat} (hB : RB τ B) (hd : decode M.2.1 pc = .ok (.getfield index, 3)) (hF : FL M.1 index 12 k) (hk : fk 12 k = 0) (kk : V Γ M σ0 r (emb τ B R) (pc + 3) L (.int (R.1 0 k) :: st)) : V Γ M σ0 r (emb τ B R) pc L (va_rf (some B) :: st) := by
  refine r_ldI (ci := 12) (k := k) (x := some B) (F := fun v => some v) (z := gI (emb τ B R) B k) (by simp [ldI, hB.t0]) hd hF hk (fun v _ hv => ?_)
  cases hv
  have e := em_gI (τ := τ) (B := B) (c := 0) (j := k) (R := R) (by decide)
  rw [Nat.add_zero] at e
  rw [e]
  exact kk
theorem rr_ldL {k index : Nat} (hB : RB τ B) (hd : decode M.2.1 pc = .ok (.getfield index, 3)) (hF : FL M.1 index 12 k) (hk : fk 12 k = 1) (kk : V Γ M σ0 r (emb τ B R) (pc + 3) L (.long (R.2.1 0 k) :: st)) : V Γ M σ0 r (emb τ B R) pc L (va_rf (some B) :: st) := by
  refine r_ldL (ci := 12) (k := k) (x := some B) (F := fun v => some v) (z := gL (emb τ B R) B k) (by simp [ldL, hB.t0]) hd hF hk (fun v _ hv => ?_)
  cases hv
  have e := em_gL (τ := τ) (B := B) (c := 0) (j := k) (R := R) (by decide)
  rw [Nat.add_zero] at e
  rw [e]
  exact kk
theorem rr_ldB {k index : Nat} (hB : RB τ B) (hd : decode M.2.1 pc = .ok (.getfield index, 3)) (hF : FL M.1 index 12 k) (hk : fk 12 k = 3) (kk : V Γ M σ0 r (emb τ B R) (pc + 3) L (.int (b2i (R.2.2 0 k)) :: st)) : V Γ M σ0 r (emb τ B R) pc L (va_rf (some B) :: st) := by
  refine r_ldB (ci := 12) (k := k) (x := some B) (F := fun v => some v) (z := gB (emb τ B R) B k) (by simp [ldB, hB.t0]) hd hF hk (fun v _ hv => ?_)
  cases hv
  have e := em_gB (τ := τ) (B := B) (c := 0) (j := k) (R := R) (by decide)
  rw [Nat.add_zero] at e
  rw [e]
  exact kk
theorem rr_ldR {k index c : Nat} (hB : RB τ B) (hd : decode M.2.1 pc = .ok (.getfield index, 3)) (hF : FL M.1 index 12 k) (hk : fk 12 k = 2) (hc : refC.getD k 0 = c) (h0 : c ≠ 0) (kk : V Γ M σ0 r (emb τ B R) (pc + 3) L (va_rf (some (B + c)) :: st)) : V Γ M σ0 r (emb τ B R) pc L (va_rf (some B) :: st) := by
  refine r_ldR (ci := 12) (k := k) (x := some B) (F := fun v => some v) (z := gR (emb τ B R) B k) (by simp [ldR, hB.t0]) hd hF hk (fun v _ hv => ?_)
  cases hv
  have e : gR (emb τ B R) B k = some (B + c) := by rw [← hc]; exact hB.2 k hF.2.1 (by rw [hc]; exact h0)
  rw [e]
  exact kk
theorem rr_stI {k index : Nat} {v : Int32} {ρ : Type} {F : RS → Option ρ} {z : ρ} (hf : (some (pI R k v)).bind F = some z) (hB : RB τ B) (hd : decode M.2.1 pc = .ok (.putfield index, 3)) (hF : FL M.1 index 12 k) (hk : fk 12 k = 0) (hty : fTy 12 k = .int) (hfin : (cnT 12 k).2.2.2 = false) (kk : ∀ R', pI R k v = R' → F R' = some z → V Γ M σ0 r (emb τ B R') (pc + 3) L st) : V Γ M σ0 r (emb τ B R) pc L (.int v :: va_rf (some B) :: st) := by
  have kk := kk _ rfl hf
  have e : sI (emb τ B R) B k v = emb τ B (pI R k v) := em_sI (c := 0) (by decide)
  refine r_stI (ci := 12) (k := k) (x := some B) (v := v) (F := fun v => some v) (z := sI (emb τ B R) B k v) (by simp [stI, hB.t0]) hd hF hk hty hfin (fun σ' _ hv => ?_)
  cases hv
  rw [e]
  exact kk
theorem rr_stL {k index : Nat} {v : Int64} {ρ : Type} {F : RS → Option ρ} {z : ρ} (hf : (some (pL R k v)).bind F = some z) (hB : RB τ B) (hd : decode M.2.1 pc = .ok (.putfield index, 3)) (hF : FL M.1 index 12 k) (hk : fk 12 k = 1) (hfin : (cnT 12 k).2.2.2 = false) (kk : ∀ R', pL R k v = R' → F R' = some z → V Γ M σ0 r (emb τ B R') (pc + 3) L st) : V Γ M σ0 r (emb τ B R) pc L (.long v :: va_rf (some B) :: st) := by
  have kk := kk _ rfl hf
  have e : sL (emb τ B R) B k v = emb τ B (pL R k v) := em_sL (c := 0) (by decide)
  refine r_stL (ci := 12) (k := k) (x := some B) (v := v) (F := fun v => some v) (z := sL (emb τ B R) B k v) (by simp [stL, hB.t0]) hd hF hk hfin (fun σ' _ hv => ?_)
  cases hv
  rw [e]
  exact kk
theorem rr_stB {k index : Nat} {v : Bool} {ρ : Type} {F : RS → Option ρ} {z : ρ} (hf : (some (pB R k v)).bind F = some z) (hB : RB τ B) (hd : decode M.2.1 pc = .ok (.putfield index, 3)) (hF : FL M.1 index 12 k) (hk : fk 12 k = 3) (hfin : (cnT 12 k).2.2.2 = false) (kk : ∀ R', pB R k v = R' → F R' = some z → V Γ M σ0 r (emb τ B R') (pc + 3) L st) : V Γ M σ0 r (emb τ B R) pc L (.int (b2i v) :: va_rf (some B) :: st) := by
  have kk := kk _ rfl hf
  have e : sB (emb τ B R) B k v = emb τ B (pB R k v) := em_sB (c := 0) (by decide)
  refine r_stB (ci := 12) (k := k) (x := some B) (v := v) (F := fun v => some v) (z := sB (emb τ B R) B k v) (by simp [stB, hB.t0]) hd hF hk hfin (fun σ' _ hv => ?_)
  cases hv
  rw [e]
  exact kk
theorem rr_raI {c n : Nat} {i : Int32} {ρ : Type} {F : Int32 → Option ρ} {z : ρ} (hf : (rdI R c n i).bind F = some z) (hB : RB τ B) (hd : decode M.2.1 pc = .ok (.iaload, 1)) (hc : c < NB) (ha : arC.getD c (99, 0) = (100 + 0, n)) (kk : ∀ v, rdI R c n i = some v → F v = some z → V Γ M σ0 r (emb τ B R) (pc + 1) L (.int v :: st)) : V Γ M σ0 r (emb τ B R) pc L (.int i :: va_rf (some (B + c)) :: st) := by
  refine ibd hf fun hi hg => ?_
  have kk := kk _ (by simp [rdI, hi]) hg
  have ht : gT (emb τ B R) (B + c) = (100 + 0, n) := (hB.1 c hc).trans ha
  have hx : ixb (emb τ B R) 0 (B + c) i = true := ixb_iff.mpr ⟨by rw [ht], by rw [ht]; exact hi⟩
  refine r_raI (x := some (B + c)) (F := fun v => some v) (z := gI (emb τ B R) (B + c) i.toNatClampNeg) (by simp [raI, hx]) hd (fun v _ hv => ?_)
  cases hv
  rw [em_gI hc]
  exact kk
theorem rr_raL {c n : Nat} {i : Int32} {ρ : Type} {F : Int64 → Option ρ} {z : ρ} (hf : (rdL R c n i).bind F = some z) (hB : RB τ B) (hd : decode M.2.1 pc = .ok (.laload, 1)) (hc : c < NB) (ha : arC.getD c (99, 0) = (100 + 1, n)) (kk : ∀ v, rdL R c n i = some v → F v = some z → V Γ M σ0 r (emb τ B R) (pc + 1) L (.long v :: st)) : V Γ M σ0 r (emb τ B R) pc L (.int i :: va_rf (some (B + c)) :: st) := by
  refine ibd hf fun hi hg => ?_
  have kk := kk _ (by simp [rdL, hi]) hg
  have ht : gT (emb τ B R) (B + c) = (100 + 1, n) := (hB.1 c hc).trans ha
  have hx : ixb (emb τ B R) 1 (B + c) i = true := ixb_iff.mpr ⟨by rw [ht], by rw [ht]; exact hi⟩
  refine r_raL (x := some (B + c)) (F := fun v => some v) (z := gL (emb τ B R) (B + c) i.toNatClampNeg) (by simp [raL, hx]) hd (fun v _ hv => ?_)
  cases hv
  rw [em_gL hc]
  exact kk
theorem rr_raB {c n : Nat} {i : Int32} {ρ : Type} {F : Bool → Option ρ} {z : ρ} (hf : (rdB R c n i).bind F = some z) (hB : RB τ B) (hd : decode M.2.1 pc = .ok (.baload, 1)) (hc : c < NB) (ha : arC.getD c (99, 0) = (100 + 3, n)) (kk : ∀ v, rdB R c n i = some v → F v = some z → V Γ M σ0 r (emb τ B R) (pc + 1) L (.int (b2i v) :: st)) : V Γ M σ0 r (emb τ B R) pc L (.int i :: va_rf (some (B + c)) :: st) := by
  refine ibd hf fun hi hg => ?_
  have kk := kk _ (by simp [rdB, hi]) hg
  have ht : gT (emb τ B R) (B + c) = (100 + 3, n) := (hB.1 c hc).trans ha
  have hx : ixb (emb τ B R) 3 (B + c) i = true := ixb_iff.mpr ⟨by rw [ht], by rw [ht]; exact hi⟩
  refine r_raB (x := some (B + c)) (F := fun v => some v) (z := gB (emb τ B R) (B + c) i.toNatClampNeg) (by simp [raB, hx]) hd (fun v _ hv => ?_)
  cases hv
  rw [em_gB hc]
  exact kk
theorem rr_waI {c n : Nat} {i : Int32} {v : Int32} {ρ : Type} {F : RS → Option ρ} {z : ρ} (hf : (wrI R c n i v).bind F = some z) (hB : RB τ B) (hd : decode M.2.1 pc = .ok (.iastore, 1)) (hc : c < NB) (ha : arC.getD c (99, 0) = (100 + 0, n)) (kk : ∀ R', wrI R c n i v = some R' → F R' = some z → V Γ M σ0 r (emb τ B R') (pc + 1) L st) : V Γ M σ0 r (emb τ B R) pc L (.int v :: .int i :: va_rf (some (B + c)) :: st) := by
  refine ibd hf fun hi hg => ?_
  have kk := kk _ (by simp [wrI, hi]) hg
  have ht : gT (emb τ B R) (B + c) = (100 + 0, n) := (hB.1 c hc).trans ha
  have hx : ixb (emb τ B R) 0 (B + c) i = true := ixb_iff.mpr ⟨by rw [ht], by rw [ht]; exact hi⟩
  refine r_waI (x := some (B + c)) (F := fun v => some v) (z := sI (emb τ B R) (B + c) i.toNatClampNeg v) (by simp [waI, hx]) hd (fun v _ hv => ?_)
  cases hv
  rw [em_sI hc]
  exact kk
theorem rr_waL {c n : Nat} {i : Int32} {v : Int64} {ρ : Type} {F : RS → Option ρ} {z : ρ} (hf : (wrL R c n i v).bind F = some z) (hB : RB τ B) (hd : decode M.2.1 pc = .ok (.lastore, 1)) (hc : c < NB) (ha : arC.getD c (99, 0) = (100 + 1, n)) (kk : ∀ R', wrL R c n i v = some R' → F R' = some z → V Γ M σ0 r (emb τ B R') (pc + 1) L st) : V Γ M σ0 r (emb τ B R) pc L (.long v :: .int i :: va_rf (some (B + c)) :: st) := by
  refine ibd hf fun hi hg => ?_
  have kk := kk _ (by simp [wrL, hi]) hg
  have ht : gT (emb τ B R) (B + c) = (100 + 1, n) := (hB.1 c hc).trans ha
  have hx : ixb (emb τ B R) 1 (B + c) i = true := ixb_iff.mpr ⟨by rw [ht], by rw [ht]; exact hi⟩
  refine r_waL (x := some (B + c)) (F := fun v => some v) (z := sL (emb τ B R) (B + c) i.toNatClampNeg v) (by simp [waL, hx]) hd (fun v _ hv => ?_)
  cases hv
  rw [em_sL hc]
  exact kk
theorem rr_waB {c n : Nat} {i : Int32} {v : Bool} {ρ : Type} {F : RS → Option ρ} {z : ρ} (hf : (wrB R c n i v).bind F = some z) (hB : RB τ B) (hd : decode M.2.1 pc = .ok (.bastore, 1)) (hc : c < NB) (ha : arC.getD c (99, 0) = (100 + 3, n)) (kk : ∀ R', wrB R c n i v = some R' → F R' = some z → V Γ M σ0 r (emb τ B R') (pc + 1) L st) : V Γ M σ0 r (emb τ B R) pc L (.int (b2i v) :: .int i :: va_rf (some (B + c)) :: st) := by
  refine ibd hf fun hi hg => ?_
  have kk := kk _ (by simp [wrB, hi]) hg
  have ht : gT (emb τ B R) (B + c) = (100 + 3, n) := (hB.1 c hc).trans ha
  have hx : ixb (emb τ B R) 3 (B + c) i = true := ixb_iff.mpr ⟨by rw [ht], by rw [ht]; exact hi⟩
  refine r_waB (x := some (B + c)) (F := fun v => some v) (z := sB (emb τ B R) (B + c) i.toNatClampNeg v) (by simp [waB, hx]) hd (fun v _ hv => ?_)
  cases hv
  rw [em_sB hc]
  exact kk
end RR
