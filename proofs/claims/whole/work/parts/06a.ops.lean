/-! operations on the memory, and their rows over V -/
def ldI (σ : Mem) (ci k : Nat) (x : Option Nat) : Option Int32 := x.bind fun a => if (gT σ a).1 = ci then some (gI σ a k) else none
def ldL (σ : Mem) (ci k : Nat) (x : Option Nat) : Option Int64 := x.bind fun a => if (gT σ a).1 = ci then some (gL σ a k) else none
def ldR (σ : Mem) (ci k : Nat) (x : Option Nat) : Option (Option Nat) := x.bind fun a => if (gT σ a).1 = ci then some (gR σ a k) else none
def ldB (σ : Mem) (ci k : Nat) (x : Option Nat) : Option Bool := x.bind fun a => if (gT σ a).1 = ci then some (gB σ a k) else none
def stI (σ : Mem) (ci k : Nat) (x : Option Nat) (v : Int32) : Option Mem := x.bind fun a => if (gT σ a).1 = ci then some (sI σ a k v) else none
def stL (σ : Mem) (ci k : Nat) (x : Option Nat) (v : Int64) : Option Mem := x.bind fun a => if (gT σ a).1 = ci then some (sL σ a k v) else none
def stR (σ : Mem) (ci k : Nat) (x : Option Nat) (v : Option Nat) : Option Mem := x.bind fun a => if (gT σ a).1 = ci then some (sR σ a k v) else none
def stB (σ : Mem) (ci k : Nat) (x : Option Nat) (v : Bool) : Option Mem := x.bind fun a => if (gT σ a).1 = ci then some (sB σ a k v) else none
/-- an index within an array of a kind -/
def ixd (σ : Mem) (t a : Nat) (i : Int32) : Prop := (gT σ a).1 = 100 + t ∧ 0 ≤ i.toInt ∧ i.toInt < ((gT σ a).2 : Int)
def ixb (σ : Mem) (t a : Nat) (i : Int32) : Bool := decide ((gT σ a).1 = 100 + t) && (decide (0 ≤ i.toInt) && decide (i.toInt < ((gT σ a).2 : Int)))
theorem ixb_iff {σ : Mem} {t a : Nat} {i : Int32} : ixb σ t a i = true ↔ ixd σ t a i := by simp [ixb, ixd]
def raI (σ : Mem) (t : Nat) (x : Option Nat) (i : Int32) : Option Int32 := x.bind fun a => if ixb σ t a i = true then some (gI σ a i.toNatClampNeg) else none
def raL (σ : Mem) (t : Nat) (x : Option Nat) (i : Int32) : Option Int64 := x.bind fun a => if ixb σ t a i = true then some (gL σ a i.toNatClampNeg) else none
def raB (σ : Mem) (t : Nat) (x : Option Nat) (i : Int32) : Option Bool := x.bind fun a => if ixb σ t a i = true then some (gB σ a i.toNatClampNeg) else none
def raR (σ : Mem) (t : Nat) (x : Option Nat) (i : Int32) : Option (Option Nat) := x.bind fun a => if ixb σ t a i = true then some (gR σ a i.toNatClampNeg) else none
def waI (σ : Mem) (t : Nat) (x : Option Nat) (i v : Int32) : Option Mem := x.bind fun a => if ixb σ t a i = true then some (sI σ a i.toNatClampNeg v) else none
def waL (σ : Mem) (t : Nat) (x : Option Nat) (i : Int32) (v : Int64) : Option Mem := x.bind fun a => if ixb σ t a i = true then some (sL σ a i.toNatClampNeg v) else none
def waB (σ : Mem) (t : Nat) (x : Option Nat) (i : Int32) (v : Bool) : Option Mem := x.bind fun a => if ixb σ t a i = true then some (sB σ a i.toNatClampNeg v) else none
/-- an element of an array of references: null, or an object of its very kind -/
def okR (σ : Mem) (ci : Nat) (v : Option Nat) : Bool := match v with
  | none => true
  | some b => decide ((gT σ b).1 = ci)
def waR (σ : Mem) (t ci : Nat) (x : Option Nat) (i : Int32) (v : Option Nat) : Option Mem := x.bind fun a => if (ixb σ t a i && okR σ ci v) = true then some (sR σ a i.toNatClampNeg v) else none
def alen (σ : Mem) (t : Nat) (x : Option Nat) : Option Int32 := x.bind fun a => if (gT σ a).1 = 100 + t then some (Int32.ofNat (gT σ a).2) else none
def nwO (σ : Mem) (ci : Nat) : Mem := nw σ (ci, 0) (fN ci)
def nwA (σ : Mem) (t : Nat) (n : Int32) : Option Mem := if 0 ≤ n.toInt ∧ n.toInt ≤ 2000000 then some (nw σ (100 + t, n.toNatClampNeg) n.toNatClampNeg) else none
def nwK (σ : Mem) (x : Option Nat) : Option Mem := x.bind fun a => if (gT σ a).1 = 101 then some (nwC σ a) else none
def chk (σ : Mem) (ci : Nat) (x : Option Nat) : Option Nat := x.bind fun a => if (gT σ a).1 = ci then some a else none
/-- a field's link -/
def FL (own : String) (index ci k : Nat) : Prop := ci < 13 ∧ k < fN ci ∧ Cond.fieldLink own index (cnN ci) (cnT ci k).2.1 (cnT ci k).2.2.1 ∈ GW ∧ (cnT ci k).1 = cnN ci
theorem obd {α β ρ : Type} {x : Option α} {P : α → Prop} {D : ∀ a, Decidable (P a)} {g : α → β} {F : β → Option ρ} {z : ρ} {Z : Prop} (hf : (x.bind fun a => if P a then some (g a) else none).bind F = some z) (k : ∀ a, x = some a → P a → F (g a) = some z → Z) : Z := by
  cases x with
  | none => cases hf
  | some a =>
    by_cases h : P a
    · refine k a rfl h ?_
      simpa [h] using hf
    · simp [h] at hf
theorem tys_get (aC : Nat → ClassId) : ∀ t, t < 8 → (arTys aC)[t]? = some (aC t, arT t)
  | 0, _ => rfl
  | 1, _ => rfl
  | 2, _ => rfl
  | 3, _ => rfl
  | 4, _ => rfl
  | 5, _ => rfl
  | 6, _ => rfl
  | 7, _ => rfl
  | n + 8, h => absurd h (by omega)
theorem ix_in {i : Int32} {n : Nat} (h : 0 ≤ i.toInt ∧ i.toInt < (n : Int)) : vp_in i n := vp_in_iff.mpr h
theorem fit_rf {ty : FieldType} (h : fkT ty = 2) (v : Option Nat) : narrow ty (va_rf v) = va_rf v ∧ fits ty (va_rf v) = true := by
  cases ty <;> first | (simp [fkT] at h; done) | (cases v <;> exact ⟨rfl, rfl⟩)
theorem fit_b {ty : FieldType} (h : fkT ty = 3) (b : Bool) : narrow ty (.int (b2i b)) = .int (b2i b) ∧ fits ty (.int (b2i b)) = true := by
  cases ty <;> first | (simp [fkT] at h; done) | (cases b <;> decide +kernel)
theorem fit_l {ty : FieldType} (h : fkT ty = 1) (v : Int64) : narrow ty (.long v) = .long v ∧ fits ty (.long v) = true := by
  cases ty <;> first | (simp [fkT] at h; done) | exact ⟨rfl, rfl⟩
theorem vw_nf (ci : Nat) (h : ci < 13) : ∀ j, j < fN ci → fTy ci j ≠ .float ∧ fTy ci j ≠ .double := ci_all (P := fun ci => ∀ j, j < fN ci → fTy ci j ≠ .float ∧ fTy ci j ≠ .double) (by decide +kernel) (by decide +kernel) (by decide +kernel) (by decide +kernel) (by decide +kernel) (by decide +kernel) (by decide +kernel) (by decide +kernel) (by decide +kernel) (by decide +kernel) (by decide +kernel) (by decide +kernel) (by decide +kernel) ci h
section RM
variable {Γ : W0} {M : MD} {σ0 σ : Mem} {r : RT} {pc : Nat} {L : List (Nat × Value)} {st : List Value}
theorem ST.at {p : Program} {s : State} {m : MethodId} {args : Array Value} {meth : Method} {c : Code} {H : Heap} {locs : List Loc} (hT : ST Γ M σ0 σ p s m args meth c H locs) {x : Nat} (h : (gT σ x).1 ≠ 99) : (wl (wA Γ) (wLo Γ) σ)[x - wLo Γ]? = some (x, ent (wA Γ) σ x) ∧ wLo Γ ≤ x ∧ x < gN σ := by
  obtain ⟨h1, h2⟩ := hT.2.2.2.2.2.2.2.2.2.2 x h
  exact ⟨wl_get h1 h2, h1, h2⟩
/-- the state behind a store in one cell -/
theorem ST.put {p : Program} {s : State} {m : MethodId} {args : Array Value} {meth : Method} {c : Code} {H H1 : Heap} {locs : List Loc} {σ' : Mem} {q j : Nat} (hT : ST Γ M σ0 σ p s m args meth c H locs) (hq : (gT σ q).1 ≠ 99) (hz : H1.size = H.size) (ho : ∀ b : Nat, b ≠ q → H1[b]? = H[b]?) (hat : va_at (wD Γ) vwCl (q, ent (wA Γ) σ' q) H1) (hn : gN σ' = gN σ) (hu : gU σ' = gU σ) (ht : gT σ' = gT σ) (he : ∀ b, b ≠ q → ent (wA Γ) σ' b = ent (wA Γ) σ b) : ST Γ M σ0 σ' p s m args meth c H1 (locs ++ [⟨q, j⟩]) := by
  obtain ⟨hw, h1, h2⟩ := hT.at hq
  have hP := hT.2.2.2.2.1.set (wl_D _ _ _) hw hat ho
  rw [wl_set (σ' := σ') h1 h2 hn rfl he] at hP
  exact ⟨hT.1, hT.2.1, hT.2.2.1, hT.2.2.2.1, hP, by rw [hz, hn]; exact hT.2.2.2.2.2.1, hT.2.2.2.2.2.2.1, by rw [hn]; exact hT.2.2.2.2.2.2.2.1, by rw [hu]; exact hT.2.2.2.2.2.2.2.2.1, hT.2.2.2.2.2.2.2.2.2.1.put hz ho h1, fun a ha => by rw [ht] at ha; rw [hn]; exact hT.2.2.2.2.2.2.2.2.2.2 a ha⟩
/-- the state behind a new cell -/
theorem ST.push {p : Program} {s : State} {m : MethodId} {args : Array Value} {meth : Method} {c : Code} {H H1 : Heap} {locs : List Loc} {σ' : Mem} (hT : ST Γ M σ0 σ p s m args meth c H locs) (hz : H1.size = gN σ + 1) (ho : ∀ b : Nat, b < gN σ → H1[b]? = H[b]?) (hat : va_at (wD Γ) vwCl (gN σ, ent (wA Γ) σ' (gN σ)) H1) (hn : gN σ' = gN σ + 1) (hu : gU σ ≤ gU σ') (ht : ∀ b, b ≠ gN σ → gT σ' b = gT σ b) (he : ∀ b, b < gN σ → ent (wA Γ) σ' b = ent (wA Γ) σ b) : ST Γ M σ0 σ' p s m args meth c H1 locs := by
  have hlo : wLo Γ ≤ gN σ := Nat.le_trans hT.2.2.2.2.2.2.1 hT.2.2.2.2.2.2.2.1
  have hS := hT.2.2.2.2.2.2.2.2.2.1
  have hsz : H.size = gN σ := hT.2.2.2.2.2.1
  have hP : va_P (wD Γ) vwCl (wl (wA Γ) (wLo Γ) σ ++ [(gN σ, ent (wA Γ) σ' (gN σ))]) H1 := by
    refine (hT.2.2.2.2.1.kept fun k q hk => ho q.1 ?_).app fun k q hk => ?_
    · rw [← hsz]
      exact (hT.2.2.2.2.1 k q hk).lt
    · have hz : k < 1 := (List.getElem?_eq_some_iff.mp hk).1
      rw [show k = 0 by omega] at hk
      cases hk
      exact hat
  rw [wl_push (σ' := σ') hlo hn rfl he] at hP
  refine ⟨hT.1, hT.2.1, hT.2.2.1, hT.2.2.2.1, hP, by rw [hz, hn], hT.2.2.2.2.2.2.1, by have := hT.2.2.2.2.2.2.2.1; omega, Nat.le_trans hT.2.2.2.2.2.2.2.2.1 hu, ⟨Nat.le_trans hS.1 (by omega), fun q a1 a2 => ?_, hS.2.2⟩, fun a ha => ?_⟩
  · rw [ho q (by have := hS.1; omega)]
    exact hS.2.1 q a1 a2
  · by_cases hb : a = gN σ
    · subst hb
      exact ⟨hlo, by omega⟩
    · rw [ht a hb] at ha
      have := hT.2.2.2.2.2.2.2.2.2.2 a ha
      omega
theorem r_ldI {ci k index : Nat} {x : Option Nat} {ρ : Type} {F : Int32 → Option ρ} {z : ρ} (hf : (ldI σ ci k x).bind F = some z) (hd : decode M.2.1 pc = .ok (.getfield index, 3)) (hF : FL M.1 index ci k) (hk : fk ci k = 0) (kk : ∀ v, ldI σ ci k x = some v → F v = some z → V Γ M σ0 r σ (pc + 3) L (.int v :: st)) : V Γ M σ0 r σ pc L (va_rf x :: st) := by
  refine obd hf fun q hx hq hg => ?_
  subst hx
  have kk := kk (gI σ q k) (by simp [ldI, hq]) hg
  refine ⟨kk.1, kk.2.1, fun p l e s m args below meth c H locs ls hT hl => ?_⟩
  obtain ⟨f1, f2, f3, f4⟩ := hF
  have he := (hT.at (x := q) (by rw [hq]; omega)).1
  rw [ent_o hq (by omega)] at he
  refine va_get hT.1.1 hT.1.2.1 hT.1.2.2.2.2.1 (vw_in ci f1) hT.1.2.2.2.1 hT.2.1 hT.2.2.2.2.1 _ he (vw_get ci f1) k f2 (hT.1.2.2.2.2.1 _ f3) (fun y hy => by rw [← f4]; exact hy) ?_ hd (kk.2.2 p l e s m args below meth c H locs ls hT hl)
  rw [fs_get f2]
  simp only [fv, hk]
theorem r_ldL {ci k index : Nat} {x : Option Nat} {ρ : Type} {F : Int64 → Option ρ} {z : ρ} (hf : (ldL σ ci k x).bind F = some z) (hd : decode M.2.1 pc = .ok (.getfield index, 3)) (hF : FL M.1 index ci k) (hk : fk ci k = 1) (kk : ∀ v, ldL σ ci k x = some v → F v = some z → V Γ M σ0 r σ (pc + 3) L (.long v :: st)) : V Γ M σ0 r σ pc L (va_rf x :: st) := by
  refine obd hf fun q hx hq hg => ?_
  subst hx
  have kk := kk (gL σ q k) (by simp [ldL, hq]) hg
  refine ⟨kk.1, kk.2.1, fun p l e s m args below meth c H locs ls hT hl => ?_⟩
  obtain ⟨f1, f2, f3, f4⟩ := hF
  have he := (hT.at (x := q) (by rw [hq]; omega)).1
  rw [ent_o hq (by omega)] at he
  refine va_get hT.1.1 hT.1.2.1 hT.1.2.2.2.2.1 (vw_in ci f1) hT.1.2.2.2.1 hT.2.1 hT.2.2.2.2.1 _ he (vw_get ci f1) k f2 (hT.1.2.2.2.2.1 _ f3) (fun y hy => by rw [← f4]; exact hy) ?_ hd (kk.2.2 p l e s m args below meth c H locs ls hT hl)
  rw [fs_get f2]
  simp only [fv, hk]
theorem r_ldR {ci k index : Nat} {x : Option Nat} {ρ : Type} {F : Option Nat → Option ρ} {z : ρ} (hf : (ldR σ ci k x).bind F = some z) (hd : decode M.2.1 pc = .ok (.getfield index, 3)) (hF : FL M.1 index ci k) (hk : fk ci k = 2) (kk : ∀ v, ldR σ ci k x = some v → F v = some z → V Γ M σ0 r σ (pc + 3) L (va_rf v :: st)) : V Γ M σ0 r σ pc L (va_rf x :: st) := by
  refine obd hf fun q hx hq hg => ?_
  subst hx
  have kk := kk (gR σ q k) (by simp [ldR, hq]) hg
  refine ⟨kk.1, kk.2.1, fun p l e s m args below meth c H locs ls hT hl => ?_⟩
  obtain ⟨f1, f2, f3, f4⟩ := hF
  have he := (hT.at (x := q) (by rw [hq]; omega)).1
  rw [ent_o hq (by omega)] at he
  refine va_get hT.1.1 hT.1.2.1 hT.1.2.2.2.2.1 (vw_in ci f1) hT.1.2.2.2.1 hT.2.1 hT.2.2.2.2.1 _ he (vw_get ci f1) k f2 (hT.1.2.2.2.2.1 _ f3) (fun y hy => by rw [← f4]; exact hy) ?_ hd (kk.2.2 p l e s m args below meth c H locs ls hT hl)
  rw [fs_get f2]
  simp only [fv, hk]
theorem r_ldB {ci k index : Nat} {x : Option Nat} {ρ : Type} {F : Bool → Option ρ} {z : ρ} (hf : (ldB σ ci k x).bind F = some z) (hd : decode M.2.1 pc = .ok (.getfield index, 3)) (hF : FL M.1 index ci k) (hk : fk ci k = 3) (kk : ∀ v, ldB σ ci k x = some v → F v = some z → V Γ M σ0 r σ (pc + 3) L (.int (b2i v) :: st)) : V Γ M σ0 r σ pc L (va_rf x :: st) := by
  refine obd hf fun q hx hq hg => ?_
  subst hx
  have kk := kk (gB σ q k) (by simp [ldB, hq]) hg
  refine ⟨kk.1, kk.2.1, fun p l e s m args below meth c H locs ls hT hl => ?_⟩
  obtain ⟨f1, f2, f3, f4⟩ := hF
  have he := (hT.at (x := q) (by rw [hq]; omega)).1
  rw [ent_o hq (by omega)] at he
  refine va_get hT.1.1 hT.1.2.1 hT.1.2.2.2.2.1 (vw_in ci f1) hT.1.2.2.2.1 hT.2.1 hT.2.2.2.2.1 _ he (vw_get ci f1) k f2 (hT.1.2.2.2.2.1 _ f3) (fun y hy => by rw [← f4]; exact hy) ?_ hd (kk.2.2 p l e s m args below meth c H locs ls hT hl)
  rw [fs_get f2]
  simp only [fv, hk]
theorem r_put0 {ci k index q : Nat} {v : Value} {σ' : Mem} (hq : (gT σ q).1 = ci) (hd : decode M.2.1 pc = .ok (.putfield index, 3)) (hF : FL M.1 index ci k) (hfin : (cnT ci k).2.2.2 = false) (hfit : narrow (fTy ci k) v = v ∧ fits (fTy ci k) v = true) (hn : gN σ' = gN σ) (hu : gU σ' = gU σ) (ht : gT σ' = gT σ) (he : ∀ b, b ≠ q → ent (wA Γ) σ' b = ent (wA Γ) σ b) (hv : fv σ' q ci k = v) (hvo : ∀ j, j ≠ k → fv σ' q ci j = fv σ q ci j) (kk : V Γ M σ0 r σ' (pc + 3) L st) : V Γ M σ0 r σ pc L (v :: .ref q :: st) := by
  refine ⟨by rw [← hn]; exact kk.1, by rw [← hu]; exact kk.2.1, fun p l e s m args below meth c H locs ls hT hl => ?_⟩
  obtain ⟨f1, f2, f3, f4⟩ := hF
  have h99 : (gT σ q).1 ≠ 99 := by rw [hq]; omega
  obtain ⟨hw, b1, b2⟩ := hT.at h99
  rw [ent_o hq (by omega)] at hw
  have hts := hT.1.2.2.2.2.1
  have hin := vw_in ci f1
  have hc := vw_get ci f1
  have hap := va_apart (own := M.1) hts hin (fTy ci) (vw_ty ci f1) (vw_nm ci f1) hT.2.1 hc
  obtain ⟨x, h1, cell, q1, q2, q3, q4⟩ := hT.2.2.2.2.1 _ _ hw
  have hr : x = (cnN ci, cnT ci, fN ci) := Option.some.inj (h1.symm.trans hc)
  subst hr
  obtain ⟨hS, hfc, kC, hkC, hkind⟩ := hT.2.1.1 ci _ hc
  obtain ⟨cf, kf, fi, f, hi, hsl⟩ := hS k f2
  have hlay := hts _ (hin _ (u_in_lay f2))
  unfold u_lay at hlay
  rw [if_neg (by rw [hfin]; decide)] at hlay
  have hst := (u_facts hfc hkC (u_lays hts hin f2) hi).1
  have h6 := u_store hfc hkC hkind hlay hi (vw_ty ci f1 k f2) hfit.1 hfit.2
  refine W.putK hT.1.1 hT.1.2.1 (f := f) ⟨hT.1.2.2.2.1, hts _ f3, ⟨_, _, _, by rw [← f4]; exact hi⟩, hst⟩ (by rw [q2]; exact h6) q1 q3 (by rw [hsl]; exact k2_hasslot (q4 k f2)) rfl rfl hd fun H' e1 e2 e3 => ?_
  have hT' : ST Γ M σ0 σ' p s m args meth c H' (locs ++ [⟨q, f.slot⟩]) := by
    refine hT.put h99 e2 e3 ?_ hn hu ht he
    rw [ent_o (ci := ci) (by rw [ht]; exact hq) (by omega)]
    rw [hsl] at e1
    refine ⟨_, hc, t_OB.to (V := updV (vp_V (fs σ q ci)) k v) ⟨_, e1, q2, q3, t_set q4 hap f2 v⟩ (fun j _ => ?_)⟩
    rw [vp_updV_set (by rw [fs_len]; exact f2) v j, fs_set f2 hv hvo]
  have w := kk.2.2 p l e s m args below meth c H' _ ls hT' hl
  rw [hn, hu] at w
  exact w
theorem r_putF0 {ci k index q : Nat} {v : Value} {σ' : Mem} (hq : (gT σ q).1 = ci) (hd : decode M.2.1 pc = .ok (.putfield index, 3)) (hF : FL M.1 index ci k) (hfin : (cnT ci k).2.2.2 = true) (hini : M.2.2.2.2.1 = true) (hdc : (cnT ci k).1 = M.1) (hfit : narrow (fTy ci k) v = v ∧ fits (fTy ci k) v = true) (hn : gN σ' = gN σ) (hu : gU σ' = gU σ) (ht : gT σ' = gT σ) (he : ∀ b, b ≠ q → ent (wA Γ) σ' b = ent (wA Γ) σ b) (hv : fv σ' q ci k = v) (hvo : ∀ j, j ≠ k → fv σ' q ci j = fv σ q ci j) (kk : V Γ M σ0 r σ' (pc + 3) L st) : V Γ M σ0 r σ pc L (v :: .ref q :: st) := by
  refine ⟨by rw [← hn]; exact kk.1, by rw [← hu]; exact kk.2.1, fun p l e s m args below meth c H locs ls hT hl => ?_⟩
  obtain ⟨f1, f2, f3, f4⟩ := hF
  have h99 : (gT σ q).1 ≠ 99 := by rw [hq]; omega
  obtain ⟨hw, b1, b2⟩ := hT.at h99
  rw [ent_o hq (by omega)] at hw
  have hts := hT.1.2.2.2.2.1
  have hin := vw_in ci f1
  have hc := vw_get ci f1
  have hap := va_apart (own := M.1) hts hin (fTy ci) (vw_ty ci f1) (vw_nm ci f1) hT.2.1 hc
  obtain ⟨x, h1, cell, q1, q2, q3, q4⟩ := hT.2.2.2.2.1 _ _ hw
  have hr : x = (cnN ci, cnT ci, fN ci) := Option.some.inj (h1.symm.trans hc)
  subst hr
  obtain ⟨hS, hfc, kC, hkC, hkind⟩ := hT.2.1.1 ci _ hc
  obtain ⟨cf, kf, fi, f, hi, hsl⟩ := hS k f2
  have hlay := hts _ (hin _ (u_in_lay f2))
  unfold u_lay at hlay
  rw [if_pos hfin] at hlay
  have hst := (u_facts hfc hkC (u_lays hts hin f2) hi).1
  have hcf : m.cls = cf := by
    obtain ⟨_, _, c', _, _, _, -, -, hf', -, -, -, hown2, -⟩ := Cond.laysFinal_spec hlay
    have e1 : c' = cf := by have := hi.symm.trans hf'; simp at this; exact this.1.symm
    rw [hdc] at hown2
    rw [← e1]; exact Option.some.inj (hT.1.2.2.2.1.symm.trans hown2)
  have h6 := u_fits hfc hkC hkind (Or.inr hlay) hi (vw_ty ci f1 k f2) hfit.1 hfit.2
  refine W.putFinK hT.1.1 hT.1.2.1 hT.1.2.2.2.1 (hts _ f3) (by rw [← f4]; exact hi) hst hcf (hT.1.2.2.2.2.2.2.2.1 hini) (by rw [q2]; exact h6) q1 q3 (by rw [hsl]; exact k2_hasslot (q4 k f2)) rfl rfl hd fun H' e1 e2 e3 => ?_
  have hT' : ST Γ M σ0 σ' p s m args meth c H' (locs ++ [⟨q, f.slot⟩]) := by
    refine hT.put h99 e2 e3 ?_ hn hu ht he
    rw [ent_o (ci := ci) (by rw [ht]; exact hq) (by omega)]
    rw [hsl] at e1
    refine ⟨_, hc, t_OB.to (V := updV (vp_V (fs σ q ci)) k v) ⟨_, e1, q2, q3, t_set q4 hap f2 v⟩ (fun j _ => ?_)⟩
    rw [vp_updV_set (by rw [fs_len]; exact f2) v j, fs_set f2 hv hvo]
  have w := kk.2.2 p l e s m args below meth c H' _ ls hT' hl
  rw [hn, hu] at w
  exact w
theorem r_stI {ci k index : Nat} {x : Option Nat} {v : Int32} {ρ : Type} {F : Mem → Option ρ} {z : ρ} (hf : (stI σ ci k x v).bind F = some z) (hd : decode M.2.1 pc = .ok (.putfield index, 3)) (hF : FL M.1 index ci k) (hk : fk ci k = 0) (hty : fTy ci k = .int) (hfin : (cnT ci k).2.2.2 = false) (kk : ∀ σ', stI σ ci k x v = some σ' → F σ' = some z → V Γ M σ0 r σ' (pc + 3) L st) : V Γ M σ0 r σ pc L (.int v :: va_rf x :: st) := by
  refine obd hf fun q hx hq hg => ?_
  subst hx
  have kk := kk (sI σ q k v) (by simp [stI, hq]) hg
  have e : gI (sI σ q k v) q k = v := up2_s _ _ _ _
  exact r_put0 (σ' := sI σ q k v) hq hd hF hfin (⟨by rw [hty]; rfl, by rw [hty]; rfl⟩) rfl rfl rfl (fun b hb => ent_sI hb) (by simp only [fv, hk, e]) (fun j hj => fv_sI hj) kk
theorem r_stIF {ci k index : Nat} {x : Option Nat} {v : Int32} {ρ : Type} {F : Mem → Option ρ} {z : ρ} (hf : (stI σ ci k x v).bind F = some z) (hd : decode M.2.1 pc = .ok (.putfield index, 3)) (hF : FL M.1 index ci k) (hk : fk ci k = 0) (hty : fTy ci k = .int) (hfin : (cnT ci k).2.2.2 = true) (hini : M.2.2.2.2.1 = true) (hdc : (cnT ci k).1 = M.1) (kk : ∀ σ', stI σ ci k x v = some σ' → F σ' = some z → V Γ M σ0 r σ' (pc + 3) L st) : V Γ M σ0 r σ pc L (.int v :: va_rf x :: st) := by
  refine obd hf fun q hx hq hg => ?_
  subst hx
  have kk := kk (sI σ q k v) (by simp [stI, hq]) hg
  have e : gI (sI σ q k v) q k = v := up2_s _ _ _ _
  exact r_putF0 (σ' := sI σ q k v) hq hd hF hfin hini hdc (⟨by rw [hty]; rfl, by rw [hty]; rfl⟩) rfl rfl rfl (fun b hb => ent_sI hb) (by simp only [fv, hk, e]) (fun j hj => fv_sI hj) kk
theorem r_stL {ci k index : Nat} {x : Option Nat} {v : Int64} {ρ : Type} {F : Mem → Option ρ} {z : ρ} (hf : (stL σ ci k x v).bind F = some z) (hd : decode M.2.1 pc = .ok (.putfield index, 3)) (hF : FL M.1 index ci k) (hk : fk ci k = 1) (hfin : (cnT ci k).2.2.2 = false) (kk : ∀ σ', stL σ ci k x v = some σ' → F σ' = some z → V Γ M σ0 r σ' (pc + 3) L st) : V Γ M σ0 r σ pc L (.long v :: va_rf x :: st) := by
  refine obd hf fun q hx hq hg => ?_
  subst hx
  have kk := kk (sL σ q k v) (by simp [stL, hq]) hg
  have e : gL (sL σ q k v) q k = v := up2_s _ _ _ _
  exact r_put0 (σ' := sL σ q k v) hq hd hF hfin (fit_l hk v) rfl rfl rfl (fun b hb => ent_sL hb) (by simp only [fv, hk, e]) (fun j hj => fv_sL hj) kk
theorem r_stLF {ci k index : Nat} {x : Option Nat} {v : Int64} {ρ : Type} {F : Mem → Option ρ} {z : ρ} (hf : (stL σ ci k x v).bind F = some z) (hd : decode M.2.1 pc = .ok (.putfield index, 3)) (hF : FL M.1 index ci k) (hk : fk ci k = 1) (hfin : (cnT ci k).2.2.2 = true) (hini : M.2.2.2.2.1 = true) (hdc : (cnT ci k).1 = M.1) (kk : ∀ σ', stL σ ci k x v = some σ' → F σ' = some z → V Γ M σ0 r σ' (pc + 3) L st) : V Γ M σ0 r σ pc L (.long v :: va_rf x :: st) := by
  refine obd hf fun q hx hq hg => ?_
  subst hx
  have kk := kk (sL σ q k v) (by simp [stL, hq]) hg
  have e : gL (sL σ q k v) q k = v := up2_s _ _ _ _
  exact r_putF0 (σ' := sL σ q k v) hq hd hF hfin hini hdc (fit_l hk v) rfl rfl rfl (fun b hb => ent_sL hb) (by simp only [fv, hk, e]) (fun j hj => fv_sL hj) kk
theorem r_stR {ci k index : Nat} {x : Option Nat} {v : Option Nat} {ρ : Type} {F : Mem → Option ρ} {z : ρ} (hf : (stR σ ci k x v).bind F = some z) (hd : decode M.2.1 pc = .ok (.putfield index, 3)) (hF : FL M.1 index ci k) (hk : fk ci k = 2) (hfin : (cnT ci k).2.2.2 = false) (kk : ∀ σ', stR σ ci k x v = some σ' → F σ' = some z → V Γ M σ0 r σ' (pc + 3) L st) : V Γ M σ0 r σ pc L (va_rf v :: va_rf x :: st) := by
  refine obd hf fun q hx hq hg => ?_
  subst hx
  have kk := kk (sR σ q k v) (by simp [stR, hq]) hg
  have e : gR (sR σ q k v) q k = v := up2_s _ _ _ _
  exact r_put0 (σ' := sR σ q k v) hq hd hF hfin (fit_rf hk v) rfl rfl rfl (fun b hb => ent_sR hb) (by simp only [fv, hk, e]) (fun j hj => fv_sR hj) kk
theorem r_stRF {ci k index : Nat} {x : Option Nat} {v : Option Nat} {ρ : Type} {F : Mem → Option ρ} {z : ρ} (hf : (stR σ ci k x v).bind F = some z) (hd : decode M.2.1 pc = .ok (.putfield index, 3)) (hF : FL M.1 index ci k) (hk : fk ci k = 2) (hfin : (cnT ci k).2.2.2 = true) (hini : M.2.2.2.2.1 = true) (hdc : (cnT ci k).1 = M.1) (kk : ∀ σ', stR σ ci k x v = some σ' → F σ' = some z → V Γ M σ0 r σ' (pc + 3) L st) : V Γ M σ0 r σ pc L (va_rf v :: va_rf x :: st) := by
  refine obd hf fun q hx hq hg => ?_
  subst hx
  have kk := kk (sR σ q k v) (by simp [stR, hq]) hg
  have e : gR (sR σ q k v) q k = v := up2_s _ _ _ _
  exact r_putF0 (σ' := sR σ q k v) hq hd hF hfin hini hdc (fit_rf hk v) rfl rfl rfl (fun b hb => ent_sR hb) (by simp only [fv, hk, e]) (fun j hj => fv_sR hj) kk
theorem r_stB {ci k index : Nat} {x : Option Nat} {v : Bool} {ρ : Type} {F : Mem → Option ρ} {z : ρ} (hf : (stB σ ci k x v).bind F = some z) (hd : decode M.2.1 pc = .ok (.putfield index, 3)) (hF : FL M.1 index ci k) (hk : fk ci k = 3) (hfin : (cnT ci k).2.2.2 = false) (kk : ∀ σ', stB σ ci k x v = some σ' → F σ' = some z → V Γ M σ0 r σ' (pc + 3) L st) : V Γ M σ0 r σ pc L (.int (b2i v) :: va_rf x :: st) := by
  refine obd hf fun q hx hq hg => ?_
  subst hx
  have kk := kk (sB σ q k v) (by simp [stB, hq]) hg
  have e : gB (sB σ q k v) q k = v := up2_s _ _ _ _
  exact r_put0 (σ' := sB σ q k v) hq hd hF hfin (fit_b hk v) rfl rfl rfl (fun b hb => ent_sB hb) (by simp only [fv, hk, e]) (fun j hj => fv_sB hj) kk
theorem r_stBF {ci k index : Nat} {x : Option Nat} {v : Bool} {ρ : Type} {F : Mem → Option ρ} {z : ρ} (hf : (stB σ ci k x v).bind F = some z) (hd : decode M.2.1 pc = .ok (.putfield index, 3)) (hF : FL M.1 index ci k) (hk : fk ci k = 3) (hfin : (cnT ci k).2.2.2 = true) (hini : M.2.2.2.2.1 = true) (hdc : (cnT ci k).1 = M.1) (kk : ∀ σ', stB σ ci k x v = some σ' → F σ' = some z → V Γ M σ0 r σ' (pc + 3) L st) : V Γ M σ0 r σ pc L (.int (b2i v) :: va_rf x :: st) := by
  refine obd hf fun q hx hq hg => ?_
  subst hx
  have kk := kk (sB σ q k v) (by simp [stB, hq]) hg
  have e : gB (sB σ q k v) q k = v := up2_s _ _ _ _
  exact r_putF0 (σ' := sB σ q k v) hq hd hF hfin hini hdc (fit_b hk v) rfl rfl rfl (fun b hb => ent_sB hb) (by simp only [fv, hk, e]) (fun j hj => fv_sB hj) kk
end RM
