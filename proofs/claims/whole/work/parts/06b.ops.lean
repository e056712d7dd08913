/-! arrays and new cells -/
section RM
variable {Γ : W0} {M : MD} {σ0 σ : Mem} {r : RT} {pc : Nat} {L : List (Nat × Value)} {st : List Value}
theorem r_raI {x : Option Nat} {i : Int32} {ρ : Type} {F : Int32 → Option ρ} {z : ρ} (hf : (raI σ 0 x i).bind F = some z) (hd : decode M.2.1 pc = .ok (.iaload, 1)) (kk : ∀ v, raI σ 0 x i = some v → F v = some z → V Γ M σ0 r σ (pc + 1) L (.int v :: st)) : V Γ M σ0 r σ pc L (.int i :: va_rf x :: st) := by
  refine obd hf fun q hx hq hg => ?_
  subst hx
  have kk := kk (gI σ q i.toNatClampNeg) (by simp [raI, hq]) hg
  obtain ⟨hk, hix⟩ := ixb_iff.mp hq
  refine ⟨kk.1, kk.2.1, fun p l e s m args below meth c H locs ls hT hl => ?_⟩
  have he := (hT.at (x := q) (by rw [hk]; omega)).1
  rw [ent_a hk] at he
  exact va_iald hT.1.1 hT.1.2.1 hT.2.1 hT.2.2.2.2.1 _ 0 he rfl (ix_in hix) hd (kk.2.2 p l e s m args below meth c H locs ls hT hl)
theorem r_raY {x : Option Nat} {i : Int32} {ρ : Type} {F : Int32 → Option ρ} {z : ρ} (hf : (raI σ 2 x i).bind F = some z) (hd : decode M.2.1 pc = .ok (.baload, 1)) (kk : ∀ v, raI σ 2 x i = some v → F v = some z → V Γ M σ0 r σ (pc + 1) L (.int v :: st)) : V Γ M σ0 r σ pc L (.int i :: va_rf x :: st) := by
  refine obd hf fun q hx hq hg => ?_
  subst hx
  have kk := kk (gI σ q i.toNatClampNeg) (by simp [raI, hq]) hg
  obtain ⟨hk, hix⟩ := ixb_iff.mp hq
  refine ⟨kk.1, kk.2.1, fun p l e s m args below meth c H locs ls hT hl => ?_⟩
  have he := (hT.at (x := q) (by rw [hk]; omega)).1
  rw [ent_a hk] at he
  exact va_bald hT.1.1 hT.1.2.1 hT.2.1 hT.2.2.2.2.1 _ 2 he rfl (ix_in hix) hd (kk.2.2 p l e s m args below meth c H locs ls hT hl)
theorem r_raL {x : Option Nat} {i : Int32} {ρ : Type} {F : Int64 → Option ρ} {z : ρ} (hf : (raL σ 1 x i).bind F = some z) (hd : decode M.2.1 pc = .ok (.laload, 1)) (kk : ∀ v, raL σ 1 x i = some v → F v = some z → V Γ M σ0 r σ (pc + 1) L (.long v :: st)) : V Γ M σ0 r σ pc L (.int i :: va_rf x :: st) := by
  refine obd hf fun q hx hq hg => ?_
  subst hx
  have kk := kk (gL σ q i.toNatClampNeg) (by simp [raL, hq]) hg
  obtain ⟨hk, hix⟩ := ixb_iff.mp hq
  refine ⟨kk.1, kk.2.1, fun p l e s m args below meth c H locs ls hT hl => ?_⟩
  have he := (hT.at (x := q) (by rw [hk]; omega)).1
  rw [ent_a hk] at he
  exact va_lald hT.1.1 hT.1.2.1 hT.2.1 hT.2.2.2.2.1 _ 1 he rfl (ix_in hix) hd (kk.2.2 p l e s m args below meth c H locs ls hT hl)
theorem r_raB {x : Option Nat} {i : Int32} {ρ : Type} {F : Bool → Option ρ} {z : ρ} (hf : (raB σ 3 x i).bind F = some z) (hd : decode M.2.1 pc = .ok (.baload, 1)) (kk : ∀ v, raB σ 3 x i = some v → F v = some z → V Γ M σ0 r σ (pc + 1) L (.int (b2i v) :: st)) : V Γ M σ0 r σ pc L (.int i :: va_rf x :: st) := by
  refine obd hf fun q hx hq hg => ?_
  subst hx
  have kk := kk (gB σ q i.toNatClampNeg) (by simp [raB, hq]) hg
  obtain ⟨hk, hix⟩ := ixb_iff.mp hq
  refine ⟨kk.1, kk.2.1, fun p l e s m args below meth c H locs ls hT hl => ?_⟩
  have he := (hT.at (x := q) (by rw [hk]; omega)).1
  rw [ent_a hk] at he
  exact va_zald hT.1.1 hT.1.2.1 hT.2.1 hT.2.2.2.2.1 _ 3 he rfl (ix_in hix) hd (kk.2.2 p l e s m args below meth c H locs ls hT hl)
theorem r_raR {x : Option Nat} {i : Int32} {t : Nat} {ρ : Type} {F : Option Nat → Option ρ} {z : ρ} (hf : (raR σ t x i).bind F = some z) (hd : decode M.2.1 pc = .ok (.aaload, 1)) (h4 : 4 ≤ t) (h8 : t < 8) (kk : ∀ v, raR σ t x i = some v → F v = some z → V Γ M σ0 r σ (pc + 1) L (va_rf v :: st)) : V Γ M σ0 r σ pc L (.int i :: va_rf x :: st) := by
  refine obd hf fun q hx hq hg => ?_
  subst hx
  have kk := kk (gR σ q i.toNatClampNeg) (by simp [raR, hq]) hg
  obtain ⟨hk, hix⟩ := ixb_iff.mp hq
  refine ⟨kk.1, kk.2.1, fun p l e s m args below meth c H locs ls hT hl => ?_⟩
  have he := (hT.at (x := q) (by rw [hk]; omega)).1
  rw [ent_a hk] at he
  obtain ⟨C, hC⟩ : ∃ C, arT t = .object C := by
    match t, h4, h8 with
    | 4, _, _ => exact ⟨_, rfl⟩
    | 5, _, _ => exact ⟨_, rfl⟩
    | 6, _, _ => exact ⟨_, rfl⟩
    | 7, _, _ => exact ⟨_, rfl⟩
    | n + 8, _, h => exact absurd h (by omega)
  have ht := tys_get (wA Γ) t h8
  rw [hC] at ht
  have ha : acs σ q t = .inr (.inr (.inr (.inr (gR σ q)))) := by
    match t, h4 with
    | n + 4, _ => rfl
  rw [ha] at he
  exact va_aldq hT.1.1 hT.1.2.1 hT.2.1 hT.2.2.2.2.1 _ t he ht (ix_in hix) hd (kk.2.2 p l e s m args below meth c H locs ls hT hl)
theorem r_waI {x : Option Nat} {i : Int32} {v : Int32} {ρ : Type} {F : Mem → Option ρ} {z : ρ} (hf : (waI σ 0 x i v).bind F = some z) (hd : decode M.2.1 pc = .ok (.iastore, 1)) (kk : ∀ σ', waI σ 0 x i v = some σ' → F σ' = some z → V Γ M σ0 r σ' (pc + 1) L st) : V Γ M σ0 r σ pc L (.int v :: .int i :: va_rf x :: st) := by
  refine obd hf fun q hx hq hg => ?_
  subst hx
  have kk := kk (sI σ q i.toNatClampNeg v) (by simp [waI, hq]) hg
  obtain ⟨hk, hix⟩ := ixb_iff.mp hq
  refine ⟨kk.1, kk.2.1, fun p l e s m args below meth c H locs ls hT hl => ?_⟩
  have h99 : (gT σ q).1 ≠ 99 := by rw [hk]; omega
  have he := (hT.at h99).1
  rw [ent_a hk] at he
  refine W.iast hT.1.1 hT.1.2.1 (hT.2.2.2.2.1 _ _ he) ((hT.2.1.2 0 _ rfl).1 (gT σ q).2 (fun j => .int (gI σ q j))) (fun q => by cases q) (by show ¬ (i < 0 ∨ (arrV _ _ _).slots.size ≤ _); rw [arrV_size]; exact ix_in hix) rfl rfl hd fun H1 eH zH oq => ?_
  refine kk.2.2 p l e s m args below meth c H1 _ ls (hT.put h99 zH oq ?_ rfl rfl rfl (fun b hb => ent_sI hb)) hl
  rw [ent_a (t := 0) (by exact hk)]
  show H1[q]? = some (vp_cell _ _)
  rw [eH]
  show some ((vp_cell (wA Γ 0) ((gT σ q).2, acs σ q 0)).setSlot _ _) = some (vp_cell (wA Γ 0) ((gT σ q).2, acs (sI σ q i.toNatClampNeg v) q 0))
  simp only [acs]
  rw [vp_cell_i, vp_cell_i, arrV_store]
  congr 2
  funext j
  by_cases hj : j = i.toNatClampNeg
  · subst hj
    simp [updV, gI, sI, up2]
  · simp [updV, gI, sI, up2, hj]
theorem r_waY {x : Option Nat} {i : Int32} {v : Int32} {ρ : Type} {F : Mem → Option ρ} {z : ρ} (hf : (waI σ 2 x i (v.toInt8.toInt32)).bind F = some z) (hd : decode M.2.1 pc = .ok (.bastore, 1)) (kk : ∀ σ', waI σ 2 x i (v.toInt8.toInt32) = some σ' → F σ' = some z → V Γ M σ0 r σ' (pc + 1) L st) : V Γ M σ0 r σ pc L (.int v :: .int i :: va_rf x :: st) := by
  refine obd hf fun q hx hq hg => ?_
  subst hx
  have kk := kk (sI σ q i.toNatClampNeg (v.toInt8.toInt32)) (by simp [waI, hq]) hg
  obtain ⟨hk, hix⟩ := ixb_iff.mp hq
  refine ⟨kk.1, kk.2.1, fun p l e s m args below meth c H locs ls hT hl => ?_⟩
  have h99 : (gT σ q).1 ≠ 99 := by rw [hk]; omega
  have he := (hT.at h99).1
  rw [ent_a hk] at he
  refine W.bast hT.1.1 hT.1.2.1 (hT.2.2.2.2.1 _ _ he) ((hT.2.1.2 2 _ rfl).1 (gT σ q).2 (fun j => .int (gI σ q j))) (fun q => by cases q) (by show ¬ (i < 0 ∨ (arrV _ _ _).slots.size ≤ _); rw [arrV_size]; exact ix_in hix) rfl rfl hd fun H1 eH zH oq => ?_
  refine kk.2.2 p l e s m args below meth c H1 _ ls (hT.put h99 zH oq ?_ rfl rfl rfl (fun b hb => ent_sI hb)) hl
  rw [ent_a (t := 2) (by exact hk)]
  show H1[q]? = some (vp_cell _ _)
  rw [eH]
  show some ((vp_cell (wA Γ 2) ((gT σ q).2, acs σ q 2)).setSlot _ _) = some (vp_cell (wA Γ 2) ((gT σ q).2, acs (sI σ q i.toNatClampNeg (v.toInt8.toInt32)) q 2))
  simp only [acs]
  rw [vp_cell_i, vp_cell_i, arrV_store]
  congr 2
  funext j
  by_cases hj : j = i.toNatClampNeg
  · subst hj
    simp [updV, gI, sI, up2]
    rfl
  · simp [updV, gI, sI, up2, hj]
theorem r_waL {x : Option Nat} {i : Int32} {v : Int64} {ρ : Type} {F : Mem → Option ρ} {z : ρ} (hf : (waL σ 1 x i v).bind F = some z) (hd : decode M.2.1 pc = .ok (.lastore, 1)) (kk : ∀ σ', waL σ 1 x i v = some σ' → F σ' = some z → V Γ M σ0 r σ' (pc + 1) L st) : V Γ M σ0 r σ pc L (.long v :: .int i :: va_rf x :: st) := by
  refine obd hf fun q hx hq hg => ?_
  subst hx
  have kk := kk (sL σ q i.toNatClampNeg v) (by simp [waL, hq]) hg
  obtain ⟨hk, hix⟩ := ixb_iff.mp hq
  refine ⟨kk.1, kk.2.1, fun p l e s m args below meth c H locs ls hT hl => ?_⟩
  have h99 : (gT σ q).1 ≠ 99 := by rw [hk]; omega
  have he := (hT.at h99).1
  rw [ent_a hk] at he
  refine W.last hT.1.1 hT.1.2.1 (hT.2.2.2.2.1 _ _ he) ((hT.2.1.2 1 _ rfl).1 (gT σ q).2 (fun j => .long (gL σ q j))) (fun q => by cases q) (by show ¬ (i < 0 ∨ (arrV _ _ _).slots.size ≤ _); rw [arrV_size]; exact ix_in hix) rfl rfl hd fun H1 eH zH oq => ?_
  refine kk.2.2 p l e s m args below meth c H1 _ ls (hT.put h99 zH oq ?_ rfl rfl rfl (fun b hb => ent_sL hb)) hl
  rw [ent_a (t := 1) (by exact hk)]
  show H1[q]? = some (vp_cell _ _)
  rw [eH]
  show some ((vp_cell (wA Γ 1) ((gT σ q).2, acs σ q 1)).setSlot _ _) = some (vp_cell (wA Γ 1) ((gT σ q).2, acs (sL σ q i.toNatClampNeg v) q 1))
  simp only [acs]
  rw [vp_cell_l, vp_cell_l, arrV_store]
  congr 2
  funext j
  by_cases hj : j = i.toNatClampNeg
  · subst hj
    simp [updV, gL, sL, up2]
  · simp [updV, gL, sL, up2, hj]
theorem r_waB {x : Option Nat} {i : Int32} {v : Bool} {ρ : Type} {F : Mem → Option ρ} {z : ρ} (hf : (waB σ 3 x i v).bind F = some z) (hd : decode M.2.1 pc = .ok (.bastore, 1)) (kk : ∀ σ', waB σ 3 x i v = some σ' → F σ' = some z → V Γ M σ0 r σ' (pc + 1) L st) : V Γ M σ0 r σ pc L (.int (b2i v) :: .int i :: va_rf x :: st) := by
  refine obd hf fun q hx hq hg => ?_
  subst hx
  have kk := kk (sB σ q i.toNatClampNeg v) (by simp [waB, hq]) hg
  obtain ⟨hk, hix⟩ := ixb_iff.mp hq
  refine ⟨kk.1, kk.2.1, fun p l e s m args below meth c H locs ls hT hl => ?_⟩
  have h99 : (gT σ q).1 ≠ 99 := by rw [hk]; omega
  have he := (hT.at h99).1
  rw [ent_a hk] at he
  refine W.zast hT.1.1 hT.1.2.1 (hT.2.2.2.2.1 _ _ he) ((hT.2.1.2 3 _ rfl).1 (gT σ q).2 (fun j => .int (b2i (gB σ q j)))) (fun q => by cases q) (by show ¬ (i < 0 ∨ (arrV _ _ _).slots.size ≤ _); rw [arrV_size]; exact ix_in hix) rfl rfl hd fun H1 eH zH oq => ?_
  refine kk.2.2 p l e s m args below meth c H1 _ ls (hT.put h99 zH oq ?_ rfl rfl rfl (fun b hb => ent_sB hb)) hl
  rw [ent_a (t := 3) (by exact hk)]
  show H1[q]? = some (vp_cell _ _)
  rw [eH]
  show some ((vp_cell (wA Γ 3) ((gT σ q).2, acs σ q 3)).setSlot _ _) = some (vp_cell (wA Γ 3) ((gT σ q).2, acs (sB σ q i.toNatClampNeg v) q 3))
  simp only [acs]
  rw [vp_cell_i, vp_cell_i, arrV_store]
  congr 2
  funext j
  by_cases hj : j = i.toNatClampNeg
  · subst hj
    simp [updV, gB, sB, up2]
    exact (fit_b (ty := .boolean) rfl v).1
  · simp [updV, gB, sB, up2, hj]
theorem r_waR {t ci : Nat} {x : Option Nat} {i : Int32} {v : Option Nat} {ρ : Type} {F : Mem → Option ρ} {z : ρ} (hf : (waR σ t ci x i v).bind F = some z) (hd : decode M.2.1 pc = .ok (.aastore, 1)) (h4 : 4 ≤ t) (h8 : t < 8) (hci : ci < 13) (hC : arT t = .object (cnN ci)) (kk : ∀ σ', waR σ t ci x i v = some σ' → F σ' = some z → V Γ M σ0 r σ' (pc + 1) L st) : V Γ M σ0 r σ pc L (va_rf v :: .int i :: va_rf x :: st) := by
  refine obd hf fun q hx hq hg => ?_
  subst hx
  have kk := kk (sR σ q i.toNatClampNeg v) (by rw [Bool.and_eq_true] at hq; simp [waR, hq]) hg
  rw [Bool.and_eq_true] at hq
  obtain ⟨hq, hv⟩ := hq
  obtain ⟨hk, hix⟩ := ixb_iff.mp hq
  refine ⟨kk.1, kk.2.1, fun p l e s m args below meth c H locs ls hT hl => ?_⟩
  have h99 : (gT σ q).1 ≠ 99 := by rw [hk]; omega
  have he := (hT.at h99).1
  rw [ent_a hk] at he
  have ha : ∀ τ : Mem, acs τ q t = .inr (.inr (.inr (.inr (gR τ q)))) := fun τ => by
    match t, h4 with
    | n + 4, _ => rfl
  rw [ha] at he
  have ht := tys_get (wA Γ) t h8
  rw [hC] at ht
  have fin : ∀ (H1 : Heap) (w : Value), w = va_rf v → H1[q]? = some ((arrV (wA Γ t) (gT σ q).2 (fun j => va_rf (gR σ q j))).setSlot i.toNatClampNeg w) → H1[q]? = some (vp_cell (wA Γ t) ((gT σ q).2, .inr (.inr (.inr (.inr (gR (sR σ q i.toNatClampNeg v) q)))))) := by
    intro H1 w hw e
    rw [e, vp_cell_q, arrV_store]
    congr 2
    funext j
    by_cases hj : j = i.toNatClampNeg
    · subst hj
      simp [updV, gR, sR, up2, hw]
    · simp [updV, gR, sR, up2, hj]
  have nxt : ∀ H1 : Heap, H1[q]? = some ((arrV (wA Γ t) (gT σ q).2 (fun j => va_rf (gR σ q j))).setSlot i.toNatClampNeg (va_rf v)) → H1.size = H.size → (∀ b, b ≠ q → H1[b]? = H[b]?) → W p l e (rmOf M σ0 r.2) s m args below meth c H1 (locs ++ [⟨q, i.toNatClampNeg⟩]) (gN σ - gN σ0) (gU σ - gU σ0) (r.1 below args s) (F0 m (pc + 1) ls st) := by
    intro H1 eH zH oq
    refine kk.2.2 p l e s m args below meth c H1 _ ls (hT.put h99 zH oq ?_ rfl rfl rfl (fun b hb => ent_sR hb)) hl
    rw [ent_a (t := t) (by exact hk), ha]
    exact fin H1 _ rfl eH
  cases v with
  | none =>
    exact va_WaastN (C := cnN ci) hT.1.1 hT.1.2.1 (hT.2.2.2.2.1 _ _ he) ((hT.2.1.2 t _ ht).1 (gT σ q).2 (fun j => va_rf (gR σ q j))) (fun h => by cases h) (by show ¬ (i < 0 ∨ (arrV _ _ _).slots.size ≤ _); rw [arrV_size]; exact ix_in hix) rfl rfl hd fun H1 eH zH oq => nxt H1 eH zH oq
  | some b =>
    have hb : (gT σ b).1 = ci := by simpa [okR] using hv
    have hwb := (hT.at (x := b) (by rw [hb]; omega)).1
    rw [ent_o hb (by omega)] at hwb
    have hc := vw_get ci hci
    have hin := ix_in hix
    have hlt : i.toNatClampNeg < (gT σ q).2 := Nat.not_le.mp fun y => hin (Or.inr y)
    have h0 : ¬ i < 0 := fun y => hin (Or.inl y)
    obtain ⟨r', hr', cellV, g1, g2, g3, -⟩ := hT.2.2.2.2.1 _ _ hwb
    have hcls := (hT.2.1.1 ci _ hc).2
    obtain ⟨kA, comp, k1, k2, k3, -⟩ := (hT.2.1.2 t _ ht).2
    have hcomp : comp = (wD Γ).1 ci := Option.some.inj (k3.symm.trans hcls.1)
    subst hcomp
    obtain ⟨kC, hkC, -⟩ := hcls.2
    exact W.aast hT.1.1 hT.1.2.1 (hT.2.2.2.2.1 _ _ he) (fun q h => by cases h) (fun h => by cases h) k1 k2 rfl hkC ⟨h0, by show _ < (arrV _ _ _).slots.size; rw [arrV_size]; exact hlt⟩ g1 (fun q h => by rw [g3] at h; cases h) (by rw [g2]; exact hkC) (by rw [g2]; exact va_assign hcls) rfl rfl hd fun H1 eH zH oq => nxt H1 eH zH oq
theorem r_alen {t : Nat} {x : Option Nat} {ρ : Type} {F : Int32 → Option ρ} {z : ρ} (hf : (alen σ t x).bind F = some z) (hd : decode M.2.1 pc = .ok (.arraylength, 1)) (h8 : t < 8) (kk : ∀ v, alen σ t x = some v → F v = some z → V Γ M σ0 r σ (pc + 1) L (.int v :: st)) : V Γ M σ0 r σ pc L (va_rf x :: st) := by
  refine obd hf fun q hx hq hg => ?_
  subst hx
  have kk := kk (Int32.ofNat (gT σ q).2) (by simp [alen, hq]) hg
  refine ⟨kk.1, kk.2.1, fun p l e s m args below meth c H locs ls hT hl => ?_⟩
  have he := (hT.at (x := q) (by rw [hq]; omega)).1
  rw [ent_a hq] at he
  exact va_alen hT.1.1 hT.1.2.1 hT.2.1 hT.2.2.2.2.1 _ t he (tys_get _ t h8) rfl hd (kk.2.2 p l e s m args below meth c H locs ls hT hl)
theorem r_new {ci index : Nat} (hd : decode M.2.1 pc = .ok (.new index, 3)) (hci : ci < 13) (hl : Cond.classLink M.1 index (cnN ci) ∈ GW) (hi : Cond.instantiable (cnN ci) (fN ci) ∈ GW) (hn : Cond.initialized (cnN ci) ∈ GW) (kk : V Γ M σ0 r (nwO σ ci) (pc + 3) L (va_rf (some (gN σ)) :: st)) : V Γ M σ0 r σ pc L st := by
  have k1 : gN σ + 1 ≤ gN r.2 := kk.1
  have k2 : gU σ + fN ci ≤ gU r.2 := kk.2.1
  refine ⟨by omega, by omega, fun p l e s m args below meth c H locs ls hT hlh => ?_⟩
  have z1 := hT.2.2.2.2.2.2.2.1
  have z2 := hT.2.2.2.2.2.2.2.2.1
  have hts := hT.1.2.2.2.2.1
  have hKn := hT.2.1.1 ci _ (vw_get ci hci)
  refine W.newcK hT.1.1 hT.1.2.1 hT.1.2.2.2.1 (hts _ hl) (hts _ hi) (hts _ hn) rfl hd (by show gN σ - gN σ0 + 1 ≤ gN r.2 - gN σ0; omega) (by show gU σ - gU σ0 + fN ci ≤ gU r.2 - gU σ0; omega) hKn.2.1 rfl fun H1 kC hkC e1 z o1 => ?_
  have hsz : H.size = gN σ := hT.2.2.2.2.2.1
  rw [hsz] at e1 z o1
  have hT' : ST Γ M σ0 (nwO σ ci) p s m args meth c H1 locs := by
    refine hT.push z o1 ?_ rfl (Nat.le_add_right _ _) (fun b hb => by simp [nwO, nw, gT, up1, hb]) (fun b hb => ent_nw hb)
    have ht : (gT (nwO σ ci) (gN σ)).1 = ci := by simp [nwO, nw, gT, up1]
    rw [ent_o ht (by omega)]
    refine ⟨_, vw_get ci hci, (u_born (fTy ci) hts (vw_in ci hci) hKn hkC e1 (vw_ty ci hci)).to fun j hj => ?_⟩
    have hg : vp_V (fs (nwO σ ci) (gN σ) ci) j = fv (nwO σ ci) (gN σ) ci j := by simp [vp_V, fs_get hj]
    rw [hg]
    have g1 : gI (nwO σ ci) (gN σ) j = 0 := by simp [nwO, nw, gI, up1]
    have g2 : gL (nwO σ ci) (gN σ) j = 0 := by simp [nwO, nw, gL, up1]
    have g3 : gR (nwO σ ci) (gN σ) j = none := by simp [nwO, nw, gR, up1]
    have g4 : gB (nwO σ ci) (gN σ) j = false := by simp [nwO, nw, gB, up1]
    have hno : fTy ci j ≠ .float ∧ fTy ci j ≠ .double := vw_nf ci hci j hj
    simp only [fv, fk, g1, g2, g3, g4]
    cases hty : fTy ci j <;> first | exact absurd hty hno.1 | exact absurd hty hno.2 | rfl
  have w := kk.2.2 p l e s m args below meth c H1 locs ls hT' hlh
  have c1 : gN (nwO σ ci) - gN σ0 = gN σ - gN σ0 + 1 := by show gN σ + 1 - gN σ0 = _; omega
  have c2 : gU (nwO σ ci) - gU σ0 = gU σ - gU σ0 + fN ci := by show gU σ + fN ci - gU σ0 = _; omega
  rw [c1, c2] at w
  rw [hsz]
  exact w
theorem nwA_le {t : Nat} {n : Int32} {ρ : Type} {F : Mem → Option ρ} {z : ρ} {Z : Prop} (hf : (nwA σ t n).bind F = some z) (k : 0 ≤ n.toInt → n.toInt ≤ 2000000 → nwA σ t n = some (nw σ (100 + t, n.toNatClampNeg) n.toNatClampNeg) → F (nw σ (100 + t, n.toNatClampNeg) n.toNatClampNeg) = some z → Z) : Z := by
  unfold nwA at hf k
  by_cases h : 0 ≤ n.toInt ∧ n.toInt ≤ 2000000
  · rw [if_pos h] at hf k
    exact k h.1 h.2 rfl hf
  · rw [if_neg h] at hf
    cases hf
theorem nn0 {n : Int32} (h : 0 ≤ n.toInt) : ¬ n < 0 := by
  rw [Int32.lt_iff_toInt_lt, Int32.toInt_zero]
  omega
theorem nnN {n : Int32} (h : 0 ≤ n.toInt) (h2 : n.toInt ≤ 2000000) : n.toNatClampNeg ≤ 2000000 := by
  have : (n.toNatClampNeg : Int) = n.toInt := by
    show ((n.toInt.toNat : Nat) : Int) = n.toInt
    omega
  omega
theorem r_newI {n : Int32} {ρ : Type} {F : Mem → Option ρ} {z : ρ} (hf : (nwA σ 0 n).bind F = some z) (hd : decode M.2.1 pc = .ok (.newarray .int, 2)) (hw : Cond.arrayClass .int ∈ GW) (kk : ∀ σ', nwA σ 0 n = some σ' → F σ' = some z → V Γ M σ0 r σ' (pc + 2) L (va_rf (some (gN σ)) :: st)) : V Γ M σ0 r σ pc L (.int n :: st) := by
  refine nwA_le hf fun hn1 hn2 hs hf => ?_
  have kk := kk _ hs hf
  have k1 : gN σ + 1 ≤ gN r.2 := kk.1
  have k2 : gU σ + n.toNatClampNeg ≤ gU r.2 := kk.2.1
  refine ⟨by omega, by omega, fun p l e s m args below meth c H locs ls hT hlh => ?_⟩
  have z1 := hT.2.2.2.2.2.2.2.1
  have z2 := hT.2.2.2.2.2.2.2.2.1
  have hsz : H.size = gN σ := hT.2.2.2.2.2.1
  have hnN := nnN hn1 hn2
  refine va_newaK (atype := .int) hT.1.1 hT.1.2.1 (hT.1.2.2.2.2.1 _ hw) rfl hd rfl (nn0 hn1) rfl (Nat.le_trans (Nat.mul_le_mul hnN (show componentBytes (newarray.typeOf .int) ≤ 8 by decide)) (by decide)) (by show gN σ - gN σ0 + 1 ≤ gN r.2 - gN σ0; omega) (by show gU σ - gU σ0 + n.toNatClampNeg ≤ gU r.2 - gU σ0; omega) hsz fun H1 cA e1 z o1 hAr hNm => ?_
  have hcA : cA = wA Γ 0 := Option.some.inj (hNm.symm.trans (hT.2.1.2 0 _ rfl).2)
  subst hcA
  have hT' : ST Γ M σ0 (nw σ (100 + 0, n.toNatClampNeg) n.toNatClampNeg) p s m args meth c H1 locs := by
    refine hT.push z o1 ?_ rfl (Nat.le_add_right _ _) (fun b hb => by simp [nw, gT, up1, hb]) (fun b hb => ent_nw hb)
    have ht : gT (nw σ (100 + 0, n.toNatClampNeg) n.toNatClampNeg) (gN σ) = (100 + 0, n.toNatClampNeg) := by simp [nw, gT, up1]
    rw [ent_a (t := 0) (by rw [ht]), ht]
    have hac : acs (nw σ (100 + 0, n.toNatClampNeg) n.toNatClampNeg) (gN σ) 0 = .inl (fun _ => 0) := by
      show Sum.inl _ = _
      congr 1
      funext j
      simp [nw, gI, up1, b2i]
    rw [hac]
    show H1[gN σ]? = some (vp_cell _ _)
    rw [e1, vp_cell_i]
    rfl
  have w := kk.2.2 p l e s m args below meth c H1 locs ls hT' hlh
  have c1 : gN (nw σ (100 + 0, n.toNatClampNeg) n.toNatClampNeg) - gN σ0 = gN σ - gN σ0 + 1 := by show gN σ + 1 - gN σ0 = _; omega
  have c2 : gU (nw σ (100 + 0, n.toNatClampNeg) n.toNatClampNeg) - gU σ0 = gU σ - gU σ0 + n.toNatClampNeg := by show gU σ + n.toNatClampNeg - gU σ0 = _; omega
  rw [c1, c2] at w
  exact w
theorem r_newL {n : Int32} {ρ : Type} {F : Mem → Option ρ} {z : ρ} (hf : (nwA σ 1 n).bind F = some z) (hd : decode M.2.1 pc = .ok (.newarray .long, 2)) (hw : Cond.arrayClass .long ∈ GW) (kk : ∀ σ', nwA σ 1 n = some σ' → F σ' = some z → V Γ M σ0 r σ' (pc + 2) L (va_rf (some (gN σ)) :: st)) : V Γ M σ0 r σ pc L (.int n :: st) := by
  refine nwA_le hf fun hn1 hn2 hs hf => ?_
  have kk := kk _ hs hf
  have k1 : gN σ + 1 ≤ gN r.2 := kk.1
  have k2 : gU σ + n.toNatClampNeg ≤ gU r.2 := kk.2.1
  refine ⟨by omega, by omega, fun p l e s m args below meth c H locs ls hT hlh => ?_⟩
  have z1 := hT.2.2.2.2.2.2.2.1
  have z2 := hT.2.2.2.2.2.2.2.2.1
  have hsz : H.size = gN σ := hT.2.2.2.2.2.1
  have hnN := nnN hn1 hn2
  refine va_newaK (atype := .long) hT.1.1 hT.1.2.1 (hT.1.2.2.2.2.1 _ hw) rfl hd rfl (nn0 hn1) rfl (Nat.le_trans (Nat.mul_le_mul hnN (show componentBytes (newarray.typeOf .long) ≤ 8 by decide)) (by decide)) (by show gN σ - gN σ0 + 1 ≤ gN r.2 - gN σ0; omega) (by show gU σ - gU σ0 + n.toNatClampNeg ≤ gU r.2 - gU σ0; omega) hsz fun H1 cA e1 z o1 hAr hNm => ?_
  have hcA : cA = wA Γ 1 := Option.some.inj (hNm.symm.trans (hT.2.1.2 1 _ rfl).2)
  subst hcA
  have hT' : ST Γ M σ0 (nw σ (100 + 1, n.toNatClampNeg) n.toNatClampNeg) p s m args meth c H1 locs := by
    refine hT.push z o1 ?_ rfl (Nat.le_add_right _ _) (fun b hb => by simp [nw, gT, up1, hb]) (fun b hb => ent_nw hb)
    have ht : gT (nw σ (100 + 1, n.toNatClampNeg) n.toNatClampNeg) (gN σ) = (100 + 1, n.toNatClampNeg) := by simp [nw, gT, up1]
    rw [ent_a (t := 1) (by rw [ht]), ht]
    have hac : acs (nw σ (100 + 1, n.toNatClampNeg) n.toNatClampNeg) (gN σ) 1 = .inr (.inl (fun _ => 0)) := by
      show Sum.inr (Sum.inl _) = _
      congr 1
      congr 1
      funext j
      simp [nw, gL, up1, b2i]
    rw [hac]
    show H1[gN σ]? = some (vp_cell _ _)
    rw [e1, vp_cell_l]
    rfl
  have w := kk.2.2 p l e s m args below meth c H1 locs ls hT' hlh
  have c1 : gN (nw σ (100 + 1, n.toNatClampNeg) n.toNatClampNeg) - gN σ0 = gN σ - gN σ0 + 1 := by show gN σ + 1 - gN σ0 = _; omega
  have c2 : gU (nw σ (100 + 1, n.toNatClampNeg) n.toNatClampNeg) - gU σ0 = gU σ - gU σ0 + n.toNatClampNeg := by show gU σ + n.toNatClampNeg - gU σ0 = _; omega
  rw [c1, c2] at w
  exact w
theorem r_newY {n : Int32} {ρ : Type} {F : Mem → Option ρ} {z : ρ} (hf : (nwA σ 2 n).bind F = some z) (hd : decode M.2.1 pc = .ok (.newarray .byte, 2)) (hw : Cond.arrayClass .byte ∈ GW) (kk : ∀ σ', nwA σ 2 n = some σ' → F σ' = some z → V Γ M σ0 r σ' (pc + 2) L (va_rf (some (gN σ)) :: st)) : V Γ M σ0 r σ pc L (.int n :: st) := by
  refine nwA_le hf fun hn1 hn2 hs hf => ?_
  have kk := kk _ hs hf
  have k1 : gN σ + 1 ≤ gN r.2 := kk.1
  have k2 : gU σ + n.toNatClampNeg ≤ gU r.2 := kk.2.1
  refine ⟨by omega, by omega, fun p l e s m args below meth c H locs ls hT hlh => ?_⟩
  have z1 := hT.2.2.2.2.2.2.2.1
  have z2 := hT.2.2.2.2.2.2.2.2.1
  have hsz : H.size = gN σ := hT.2.2.2.2.2.1
  have hnN := nnN hn1 hn2
  refine va_newaK (atype := .byte) hT.1.1 hT.1.2.1 (hT.1.2.2.2.2.1 _ hw) rfl hd rfl (nn0 hn1) rfl (Nat.le_trans (Nat.mul_le_mul hnN (show componentBytes (newarray.typeOf .byte) ≤ 8 by decide)) (by decide)) (by show gN σ - gN σ0 + 1 ≤ gN r.2 - gN σ0; omega) (by show gU σ - gU σ0 + n.toNatClampNeg ≤ gU r.2 - gU σ0; omega) hsz fun H1 cA e1 z o1 hAr hNm => ?_
  have hcA : cA = wA Γ 2 := Option.some.inj (hNm.symm.trans (hT.2.1.2 2 _ rfl).2)
  subst hcA
  have hT' : ST Γ M σ0 (nw σ (100 + 2, n.toNatClampNeg) n.toNatClampNeg) p s m args meth c H1 locs := by
    refine hT.push z o1 ?_ rfl (Nat.le_add_right _ _) (fun b hb => by simp [nw, gT, up1, hb]) (fun b hb => ent_nw hb)
    have ht : gT (nw σ (100 + 2, n.toNatClampNeg) n.toNatClampNeg) (gN σ) = (100 + 2, n.toNatClampNeg) := by simp [nw, gT, up1]
    rw [ent_a (t := 2) (by rw [ht]), ht]
    have hac : acs (nw σ (100 + 2, n.toNatClampNeg) n.toNatClampNeg) (gN σ) 2 = .inl (fun _ => 0) := by
      show Sum.inl _ = _
      congr 1
      funext j
      simp [nw, gI, up1, b2i]
    rw [hac]
    show H1[gN σ]? = some (vp_cell _ _)
    rw [e1, vp_cell_i]
    rfl
  have w := kk.2.2 p l e s m args below meth c H1 locs ls hT' hlh
  have c1 : gN (nw σ (100 + 2, n.toNatClampNeg) n.toNatClampNeg) - gN σ0 = gN σ - gN σ0 + 1 := by show gN σ + 1 - gN σ0 = _; omega
  have c2 : gU (nw σ (100 + 2, n.toNatClampNeg) n.toNatClampNeg) - gU σ0 = gU σ - gU σ0 + n.toNatClampNeg := by show gU σ + n.toNatClampNeg - gU σ0 = _; omega
  rw [c1, c2] at w
  exact w
theorem r_newB {n : Int32} {ρ : Type} {F : Mem → Option ρ} {z : ρ} (hf : (nwA σ 3 n).bind F = some z) (hd : decode M.2.1 pc = .ok (.newarray .boolean, 2)) (hw : Cond.arrayClass .boolean ∈ GW) (kk : ∀ σ', nwA σ 3 n = some σ' → F σ' = some z → V Γ M σ0 r σ' (pc + 2) L (va_rf (some (gN σ)) :: st)) : V Γ M σ0 r σ pc L (.int n :: st) := by
  refine nwA_le hf fun hn1 hn2 hs hf => ?_
  have kk := kk _ hs hf
  have k1 : gN σ + 1 ≤ gN r.2 := kk.1
  have k2 : gU σ + n.toNatClampNeg ≤ gU r.2 := kk.2.1
  refine ⟨by omega, by omega, fun p l e s m args below meth c H locs ls hT hlh => ?_⟩
  have z1 := hT.2.2.2.2.2.2.2.1
  have z2 := hT.2.2.2.2.2.2.2.2.1
  have hsz : H.size = gN σ := hT.2.2.2.2.2.1
  have hnN := nnN hn1 hn2
  refine va_newaK (atype := .boolean) hT.1.1 hT.1.2.1 (hT.1.2.2.2.2.1 _ hw) rfl hd rfl (nn0 hn1) rfl (Nat.le_trans (Nat.mul_le_mul hnN (show componentBytes (newarray.typeOf .boolean) ≤ 8 by decide)) (by decide)) (by show gN σ - gN σ0 + 1 ≤ gN r.2 - gN σ0; omega) (by show gU σ - gU σ0 + n.toNatClampNeg ≤ gU r.2 - gU σ0; omega) hsz fun H1 cA e1 z o1 hAr hNm => ?_
  have hcA : cA = wA Γ 3 := Option.some.inj (hNm.symm.trans (hT.2.1.2 3 _ rfl).2)
  subst hcA
  have hT' : ST Γ M σ0 (nw σ (100 + 3, n.toNatClampNeg) n.toNatClampNeg) p s m args meth c H1 locs := by
    refine hT.push z o1 ?_ rfl (Nat.le_add_right _ _) (fun b hb => by simp [nw, gT, up1, hb]) (fun b hb => ent_nw hb)
    have ht : gT (nw σ (100 + 3, n.toNatClampNeg) n.toNatClampNeg) (gN σ) = (100 + 3, n.toNatClampNeg) := by simp [nw, gT, up1]
    rw [ent_a (t := 3) (by rw [ht]), ht]
    have hac : acs (nw σ (100 + 3, n.toNatClampNeg) n.toNatClampNeg) (gN σ) 3 = .inl (fun _ => 0) := by
      show Sum.inl _ = _
      congr 1
      funext j
      simp [nw, gB, up1, b2i]
    rw [hac]
    show H1[gN σ]? = some (vp_cell _ _)
    rw [e1, vp_cell_i]
    rfl
  have w := kk.2.2 p l e s m args below meth c H1 locs ls hT' hlh
  have c1 : gN (nw σ (100 + 3, n.toNatClampNeg) n.toNatClampNeg) - gN σ0 = gN σ - gN σ0 + 1 := by show gN σ + 1 - gN σ0 = _; omega
  have c2 : gU (nw σ (100 + 3, n.toNatClampNeg) n.toNatClampNeg) - gU σ0 = gU σ - gU σ0 + n.toNatClampNeg := by show gU σ + n.toNatClampNeg - gU σ0 = _; omega
  rw [c1, c2] at w
  exact w
theorem r_newR {t index : Nat} {C : String} {n : Int32} {ρ : Type} {F : Mem → Option ρ} {z : ρ} (hf : (nwA σ t n).bind F = some z) (hd : decode M.2.1 pc = .ok (.anewarray index, 3)) (h4 : 4 ≤ t) (h8 : t < 8) (hC : arT t = .object C) (hcl : Cond.classLink M.1 index C ∈ GW) (kk : ∀ σ', nwA σ t n = some σ' → F σ' = some z → V Γ M σ0 r σ' (pc + 3) L (va_rf (some (gN σ)) :: st)) : V Γ M σ0 r σ pc L (.int n :: st) := by
  refine nwA_le hf fun hn1 hn2 hs hf => ?_
  have kk := kk _ hs hf
  have k1 : gN σ + 1 ≤ gN r.2 := kk.1
  have k2 : gU σ + n.toNatClampNeg ≤ gU r.2 := kk.2.1
  refine ⟨by omega, by omega, fun p l e s m args below meth c H locs ls hT hlh => ?_⟩
  have z1 := hT.2.2.2.2.2.2.2.1
  have z2 := hT.2.2.2.2.2.2.2.2.1
  have hsz : H.size = gN σ := hT.2.2.2.2.2.1
  have hnN := nnN hn1 hn2
  refine W.anew hT.1.1 hT.1.2.1 hT.1.2.2.2.1 (hT.1.2.2.2.2.1 _ hcl) (va_AO.use (hT.1.2.2.2.2.2.2.2.2.2.2 t h4 h8 C hC)) rfl hd rfl (nn0 hn1) (Nat.le_trans (Nat.mul_le_mul_right 4 hnN) (by decide)) (by show gN σ - gN σ0 + 1 ≤ gN r.2 - gN σ0; omega) (by show gU σ - gU σ0 + n.toNatClampNeg ≤ gU r.2 - gU σ0; omega) fun cA kA comp f1 f2 f3 f4 => ?_
  have ht0 := tys_get (wA Γ) t h8
  rw [hC] at ht0
  obtain ⟨kA', comp', g1, g2, g3, g4⟩ := (hT.2.1.2 t _ ht0).2
  have hcA : cA = wA Γ t := Option.some.inj (f1.symm.trans g4)
  subst hcA
  generalize hH1 : H.push ({ cls := wA Γ t, slots := Array.replicate n.toNatClampNeg .null, vm := .none } : Cell) = H1
  have hz : H1.size = gN σ + 1 := by rw [← hH1, Array.size_push, hsz]
  have e1 : H1[gN σ]? = some (arrV (wA Γ t) n.toNatClampNeg (fun _ => .null)) := by rw [← hH1, ← hsz, Array.getElem?_push_size, ← arrV_new]
  have o1 : ∀ q : Nat, q < gN σ → H1[q]? = H[q]? := fun q hq => by rw [← hH1, Array.getElem?_push, if_neg (by omega)]
  have ha : ∀ (τ : Mem) (q : Nat), acs τ q t = .inr (.inr (.inr (.inr (gR τ q)))) := fun τ q => by
    match t, h4 with
    | n + 4, _ => rfl
  have hT' : ST Γ M σ0 (nw σ (100 + t, n.toNatClampNeg) n.toNatClampNeg) p s m args meth c H1 locs := by
    refine hT.push hz o1 ?_ rfl (Nat.le_add_right _ _) (fun b hb => by simp [nw, gT, up1, hb]) (fun b hb => ent_nw hb)
    have ht : gT (nw σ (100 + t, n.toNatClampNeg) n.toNatClampNeg) (gN σ) = (100 + t, n.toNatClampNeg) := by simp [nw, gT, up1]
    rw [ent_a (t := t) (by rw [ht]), ht, ha]
    show H1[gN σ]? = some (vp_cell _ _)
    rw [e1, vp_cell_q]
    congr 2
    funext j
    simp [nw, gR, up1, va_rf]
  have w := kk.2.2 p l e s m args below meth c H1 locs ls hT' hlh
  have c1 : gN (nw σ (100 + t, n.toNatClampNeg) n.toNatClampNeg) - gN σ0 = gN σ - gN σ0 + 1 := by show gN σ + 1 - gN σ0 = _; omega
  have c2 : gU (nw σ (100 + t, n.toNatClampNeg) n.toNatClampNeg) - gU σ0 = gU σ - gU σ0 + n.toNatClampNeg := by show gU σ + n.toNatClampNeg - gU σ0 = _; omega
  rw [c1, c2] at w
  rw [hsz]
  exact w
theorem r_chk {ci : Nat} {x : Option Nat} {ρ : Type} {F : Nat → Option ρ} {z : ρ} {P : Prop} (hf : (chk σ ci x).bind F = some z) (kk : ∀ q, x = some q → (gT σ q).1 = ci → F q = some z → P) : P :=
  obd (P := fun a => (gT σ a).1 = ci) (g := fun a => a) hf fun q h1 h2 h3 => kk q h1 h2 h3
end RM
