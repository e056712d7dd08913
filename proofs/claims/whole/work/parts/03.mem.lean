/-! THE MEMORY of the claim's own cells, as maps; lists of it as the kit's worlds -/
/-- tags (kind, length), ints, longs, references, truths, next address, slots used -/
abbrev Mem : Type := (Nat → Nat × Nat) × (Nat → Nat → Int32) × (Nat → Nat → Int64) × (Nat → Nat → Option Nat) × (Nat → Nat → Bool) × Nat × Nat
def gT (σ : Mem) (a : Nat) : Nat × Nat := σ.1 a
def gI (σ : Mem) (a k : Nat) : Int32 := σ.2.1 a k
def gL (σ : Mem) (a k : Nat) : Int64 := σ.2.2.1 a k
def gR (σ : Mem) (a k : Nat) : Option Nat := σ.2.2.2.1 a k
def gB (σ : Mem) (a k : Nat) : Bool := σ.2.2.2.2.1 a k
def gN (σ : Mem) : Nat := σ.2.2.2.2.2.1
def gU (σ : Mem) : Nat := σ.2.2.2.2.2.2
def up2 {α : Type} (f : Nat → Nat → α) (a k : Nat) (v : α) : Nat → Nat → α := fun b j => if b = a ∧ j = k then v else f b j
def up1 {α : Type} (f : Nat → α) (a : Nat) (v : α) : Nat → α := fun b => if b = a then v else f b
def sI (σ : Mem) (a k : Nat) (v : Int32) : Mem := (σ.1, up2 σ.2.1 a k v, σ.2.2)
def sL (σ : Mem) (a k : Nat) (v : Int64) : Mem := (σ.1, σ.2.1, up2 σ.2.2.1 a k v, σ.2.2.2)
def sR (σ : Mem) (a k : Nat) (v : Option Nat) : Mem := (σ.1, σ.2.1, σ.2.2.1, up2 σ.2.2.2.1 a k v, σ.2.2.2.2)
def sB (σ : Mem) (a k : Nat) (v : Bool) : Mem := (σ.1, σ.2.1, σ.2.2.1, σ.2.2.2.1, up2 σ.2.2.2.2.1 a k v, σ.2.2.2.2.2)
/-- a new cell, its slots as those of src (none: as they are made) -/
def nw (σ : Mem) (t : Nat × Nat) (w : Nat) : Mem := (up1 σ.1 (gN σ) t, up1 σ.2.1 (gN σ) (fun _ => 0), up1 σ.2.2.1 (gN σ) (fun _ => 0), up1 σ.2.2.2.1 (gN σ) (fun _ => none), up1 σ.2.2.2.2.1 (gN σ) (fun _ => false), gN σ + 1, gU σ + w)
def nwC (σ : Mem) (a : Nat) : Mem := (up1 σ.1 (gN σ) (gT σ a), up1 σ.2.1 (gN σ) (gI σ a), up1 σ.2.2.1 (gN σ) (gL σ a), up1 σ.2.2.2.1 (gN σ) (gR σ a), up1 σ.2.2.2.2.1 (gN σ) (gB σ a), gN σ + 1, gU σ + (gT σ a).2)
def b2i (b : Bool) : Int32 := if b then 1 else 0
/-- the array types: kinds 100 .. -/
def arT : Nat → FieldType := fun k => match k with
  | 0 => .int
  | 1 => .long
  | 2 => .byte
  | 3 => .boolean
  | 4 => .object "SearchEngine$Document"
  | 5 => .object "SearchEngine$Segment"
  | 6 => .object "SearchEngine$View"
  | _ => .object "SearchEngine$Part"
def arTys (aC : Nat → ClassId) : List (ClassId × FieldType) := [(aC 0, .int), (aC 1, .long), (aC 2, .byte), (aC 3, .boolean), (aC 4, .object "SearchEngine$Document"), (aC 5, .object "SearchEngine$Segment"), (aC 6, .object "SearchEngine$View"), (aC 7, .object "SearchEngine$Part")]
/-- the fields' types and number, by class -/
def fTy (ci : Nat) : Nat → FieldType := match ci with
  | 0 => tyX0
  | 1 => tyX1
  | 2 => tyX2
  | 3 => tyX3
  | 4 => tyX4
  | 5 => tyX5
  | 6 => tyX6
  | 7 => tyX7
  | 8 => tyX8
  | 9 => tyX9
  | 10 => tyX10
  | 11 => tyX11
  | _ => tyX12
def fN (ci : Nat) : Nat := match ci with
  | 0 => 5
  | 1 => 7
  | 2 => 8
  | 3 => 7
  | 4 => 15
  | 5 => 2
  | 6 => 4
  | 7 => 3
  | 8 => 4
  | 9 => 7
  | 10 => 2
  | 11 => 15
  | _ => 71
/-- 0 int, 1 long, 2 reference, 3 truth -/
def fkT : FieldType → Nat
  | .long => 1
  | .boolean => 3
  | .object _ => 2
  | .array _ => 2
  | _ => 0
def fk (ci k : Nat) : Nat := fkT (fTy ci k)
def fv (σ : Mem) (a ci k : Nat) : Value := match fk ci k with
  | 0 => .int (gI σ a k)
  | 1 => .long (gL σ a k)
  | 2 => va_rf (gR σ a k)
  | _ => .int (b2i (gB σ a k))
def fs (σ : Mem) (a ci : Nat) : List Value := (List.range (fN ci)).map (fv σ a ci)
def acs (σ : Mem) (a t : Nat) : (Nat → Int32) ⊕ (Nat → Int64) ⊕ (Nat → UInt32) ⊕ (Nat → UInt64) ⊕ (Nat → Option Nat) := match t with
  | 0 => .inl (gI σ a)
  | 1 => .inr (.inl (gL σ a))
  | 2 => .inl (gI σ a)
  | 3 => .inl (fun j => b2i (gB σ a j))
  | _ => .inr (.inr (.inr (.inr (gR σ a))))
def ent (aC : Nat → ClassId) (σ : Mem) (a : Nat) : va_E := if (gT σ a).1 < 100 then .inr ((gT σ a).1, fs σ a (gT σ a).1) else .inl (aC ((gT σ a).1 - 100), (gT σ a).2, acs σ a ((gT σ a).1 - 100))
def wl (aC : Nat → ClassId) (lo : Nat) (σ : Mem) : va_W := (List.range (gN σ - lo)).map fun i => (lo + i, ent aC σ (lo + i))
theorem wl_get {aC : Nat → ClassId} {lo : Nat} {σ : Mem} {a : Nat} (h : lo ≤ a) (h2 : a < gN σ) : (wl aC lo σ)[a - lo]? = some (a, ent aC σ a) := by
  unfold wl
  rw [List.getElem?_map, List.getElem?_range (by omega)]
  simp [Nat.add_sub_cancel' h]
theorem wl_len (aC : Nat → ClassId) (lo : Nat) (σ : Mem) : (wl aC lo σ).length = gN σ - lo := by simp [wl]
theorem wl_at {aC : Nat → ClassId} {lo : Nat} {σ : Mem} {k : Nat} {q : Nat × va_E} (h : (wl aC lo σ)[k]? = some q) : k < gN σ - lo ∧ q = (lo + k, ent aC σ (lo + k)) := by
  have hl : k < gN σ - lo := by rw [← wl_len aC lo σ]; exact (List.getElem?_eq_some_iff.mp h).1
  refine ⟨hl, ?_⟩
  unfold wl at h
  rw [List.getElem?_map, List.getElem?_range hl] at h
  exact (Option.some.inj h).symm
theorem wl_D (aC : Nat → ClassId) (lo : Nat) (σ : Mem) : va_D (fun q => lo ≤ q) (wl aC lo σ) := by
  refine ⟨fun i j p q hi hj h => ?_, fun k q h => ?_⟩
  · obtain ⟨-, rfl⟩ := wl_at hi
    obtain ⟨-, rfl⟩ := wl_at hj
    have h : lo + i = lo + j := h
    omega
  · obtain ⟨-, rfl⟩ := wl_at h
    exact Nat.le_add_right _ _
theorem wl_set {aC : Nat → ClassId} {lo : Nat} {σ σ' : Mem} {a : Nat} {e : va_E} (h : lo ≤ a) (h2 : a < gN σ) (hn : gN σ' = gN σ) (he : ent aC σ' a = e) (ho : ∀ b, b ≠ a → ent aC σ' b = ent aC σ b) : (wl aC lo σ).set (a - lo) (a, e) = wl aC lo σ' := by
  apply List.ext_getElem?
  intro i
  by_cases hi : i < gN σ - lo
  · by_cases hia : i = a - lo
    · subst hia
      rw [List.getElem?_set_self (by rw [wl_len]; exact hi), wl_get h (by rw [hn]; exact h2), he]
    · have h3 : (wl aC lo σ)[lo + i - lo]? = _ := wl_get (aC := aC) (lo := lo) (σ := σ) (a := lo + i) (by omega) (by omega)
      have h4 : (wl aC lo σ')[lo + i - lo]? = _ := wl_get (aC := aC) (lo := lo) (σ := σ') (a := lo + i) (by omega) (by omega)
      rw [Nat.add_sub_cancel_left] at h3 h4
      rw [List.getElem?_set_ne (Ne.symm hia), h3, h4, ho _ (by omega)]
  · rw [List.getElem?_eq_none (by rw [List.length_set, wl_len]; omega), List.getElem?_eq_none (by rw [wl_len]; omega)]
theorem wl_push {aC : Nat → ClassId} {lo : Nat} {σ σ' : Mem} {e : va_E} (h : lo ≤ gN σ) (hn : gN σ' = gN σ + 1) (he : ent aC σ' (gN σ) = e) (ho : ∀ b, b < gN σ → ent aC σ' b = ent aC σ b) : wl aC lo σ ++ [(gN σ, e)] = wl aC lo σ' := by
  apply List.ext_getElem?
  intro i
  by_cases hi : i < gN σ - lo
  · have h3 : (wl aC lo σ)[lo + i - lo]? = _ := wl_get (aC := aC) (lo := lo) (σ := σ) (a := lo + i) (by omega) (by omega)
    have h4 : (wl aC lo σ')[lo + i - lo]? = _ := wl_get (aC := aC) (lo := lo) (σ := σ') (a := lo + i) (by omega) (by omega)
    rw [Nat.add_sub_cancel_left] at h3 h4
    rw [List.getElem?_append_left (by rw [wl_len]; exact hi), h3, h4, ho _ (by omega)]
  · rw [List.getElem?_append_right (by rw [wl_len]; omega), wl_len]
    by_cases hi2 : i = gN σ - lo
    · subst hi2
      have h4 : (wl aC lo σ')[gN σ - lo]? = _ := wl_get (aC := aC) (lo := lo) (σ := σ') (a := gN σ) h (by omega)
      rw [h4, he, Nat.sub_self]
      rfl
    · rw [List.getElem?_eq_none (by simp; omega), List.getElem?_eq_none (by rw [wl_len]; omega)]
/-! how the maps answer -/
theorem up2_s {α : Type} (f : Nat → Nat → α) (a k : Nat) (v : α) : up2 f a k v a k = v := by simp [up2]
theorem up2_a {α : Type} (f : Nat → Nat → α) (a k : Nat) (v : α) {b j : Nat} (h : b ≠ a) : up2 f a k v b j = f b j := by simp [up2, h]
theorem up2_k {α : Type} (f : Nat → Nat → α) (a k : Nat) (v : α) {b j : Nat} (h : j ≠ k) : up2 f a k v b j = f b j := by simp [up2, h]
theorem fs_get {σ : Mem} {a ci k : Nat} (h : k < fN ci) : (fs σ a ci)[k]? = some (fv σ a ci k) := by
  unfold fs
  rw [List.getElem?_map, List.getElem?_range h]
  rfl
theorem fs_len (σ : Mem) (a ci : Nat) : (fs σ a ci).length = fN ci := by simp [fs]
theorem fs_set {σ σ' : Mem} {a ci k : Nat} {v : Value} (h : k < fN ci) (hv : fv σ' a ci k = v) (ho : ∀ j, j ≠ k → fv σ' a ci j = fv σ a ci j) : (fs σ a ci).set k v = fs σ' a ci := by
  apply List.ext_getElem?
  intro i
  by_cases hi : i < fN ci
  · by_cases hik : i = k
    · subst hik
      rw [List.getElem?_set_self (by rw [fs_len]; exact hi), fs_get hi, hv]
    · rw [List.getElem?_set_ne (Ne.symm hik), fs_get hi, fs_get hi, ho _ hik]
  · rw [List.getElem?_eq_none (by rw [List.length_set, fs_len]; omega), List.getElem?_eq_none (by rw [fs_len]; omega)]
theorem ent_o {aC : Nat → ClassId} {σ : Mem} {a ci : Nat} (h : (gT σ a).1 = ci) (hc : ci < 100) : ent aC σ a = .inr (ci, fs σ a ci) := by
  subst h
  simp [ent, hc]
theorem ent_a {aC : Nat → ClassId} {σ : Mem} {a t : Nat} (h : (gT σ a).1 = 100 + t) : ent aC σ a = .inl (aC t, (gT σ a).2, acs σ a t) := by
  simp [ent, h]
/-- an entry speaks of its own row of each map -/
theorem ent_row {aC : Nat → ClassId} {σ σ' : Mem} {b : Nat} (h1 : gT σ' b = gT σ b) (h2 : gI σ' b = gI σ b) (h3 : gL σ' b = gL σ b) (h4 : gR σ' b = gR σ b) (h5 : gB σ' b = gB σ b) : ent aC σ' b = ent aC σ b := by
  have e1 : ∀ ci, fs σ' b ci = fs σ b ci := fun ci => by
    unfold fs
    refine List.map_congr_left fun k _ => ?_
    simp only [fv, h2, h3, h4, h5]
  have e2 : ∀ t, acs σ' b t = acs σ b t := fun t => by
    unfold acs
    simp only [h2, h3, h4, h5]
  simp only [ent, h1, e1, e2]
theorem ent_sI {aC : Nat → ClassId} {σ : Mem} {a k b : Nat} {v : Int32} (h : b ≠ a) : ent aC (sI σ a k v) b = ent aC σ b := ent_row rfl (funext fun j => up2_a _ _ _ _ h) rfl rfl rfl
theorem ent_sL {aC : Nat → ClassId} {σ : Mem} {a k b : Nat} {v : Int64} (h : b ≠ a) : ent aC (sL σ a k v) b = ent aC σ b := ent_row rfl rfl (funext fun j => up2_a _ _ _ _ h) rfl rfl
theorem ent_sR {aC : Nat → ClassId} {σ : Mem} {a k b : Nat} {v : Option Nat} (h : b ≠ a) : ent aC (sR σ a k v) b = ent aC σ b := ent_row rfl rfl rfl (funext fun j => up2_a _ _ _ _ h) rfl
theorem ent_sB {aC : Nat → ClassId} {σ : Mem} {a k b : Nat} {v : Bool} (h : b ≠ a) : ent aC (sB σ a k v) b = ent aC σ b := ent_row rfl rfl rfl rfl (funext fun j => up2_a _ _ _ _ h)
theorem ent_nw {aC : Nat → ClassId} {σ : Mem} {t : Nat × Nat} {w b : Nat} (h : b < gN σ) : ent aC (nw σ t w) b = ent aC σ b := by
  have h : b ≠ gN σ := Nat.ne_of_lt h
  exact ent_row (by simp [nw, gT, up1, h]) (funext fun j => by simp [nw, gI, up1, h]) (funext fun j => by simp [nw, gL, up1, h]) (funext fun j => by simp [nw, gR, up1, h]) (funext fun j => by simp [nw, gB, up1, h])
theorem ent_nwC {aC : Nat → ClassId} {σ : Mem} {a b : Nat} (h : b < gN σ) : ent aC (nwC σ a) b = ent aC σ b := by
  have h : b ≠ gN σ := Nat.ne_of_lt h
  exact ent_row (by simp [nwC, gT, up1, h]) (funext fun j => by simp [nwC, gI, up1, h]) (funext fun j => by simp [nwC, gL, up1, h]) (funext fun j => by simp [nwC, gR, up1, h]) (funext fun j => by simp [nwC, gB, up1, h])
theorem fv_sI {σ : Mem} {a ci k j : Nat} {v : Int32} (h : j ≠ k) : fv (sI σ a k v) a ci j = fv σ a ci j := by
  have e : gI (sI σ a k v) a j = gI σ a j := up2_k _ _ _ _ h
  simp only [fv, e]; rfl
theorem fv_sL {σ : Mem} {a ci k j : Nat} {v : Int64} (h : j ≠ k) : fv (sL σ a k v) a ci j = fv σ a ci j := by
  have e : gL (sL σ a k v) a j = gL σ a j := up2_k _ _ _ _ h
  simp only [fv, e]; rfl
theorem fv_sR {σ : Mem} {a ci k j : Nat} {v : Option Nat} (h : j ≠ k) : fv (sR σ a k v) a ci j = fv σ a ci j := by
  have e : gR (sR σ a k v) a j = gR σ a j := up2_k _ _ _ _ h
  simp only [fv, e]; rfl
theorem fv_sB {σ : Mem} {a ci k j : Nat} {v : Bool} (h : j ≠ k) : fv (sB σ a k v) a ci j = fv σ a ci j := by
  have e : gB (sB σ a k v) a j = gB σ a j := up2_k _ _ _ _ h
  simp only [fv, e]; rfl
