/-! joins; small facts that the printed walks use -/
def jn {ω α : Type} (t : Option (ω ⊕ α)) (F : α → Option ω) : Option ω := match t with
  | none => none
  | some (.inl o) => some o
  | some (.inr a) => F a
def se {α β γ : Type} (f : α → γ) (g : β → γ) (t : α ⊕ β) : γ := match t with
  | .inl a => f a
  | .inr b => g b
theorem jn_l {ω α : Type} (o : ω) (F : α → Option ω) : jn (some (.inl o)) F = some o := rfl
theorem jn_r {ω α : Type} (a : α) (F : α → Option ω) : jn (some (.inr a)) F = F a := rfl
theorem jn_n {ω α : Type} (F : α → Option ω) : jn none F = none := rfl
theorem jn_ite {ω α : Type} {c : Prop} [Decidable c] (a b : Option (ω ⊕ α)) (F : α → Option ω) : jn (if c then a else b) F = if c then jn a F else jn b F := by by_cases h : c <;> simp [h]
theorem bd_ite {ω α : Type} {c : Prop} [Decidable c] (a b : Option α) (F : α → Option ω) : (if c then a else b).bind F = if c then a.bind F else b.bind F := by by_cases h : c <;> simp [h]
theorem se_l {α β γ : Type} (f : α → γ) (g : β → γ) (a : α) : se f g (.inl a) = f a := rfl
theorem se_r {α β γ : Type} (f : α → γ) (g : β → γ) (b : β) : se f g (.inr b) = g b := rfl
theorem r_bd {α ρ : Type} {t : Option α} {F : α → Option ρ} {z : ρ} {Q : Prop} (P : α → Prop) (hf : t.bind F = some z) (h1 : ∀ q, F q = some z → P q) (h2 : ∀ y, t = some y → P y → Q) : Q := by
  cases t with
  | none => cases hf
  | some y => exact h2 y rfl (h1 y hf)
theorem r_jn {ω α : Type} {t : Option (ω ⊕ α)} {F : α → Option ω} {z : ω} {Q : Prop} (P : α → Prop) (hf : jn t F = some z) (h1 : ∀ q, F q = some z → P q) (h2 : ∀ y, t = some y → (∀ o, y = .inl o → o = z) → (∀ q, y = .inr q → P q) → Q) : Q := by
  cases t with
  | none => cases hf
  | some y =>
    refine h2 y rfl (fun o h => ?_) (fun q h => ?_)
    · subst h
      exact Option.some.inj hf
    · subst h
      exact h1 q hf
theorem bd_k {α : Type} {P : α → Prop} {a y : α} (e : a = y) (h : P y) : P a := e ▸ h
theorem sw_ne {x k : Int32} {n : Int} (h : ¬ x = k) (hk : k.toInt = n) : x.toInt ≠ n := by
  rw [← hk]
  exact fun q => h (Int32.toInt_inj.mp q)
theorem cat_rf (x : Option Nat) : (va_rf x).category = 1 := by cases x <;> rfl
theorem nwK_t {σ σ' : Mem} {x : Option Nat} (h : nwK σ x = some σ') : (gT σ' (gN σ)).1 = 101 := by
  unfold nwK at h
  cases x with
  | none => cases h
  | some a =>
    by_cases ha : (gT σ a).1 = 101
    · simp [ha] at h
      subst h
      simp [nwC, gT, up1] at ha ⊢
      exact ha
    · simp [ha] at h
theorem lk_out {x d : Int} : ∀ {ps : List (Int × Int)}, (∀ k ∈ ps.map Prod.fst, x ≠ k) → Op.lookupswitch.offset ps d x = d
  | [], _ => rfl
  | (a, b) :: l, h => by
    have h1 : x ≠ a := h a (by simp)
    have h2 := lk_out (x := x) (d := d) (ps := l) (fun k hk => h k (by simp at hk ⊢; exact Or.inr hk))
    show (if a = x then b else Op.lookupswitch.offset l d x) = d
    rw [if_neg (Ne.symm h1)]
    exact h2
section RJ
variable {Γ : W0} {M : MD} {σ0 σ : Mem} {r : RT} {pc : Nat} {L : List (Nat × Value)} {st : List Value}
theorem r_newX {ci index : Nat} {ρ : Type} {F : Mem → Option ρ} {z : ρ} (hf : (some (nwO σ ci)).bind F = some z) (hd : decode M.2.1 pc = .ok (.new index, 3)) (hci : ci < 13) (hl : Cond.classLink M.1 index (cnN ci) ∈ GW) (hi : Cond.instantiable (cnN ci) (fN ci) ∈ GW) (hn : Cond.initialized (cnN ci) ∈ GW) (kk : ∀ σ', nwO σ ci = σ' → F σ' = some z → V Γ M σ0 r σ' (pc + 3) L (va_rf (some (gN σ)) :: st)) : V Γ M σ0 r σ pc L st := r_new hd hci hl hi hn (kk _ rfl hf)
theorem r_aloadS_n {n : Fin 4} {i x : Nat} (j : Nat) (hd : decode M.2.1 pc = .ok (.aload_n n, 1)) (hi : (n : Nat) = i) (hj : L[j]? = some (i, .ref x)) (k : V Γ M σ0 r σ (pc + 1) L (.ref x :: st)) : V Γ M σ0 r σ pc L st := r_aload_n (x := some x) j hd hi hj k
end RJ
