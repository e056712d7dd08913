/-! clone and its cast; loops as functions -/
section RC
variable {Γ : W0} {M : MD} {σ0 σ : Mem} {r : RT} {pc : Nat} {L : List (Nat × Value)} {st : List Value}
theorem r_clone {index : Nat} {x : Option Nat} {ρ : Type} {F : Mem → Option ρ} {z : ρ} (hf : (nwK σ x).bind F = some z) (hd : decode M.2.1 pc = .ok (.invokevirtual index, 3)) (hlk : Cond.methodLink M.1 index ⟨"[J", "clone", "()Ljava/lang/Object;"⟩ ∈ GW) (hsm : Cond.sameMethod "[J" "java/lang/Object" "clone" "()Ljava/lang/Object;" ∈ GW) (hnt : Cond.native ⟨"java/lang/Object", "clone", "()Ljava/lang/Object;"⟩ ∈ GW) (hin : Cond.instanceMethod ⟨"java/lang/Object", "clone", "()Ljava/lang/Object;"⟩ ∈ GW) (hse : Cond.selects "[J" ⟨"[J", "clone", "()Ljava/lang/Object;"⟩ ⟨"java/lang/Object", "clone", "()Ljava/lang/Object;"⟩ ∈ GW) (hfr : 1 ≤ M.2.2.2.2.2.1 ∧ 8 + 14 ≤ M.2.2.2.2.2.2) (hR : st.length ≤ 4) (kk : ∀ σ', nwK σ x = some σ' → F σ' = some z → V Γ M σ0 r σ' (pc + 3) L (va_rf (some (gN σ)) :: st)) : V Γ M σ0 r σ pc L (va_rf x :: st) := by
  refine obd hf fun q hx hq hg => ?_
  subst hx
  have kk := kk (nwC σ q) (by simp [nwK, hq]) hg
  have k1 : gN σ + 1 ≤ gN r.2 := kk.1
  have k2 : gU σ + (gT σ q).2 ≤ gU r.2 := kk.2.1
  refine ⟨by omega, by omega, fun p l e s m args below meth c H locs ls hT hl => ?_⟩
  have z1 := hT.2.2.2.2.2.2.2.1
  have z2 := hT.2.2.2.2.2.2.2.2.1
  have hts := hT.1.2.2.2.2.1
  have hsz : H.size = gN σ := hT.2.2.2.2.2.1
  have hw := (hT.at (x := q) (by rw [hq]; omega)).1
  rw [ent_a (t := 1) hq] at hw
  have hac : acs σ q 1 = .inr (.inl (gL σ q)) := rfl
  rw [hac] at hw
  have hcq : H[q]? = some (vp_cell (wA Γ 1) ((gT σ q).2, .inr (.inl (gL σ q)))) := hT.2.2.2.2.1 _ _ hw
  rw [vp_cell_l] at hcq
  have hnm : s.vm.findClass "[J" = some (wA Γ 1) := (hT.2.1.2 1 _ rfl).2
  obtain ⟨c0, t0', f1, f2, f3⟩ := Cond.castable_spec (va_Nw.use (A := args) rfl hT.1.2.2.2.2.2.2.2.2.2.1)
  cases hnm.symm.trans f1
  intro T hTH X
  have hcellT : T.heap[q]? = some (arrV (wA Γ 1) (gT σ q).2 (fun j => .long (gL σ q j))) := by rw [hTH]; exact hcq
  obtain ⟨-, kA, hkA, comp, hkind⟩ := State.isArrayOf_alike X.warmed.alike ((hT.2.1.2 1 _ rfl).1 0 (fun _ => .null))
  obtain ⟨-, kS, hkS, compS, hkindS⟩ := (hT.2.1.2 1 _ rfl).1 0 (fun _ => .null)
  obtain ⟨vm', X', stp⟩ := X.cloneArray hT.1.1 hT.1.2.2.2.1 (hts _ hlk) (hts _ hsm) (hts _ hnt) (hts _ hin) (hts _ hse) (a := q) (cell := arrV (wA Γ 1) (gT σ q).2 (fun j => .long (gL σ q j))) hcellT (fun k h => by cases h) (fun h => by cases h) hnm f2 f3
    (fun i v hv => by
      have hk' : T.vm.classes[wA Γ 1]? = some kA := hkA
      have hfv : fits .long v = true := by
        by_cases hi : i < (gT σ q).2
        · rw [arrV_read _ _ hi] at hv
          cases hv
          rfl
        · have := (Array.getElem?_eq_some_iff.mp hv).1
          rw [arrV_size] at this
          exact absurd this hi
      simpa [State.fitsSlot, State.slotType?, hk', hkind, arrV] using hfv)
    (g := F0 m pc ls (.ref q :: st)) rfl (by rw [hT.1.2.2.1]; exact hl.1) rfl (by rw [hT.1.2.1]; exact hd) hfr.1 (by show 2 * 0 + _ + 14 ≤ _; have h1 := hfr.2; have h2 := cat_le hR; show _ ≤ M.2.2.2.2.2.2; omega) (by show gN σ - gN σ0 + 1 ≤ gN r.2 - gN σ0; omega) (by rw [arrV_size]; show gU σ - gU σ0 + (gT σ q).2 ≤ gU r.2 - gU σ0; omega) (hloader := Vm.clonesLoader_of_array hkS hkindS)
  rw [arrV_size] at X'
  generalize hH1 : H.push (arrV (wA Γ 1) (gT σ q).2 (fun j => .long (gL σ q j))) = H1
  have zH : H1.size = gN σ + 1 := by rw [← hH1, Array.size_push, hsz]
  have e1 : H1[gN σ]? = some (arrV (wA Γ 1) (gT σ q).2 (fun j => .long (gL σ q j))) := by rw [← hH1, ← hsz, Array.getElem?_push_size]
  have o1 : ∀ b : Nat, b < gN σ → H1[b]? = H[b]? := fun b hb => by rw [← hH1, Array.getElem?_push, if_neg (by omega)]
  have hT' : ST Γ M σ0 (nwC σ q) p s m args meth c H1 locs := by
    refine hT.push zH o1 ?_ rfl (Nat.le_add_right _ _) (fun b hb => by simp [nwC, gT, up1, hb]) (fun b hb => ent_nwC hb)
    have ht : gT (nwC σ q) (gN σ) = gT σ q := by simp [nwC, gT, up1]
    rw [ent_a (t := 1) (by rw [ht]; exact hq), ht]
    have hac : acs (nwC σ q) (gN σ) 1 = .inr (.inl (gL σ q)) := by
      show Sum.inr (Sum.inl _) = _
      congr 2
      funext j
      simp [nwC, gL, up1]
    rw [hac]
    exact e1
  have w := kk.2.2 p l e s m args below meth c H1 locs ls hT' hl
  have c1 : gN (nwC σ q) - gN σ0 = gN σ - gN σ0 + 1 := by show gN σ + 1 - gN σ0 = _; omega
  have c2 : gU (nwC σ q) - gU σ0 = gU σ - gU σ0 + (gT σ q).2 := by show gU σ + (gT σ q).2 - gU σ0 = _; omega
  rw [c1, c2] at w
  obtain ⟨t, b1, b2⟩ := w ((T.setVm vm').pushCell (arrV (wA Γ 1) (gT σ q).2 (fun j => .long (gL σ q j)))) (by rw [← hH1, ← hTH]; rfl) X'
  refine ⟨t, stp t ?_, b2⟩
  rw [hTH, hsz]
  exact b1
theorem r_castJ {index q : Nat} (hd : decode M.2.1 pc = .ok (.checkcast index, 3)) (hlk : Cond.classLink M.1 index "[J" ∈ GW) (hq : (gT σ q).1 = 101) (kk : V Γ M σ0 r σ (pc + 3) L (va_rf (some q) :: st)) : V Γ M σ0 r σ pc L (va_rf (some q) :: st) := by
  refine ⟨kk.1, kk.2.1, fun p l e s m args below meth c H locs ls hT hl => ?_⟩
  have hw := (hT.at (x := q) (by rw [hq]; omega)).1
  rw [ent_a (t := 1) hq] at hw
  exact va_castA hT.1.1 hT.1.2.1 hT.1.2.2.2.1 (hT.1.2.2.2.2.1 _ hlk) hT.2.2.2.2.1 _ hw (hT.2.1.2 1 _ rfl).2 hd (kk.2.2 p l e s m args below meth c H locs ls hT hl)
end RC
/-! loops: a body answers the next state of the loop, or what comes out of it -/
def lpF {α β : Type} (f : α → Option (α ⊕ β)) : Nat → α → Option β
  | 0, _ => none
  | n + 1, a => match f a with
    | none => none
    | some (.inl a') => lpF f n a'
    | some (.inr b) => some b
theorem lpF_mono {α β : Type} {f : α → Option (α ⊕ β)} {b : β} : ∀ (n k : Nat) (a : α), lpF f n a = some b → lpF f (n + k) a = some b
  | 0, _, _, h => by cases h
  | n + 1, k, a, h => by
    rw [Nat.add_right_comm]
    unfold lpF at h ⊢
    split at h
    · cases h
    · next a' e => exact lpF_mono n k a' h
    · next b' e => exact h
theorem lpF_det {α β : Type} {f : α → Option (α ⊕ β)} {b b' : β} {n n' : Nat} {a : α} (h : lpF f n a = some b) (h' : lpF f n' a = some b') : b = b' := by
  have h1 := lpF_mono n n' a h
  have h2 := lpF_mono n' n a h'
  rw [Nat.add_comm] at h2
  exact Option.some.inj (h1.symm.trans h2)
noncomputable def lp {α β : Type} (f : α → Option (α ⊕ β)) (a : α) : Option β := @dite _ (∃ (n : Nat) (b : β), lpF f n a = some b) (Classical.propDecidable _) (fun h => some (Classical.choose (Classical.choose_spec h))) (fun _ => none)
theorem lp_iff {α β : Type} {f : α → Option (α ⊕ β)} {a : α} {b : β} : lp f a = some b ↔ ∃ n, lpF f n a = some b := by
  unfold lp
  constructor
  · intro h
    split at h
    · next h2 =>
      cases h
      exact ⟨_, Classical.choose_spec (Classical.choose_spec h2)⟩
    · cases h
  · rintro ⟨n, h⟩
    have h2 : ∃ (n : Nat) (b : β), lpF f n a = some b := ⟨n, b, h⟩
    rw [dif_pos h2]
    congr 1
    exact lpF_det (Classical.choose_spec (Classical.choose_spec h2)) h
theorem lp_out {α β : Type} {f : α → Option (α ⊕ β)} {a : α} {b : β} (h : f a = some (.inr b)) : lp f a = some b := lp_iff.mpr ⟨1, by simp [lpF, h]⟩
theorem lp_on {α β : Type} {f : α → Option (α ⊕ β)} {a a' : α} (h : f a = some (.inl a')) : lp f a = lp f a' := by
  have key : ∀ b, lp f a = some b ↔ lp f a' = some b := fun b => by
    rw [lp_iff, lp_iff]
    constructor
    · rintro ⟨n, hn⟩
      cases n with
      | zero => cases hn
      | succ n => exact ⟨n, by simpa [lpF, h] using hn⟩
    · rintro ⟨n, hn⟩
      exact ⟨n + 1, by simpa [lpF, h] using hn⟩
  cases h1 : lp f a with
  | some b => exact ((key b).mp h1).symm
  | none =>
    cases h2 : lp f a' with
    | none => rfl
    | some b => rw [(key b).mpr h2] at h1; cases h1
/-- a loop's walk: what holds at its head for every state from which it comes to b -/
theorem lp_ind {α β : Type} {f : α → Option (α ⊕ β)} {b : β} (P : α → Prop) (hs : ∀ s, ∀ x, f s = some x → (∀ s', x = .inl s' → P s') → (∀ b', x = .inr b' → b' = b) → P s) (a : α) (h : lp f a = some b) : P a := by
  obtain ⟨n, hn⟩ := lp_iff.mp h
  clear h
  have h := hn
  clear hn
  induction n generalizing a with
  | zero => cases h
  | succ n ih =>
    unfold lpF at h
    split at h
    · cases h
    · next a' e => exact hs a _ e (fun s' q => by cases q; exact ih _ h) (fun b' q => by cases q)
    · next b' e => exact hs a _ e (fun s' q => by cases q) (fun b'' q => by cases q; exact Option.some.inj h)
/-- a loop through m known states -/
theorem lp_seq {α β : Type} {f : α → Option (α ⊕ β)} (s : Nat → α) {m : Nat} {b : β} (h : ∀ i, i < m → f (s i) = some (.inl (s (i + 1)))) (hb : f (s m) = some (.inr b)) : lp f (s 0) = some b := by
  have key : ∀ i, i ≤ m → lp f (s 0) = lp f (s i) := fun i hi => by
    induction i with
    | zero => rfl
    | succ i ih => rw [ih (by omega), lp_on (h i (by omega))]
  rw [key m (Nat.le_refl _), lp_out hb]
/-- a loop whose measure falls while an invariant holds -/
theorem lp_inv {α β : Type} {f : α → Option (α ⊕ β)} (I : α → Prop) (μ : α → Nat) (Q : β → Prop) (hs : ∀ s, I s → (∃ s', f s = some (.inl s') ∧ I s' ∧ μ s' < μ s) ∨ ∃ b, f s = some (.inr b) ∧ Q b) (a : α) (h : I a) : ∃ b, lp f a = some b ∧ Q b := by
  obtain ⟨n, hn⟩ : ∃ n, μ a < n := ⟨_, Nat.lt_succ_self _⟩
  induction n generalizing a with
  | zero => omega
  | succ n ih =>
    rcases hs a h with ⟨s', e, i, l⟩ | ⟨b, e, q⟩
    · obtain ⟨b, h1, h2⟩ := ih s' i (by omega)
      exact ⟨b, by rw [lp_on e]; exact h1, h2⟩
    · exact ⟨b, lp_out e, q⟩
