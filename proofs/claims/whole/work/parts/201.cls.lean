/-! methods as functions, with their walks (by program) -/
/-! SearchEngine$Speller.signOf -/
noncomputable def Sp_signOf (x0 : Int32) : Option Int32 :=
  jn (
    if x0 < (48 : Int32) then
      some (Sum.inr ())
    else
      if (57 : Int32) < x0 then
        some (Sum.inr ())
      else
        some (Sum.inl (((1 : Int32) + x0) - (48 : Int32)))) fun q1 =>
  jn (
    if x0 < (97 : Int32) then
      some (Sum.inr ())
    else
      if (122 : Int32) < x0 then
        some (Sum.inr ())
      else
        some (Sum.inl (((11 : Int32) + x0) - (97 : Int32)))) fun q4 =>
  if x0 < (65 : Int32) then
    some (0 : Int32)
  else
    if (90 : Int32) < x0 then
      some (0 : Int32)
    else
      some (((11 : Int32) + x0) - (65 : Int32))
set_option maxRecDepth 100000 in
set_option maxHeartbeats 4000000 in
theorem t_Sp_signOf {Γ : W0} {σ : Mem} {x0 : Int32} {v : Int32} (hf : Sp_signOf x0 = some v) : CT Γ MD_Sp_signOf yX7_signOf [.int x0] σ (some (.int v), σ) := by
  refine CT.of (L := [(0, .int x0)]) rfl (by decide) (fun h => Bool.noConfusion (show false = true from h)) (Nat.le_of_ble_eq_true rfl) rfl ?_
  unfold Sp_signOf at hf
  generalize hr : mkR Γ σ (some (.int v)) σ = r
  refine r_iload_n 0 dX7_signOf_0 rfl rfl ?_
  refine r_bipush (48 : Int32) dX7_signOf_1 (by decide) ?_
  refine r_jn (fun (q1 : Unit) => V Γ MD_Sp_signOf σ r σ 19 [(0, .int x0)] []) hf (fun q1 hf => ?_) (fun yq1 hf oq1 kq1 => ?_)
  · refine r_iload_n 0 dX7_signOf_19 rfl rfl ?_
    refine r_bipush (97 : Int32) dX7_signOf_20 (by decide) ?_
    refine r_jn (fun (q4 : Unit) => V Γ MD_Sp_signOf σ r σ 39 [(0, .int x0)] []) hf (fun q4 hf => ?_) (fun yq4 hf oq4 kq4 => ?_)
    · refine r_iload_n 0 dX7_signOf_39 rfl rfl ?_
      refine r_bipush (65 : Int32) dX7_signOf_40 (by decide) ?_
      refine r_icmp_lt 61 hf dX7_signOf_42 (by decide) (fun c7 hf => ?_) (fun c7 hf => ?_)
      · refine r_iconst (0 : Int32) dX7_signOf_61 (by decide) ?_
        exact r_iret rfl dX7_signOf_62 (by have h1 := (Option.some.inj hf); subst h1; exact hr.symm)
      · refine r_iload_n 0 dX7_signOf_45 rfl rfl ?_
        refine r_bipush (90 : Int32) dX7_signOf_46 (by decide) ?_
        refine r_icmp_gt 61 hf dX7_signOf_48 (by decide) (fun c8 hf => ?_) (fun c8 hf => ?_)
        · refine r_iconst (0 : Int32) dX7_signOf_61 (by decide) ?_
          exact r_iret rfl dX7_signOf_62 (by have h1 := (Option.some.inj hf); subst h1; exact hr.symm)
        · refine r_bipush (11 : Int32) dX7_signOf_51 (by decide) ?_
          refine r_iload_n 0 dX7_signOf_53 rfl rfl ?_
          refine r_iadd dX7_signOf_54 ?_
          refine r_bipush (65 : Int32) dX7_signOf_55 (by decide) ?_
          refine r_isub dX7_signOf_57 ?_
          refine r_goto 62 dX7_signOf_58 (by decide) ?_
          exact r_iret rfl dX7_signOf_62 (by have h1 := (Option.some.inj hf); subst h1; exact hr.symm)
    · refine r_icmp_lt 39 hf dX7_signOf_22 (by decide) (fun c5 hf => ?_) (fun c5 hf => ?_)
      · refine r_sub (L' := [(0, _)]) [0] rfl ?_
        exact kq4 _ (Option.some.inj hf).symm
      · refine r_iload_n 0 dX7_signOf_25 rfl rfl ?_
        refine r_bipush (122 : Int32) dX7_signOf_26 (by decide) ?_
        refine r_icmp_gt 39 hf dX7_signOf_28 (by decide) (fun c6 hf => ?_) (fun c6 hf => ?_)
        · refine r_sub (L' := [(0, _)]) [0] rfl ?_
          exact kq4 _ (Option.some.inj hf).symm
        · refine r_bipush (11 : Int32) dX7_signOf_31 (by decide) ?_
          refine r_iload_n 0 dX7_signOf_33 rfl rfl ?_
          refine r_iadd dX7_signOf_34 ?_
          refine r_bipush (97 : Int32) dX7_signOf_35 (by decide) ?_
          refine r_isub dX7_signOf_37 ?_
          exact r_iret rfl dX7_signOf_38 (by have h1 := (oq4 _ (Option.some.inj hf).symm); subst h1; exact hr.symm)
  · refine r_icmp_lt 19 hf dX7_signOf_3 (by decide) (fun c2 hf => ?_) (fun c2 hf => ?_)
    · refine r_sub (L' := [(0, _)]) [0] rfl ?_
      exact kq1 _ (Option.some.inj hf).symm
    · refine r_iload_n 0 dX7_signOf_6 rfl rfl ?_
      refine r_bipush (57 : Int32) dX7_signOf_7 (by decide) ?_
      refine r_icmp_gt 19 hf dX7_signOf_9 (by decide) (fun c3 hf => ?_) (fun c3 hf => ?_)
      · refine r_sub (L' := [(0, _)]) [0] rfl ?_
        exact kq1 _ (Option.some.inj hf).symm
      · refine r_iconst (1 : Int32) dX7_signOf_12 (by decide) ?_
        refine r_iload_n 0 dX7_signOf_13 rfl rfl ?_
        refine r_iadd dX7_signOf_14 ?_
        refine r_bipush (48 : Int32) dX7_signOf_15 (by decide) ?_
        refine r_isub dX7_signOf_17 ?_
        exact r_iret rfl dX7_signOf_18 (by have h1 := (oq1 _ (Option.some.inj hf).symm); subst h1; exact hr.symm)
/-! SearchEngine$Speller.signsOf -/
noncomputable def Sp_signsOf_l5 (σ : Mem) (x0 : Option Nat) (x1 : Int32) (x2 : Int32) (x3 : Int64) (x5 : Int32) : Option ((Int64 × Int32) ⊕ Int64) :=
  if x5 < 0 then
    some (Sum.inr x3)
  else
    if (x1 + x2) ≤ x5 then
      some (Sum.inr x3)
    else
      (alen σ 2 x0).bind fun v3 =>
      if v3 ≤ x5 then
        some (Sum.inr x3)
      else
        (raI σ 2 x0 x5).bind fun v5 =>
        (Sp_signOf v5).bind fun v6 =>
        some (Sum.inl (((x3 * (37 : Int64)) + v6.toInt64), (x5 + (1 : Int32))))
noncomputable def Sp_signsOf (σ : Mem) (x0 : Option Nat) (x1 : Int32) (x2 : Int32) : Option Int64 :=
  (lp (fun q => Sp_signsOf_l5 σ x0 x1 x2 q.1 q.2) ((0 : Int64), x1)).bind fun z8 =>
  some z8
set_option maxRecDepth 100000 in
set_option maxHeartbeats 4000000 in
theorem x_Sp_signsOf_l5 {Γ : W0} {σ0 : Mem} {r : RT} {σ : Mem} {x0 : Option Nat} {x1 : Int32} {x2 : Int32} {t : Int64} (hk0 : ∀ z : Int64, z = t → V Γ MD_Sp_signsOf σ0 r σ 46 [(3, .long z)] []) : ∀ q : Int64 × Int32, lp (fun q => Sp_signsOf_l5 σ x0 x1 x2 q.1 q.2) q = some t → V Γ MD_Sp_signsOf σ0 r σ 5 [(0, va_rf x0), (1, .int x1), (2, .int x2), (3, .long q.1), (5, .int q.2)] [] := by
  refine lp_ind (fun (q : Int64 × Int32) => V Γ MD_Sp_signsOf σ0 r σ 5 [(0, va_rf x0), (1, .int x1), (2, .int x2), (3, .long q.1), (5, .int q.2)] []) (fun q x hf ih ho => ?_)
  obtain ⟨x3, x5⟩ := q
  show V Γ MD_Sp_signsOf σ0 r σ 5 [(0, va_rf x0), (1, .int x1), (2, .int x2), (3, .long x3), (5, .int x5)] []
  replace hf : Sp_signsOf_l5 σ x0 x1 x2 x3 x5 = some x := hf
  unfold Sp_signsOf_l5 at hf
  refine r_iload 4 dX7_signsOf_5 rfl ?_
  refine r_if_lt 46 hf dX7_signsOf_7 (by decide) (fun c1 hf => ?_) (fun c1 hf => ?_)
  · refine r_sub (L' := [(3, _)]) [3] rfl ?_
    exact hk0 _ (ho _ (Option.some.inj hf).symm)
  · refine r_iload 4 dX7_signsOf_10 rfl ?_
    refine r_iload_n 1 dX7_signsOf_12 rfl rfl ?_
    refine r_iload_n 2 dX7_signsOf_13 rfl rfl ?_
    refine r_iadd dX7_signsOf_14 ?_
    refine r_icmp_ge 46 hf dX7_signsOf_15 (by decide) (fun c2 hf => ?_) (fun c2 hf => ?_)
    · refine r_sub (L' := [(3, _)]) [3] rfl ?_
      exact hk0 _ (ho _ (Option.some.inj hf).symm)
    · refine r_iload 4 dX7_signsOf_18 rfl ?_
      refine r_aload_n 0 dX7_signsOf_20 rfl rfl ?_
      refine r_alen hf dX7_signsOf_21 (by decide) (fun v3 ev3 hf => ?_)
      refine r_icmp_ge 46 hf dX7_signsOf_22 (by decide) (fun c4 hf => ?_) (fun c4 hf => ?_)
      · refine r_sub (L' := [(3, _)]) [3] rfl ?_
        exact hk0 _ (ho _ (Option.some.inj hf).symm)
      · refine r_lload_n 3 dX7_signsOf_25 rfl rfl ?_
        refine r_ldc2 (37 : Int64) dX7_signsOf_26 ww_175 ?_
        refine r_lmul dX7_signsOf_29 ?_
        refine r_aload_n 0 dX7_signsOf_30 rfl rfl ?_
        refine r_iload 4 dX7_signsOf_31 rfl ?_
        refine r_raY hf dX7_signsOf_33 (fun v5 ev5 hf => ?_)
        refine bnd hf (fun v6 ev6 hf => ?_)
        refine r_callSr dX7_signsOf_34 cs_RX7_32 ww_173 (by decide) rfl (rest := [_]) rfl (Or.inl (Nat.le_of_ble_eq_true rfl)) (t_Sp_signOf ev6) ?_
        refine r_i2l dX7_signsOf_37 ?_
        refine r_ladd dX7_signsOf_38 ?_
        refine r_lstore_n (L' := [(3, _), (0, _), (1, _), (2, _), (5, _)]) dX7_signsOf_39 rfl (show 4 < 6 by decide) rfl ?_
        refine r_iinc (1 : Int32) (L' := [(5, _), (3, _), (0, _), (1, _), (2, _)]) 4 dX7_signsOf_40 rfl (by decide) (show 5 < 6 by decide) rfl ?_
        refine r_goto 5 dX7_signsOf_43 (by decide) ?_
        refine r_sub (L' := [(0, _), (1, _), (2, _), (3, _), (5, _)]) [2, 3, 4, 1, 0] rfl ?_
        exact ih _ (Option.some.inj hf).symm
set_option maxRecDepth 100000 in
set_option maxHeartbeats 4000000 in
theorem t_Sp_signsOf {Γ : W0} {σ : Mem} {x0 : Option Nat} {x1 : Int32} {x2 : Int32} {v : Int64} (hf : Sp_signsOf σ x0 x1 x2 = some v) : CT Γ MD_Sp_signsOf yX7_signsOf [va_rf x0, .int x1, .int x2] σ (some (.long v), σ) := by
  refine CT.of (L := [(0, va_rf x0), (1, .int x1), (2, .int x2)]) rfl (by decide) (fun h => Bool.noConfusion (show false = true from h)) (by cases x0 <;> exact Nat.le_of_ble_eq_true rfl) (by cases x0 <;> rfl) ?_
  unfold Sp_signsOf at hf
  generalize hr : mkR Γ σ (some (.long v)) σ = r
  refine r_lconst (0 : Int64) dX7_signsOf_0 (by decide) ?_
  refine r_lstore_n (L' := [(3, _), (0, _), (1, _), (2, _)]) dX7_signsOf_1 rfl (show 4 < 6 by decide) rfl ?_
  refine r_iload_n 2 dX7_signsOf_2 rfl rfl ?_
  refine r_istore (L' := [(5, _), (3, _), (0, _), (1, _), (2, _)]) dX7_signsOf_3 (show 5 < 6 by decide) rfl ?_
  refine bnd hf (fun t7 et7 hf => ?_)
  refine r_sub (L' := [(0, _), (1, _), (2, _), (3, _), (5, _)]) [2, 3, 4, 1, 0] rfl ?_
  refine x_Sp_signsOf_l5 ?_ _ et7
  · intro z8 hz8
    subst hz8
    refine r_lload_n 0 dX7_signsOf_46 rfl rfl ?_
    exact r_lret rfl dX7_signsOf_47 (by have h1 := (Option.some.inj hf); subst h1; exact hr.symm)
/-! SearchEngine$Speller.padded -/
noncomputable def Sp_padded_l5 (x3 : Int64) (x5 : Int32) : Option ((Int64 × Int32) ⊕ Int64) :=
  if (12 : Int32) ≤ x5 then
    some (Sum.inr x3)
  else
    some (Sum.inl ((x3 * (37 : Int64)), (x5 + (1 : Int32))))
noncomputable def Sp_padded (x0 : Int64) (x2 : Int32) : Option Int64 :=
  (lp (fun q => Sp_padded_l5 q.1 q.2) (x0, x2)).bind fun z3 =>
  some z3
set_option maxRecDepth 100000 in
set_option maxHeartbeats 4000000 in
theorem x_Sp_padded_l5 {Γ : W0} {σ0 : Mem} {r : RT} {σ : Mem} {t : Int64} (hk0 : ∀ z : Int64, z = t → V Γ MD_Sp_padded σ0 r σ 24 [(3, .long z)] []) : ∀ q : Int64 × Int32, lp (fun q => Sp_padded_l5 q.1 q.2) q = some t → V Γ MD_Sp_padded σ0 r σ 5 [(3, .long q.1), (5, .int q.2)] [] := by
  refine lp_ind (fun (q : Int64 × Int32) => V Γ MD_Sp_padded σ0 r σ 5 [(3, .long q.1), (5, .int q.2)] []) (fun q x hf ih ho => ?_)
  obtain ⟨x3, x5⟩ := q
  show V Γ MD_Sp_padded σ0 r σ 5 [(3, .long x3), (5, .int x5)] []
  replace hf : Sp_padded_l5 x3 x5 = some x := hf
  unfold Sp_padded_l5 at hf
  refine r_iload 1 dX7_padded_5 rfl ?_
  refine r_bipush (12 : Int32) dX7_padded_7 (by decide) ?_
  refine r_icmp_ge 24 hf dX7_padded_9 (by decide) (fun c1 hf => ?_) (fun c1 hf => ?_)
  · refine r_sub (L' := [(3, _)]) [0] rfl ?_
    exact hk0 _ (ho _ (Option.some.inj hf).symm)
  · refine r_lload_n 0 dX7_padded_12 rfl rfl ?_
    refine r_ldc2 (37 : Int64) dX7_padded_13 ww_175 ?_
    refine r_lmul dX7_padded_16 ?_
    refine r_lstore_n (L' := [(3, _), (5, _)]) dX7_padded_17 rfl (show 4 < 6 by decide) rfl ?_
    refine r_iinc (1 : Int32) (L' := [(5, _), (3, _)]) 1 dX7_padded_18 rfl (by decide) (show 5 < 6 by decide) rfl ?_
    refine r_goto 5 dX7_padded_21 (by decide) ?_
    refine r_sub (L' := [(3, _), (5, _)]) [1, 0] rfl ?_
    exact ih _ (Option.some.inj hf).symm
set_option maxRecDepth 100000 in
set_option maxHeartbeats 4000000 in
theorem t_Sp_padded {Γ : W0} {σ : Mem} {x0 : Int64} {x2 : Int32} {v : Int64} (hf : Sp_padded x0 x2 = some v) : CT Γ MD_Sp_padded yX7_padded [.long x0, .int x2] σ (some (.long v), σ) := by
  refine CT.of (L := [(0, .long x0), (2, .int x2)]) rfl (by decide) (fun h => Bool.noConfusion (show false = true from h)) (Nat.le_of_ble_eq_true rfl) rfl ?_
  unfold Sp_padded at hf
  generalize hr : mkR Γ σ (some (.long v)) σ = r
  refine r_lload_n 0 dX7_padded_0 rfl rfl ?_
  refine r_lstore_n (L' := [(3, _), (0, _), (2, _)]) dX7_padded_1 rfl (show 4 < 6 by decide) rfl ?_
  refine r_iload_n 2 dX7_padded_2 rfl rfl ?_
  refine r_istore (L' := [(5, _), (3, _), (0, _), (2, _)]) dX7_padded_3 (show 5 < 6 by decide) rfl ?_
  refine bnd hf (fun t2 et2 hf => ?_)
  refine r_sub (L' := [(3, _), (5, _)]) [1, 0] rfl ?_
  refine x_Sp_padded_l5 ?_ _ et2
  · intro z3 hz3
    subst hz3
    refine r_lload_n 0 dX7_padded_24 rfl rfl ?_
    exact r_lret rfl dX7_padded_25 (by have h1 := (Option.some.inj hf); subst h1; exact hr.symm)
/-! SearchEngine$Speller.leastBeginning -/
noncomputable def Sp_leastBeginning (σ : Mem) (x0 : Option Nat) (x1 : Int32) (x2 : Int32) : Option Int64 :=
  (Sp_signsOf σ x0 x1 (minI x2 (12 : Int32))).bind fun v1 =>
  (Sp_padded v1 (minI x2 (12 : Int32))).bind fun v2 =>
  some v2
set_option maxRecDepth 100000 in
set_option maxHeartbeats 4000000 in
theorem t_Sp_leastBeginning {Γ : W0} {σ : Mem} {x0 : Option Nat} {x1 : Int32} {x2 : Int32} {v : Int64} (hf : Sp_leastBeginning σ x0 x1 x2 = some v) : CT Γ MD_Sp_leastBeginning yX7_leastBeginning [va_rf x0, .int x1, .int x2] σ (some (.long v), σ) := by
  refine CT.of (L := [(0, va_rf x0), (1, .int x1), (2, .int x2)]) rfl (by decide) (fun h => Bool.noConfusion (show false = true from h)) (by cases x0 <;> exact Nat.le_of_ble_eq_true rfl) (by cases x0 <;> rfl) ?_
  unfold Sp_leastBeginning at hf
  generalize hr : mkR Γ σ (some (.long v)) σ = r
  refine r_iload_n 2 dX7_leastBeginning_0 rfl rfl ?_
  refine r_bipush (12 : Int32) dX7_leastBeginning_1 (by decide) ?_
  refine r_mmin dX7_leastBeginning_3 ww_471 ww_439 ww_103 ww_440 (by decide) (Nat.le_of_ble_eq_true rfl) ?_
  refine r_istore_n (L' := [(3, _), (0, _), (1, _), (2, _)]) dX7_leastBeginning_6 rfl (show 3 < 4 by decide) rfl ?_
  refine r_aload_n 1 dX7_leastBeginning_7 rfl rfl ?_
  refine r_iload_n 2 dX7_leastBeginning_8 rfl rfl ?_
  refine r_iload_n 0 dX7_leastBeginning_9 rfl rfl ?_
  refine bnd hf (fun v1 ev1 hf => ?_)
  refine r_callSr dX7_leastBeginning_10 cs_RX7_56 ww_476 (by decide) rfl (rest := []) rfl (Or.inl (Nat.le_of_ble_eq_true rfl)) (t_Sp_signsOf ev1) ?_
  refine r_iload_n 0 dX7_leastBeginning_13 rfl rfl ?_
  refine bnd hf (fun v2 ev2 hf => ?_)
  refine r_callSr dX7_leastBeginning_14 cs_RX7_38 ww_177 (by decide) rfl (rest := []) rfl (Or.inl (Nat.le_of_ble_eq_true rfl)) (t_Sp_padded ev2) ?_
  exact r_lret rfl dX7_leastBeginning_17 (by have h1 := (Option.some.inj hf); subst h1; exact hr.symm)
/-! SearchEngine$Neighbour.spell -/
noncomputable def Ne_spell_l16 (σ : Mem) (x2 : Option Nat) (x3 : Int64) (x5 : Int32) (x6 : Int32) : Option ((Int64 × Int32 × Int32 × Mem) ⊕ (Int32 × Mem)) :=
  if x6 < 0 then
    some (Sum.inr (x5, σ))
  else
    (waI σ 0 x2 x6 ((remL x3 (37 : Int64)).toInt32)).bind fun m3 =>
    (raI m3 0 x2 x6).bind fun v4 =>
    Option.bind (
      if v4 = 0 then
        some x5
      else
        some (x5 + (1 : Int32))) fun q5 =>
    some (Sum.inl ((x3 / (37 : Int64)), q5, (x6 + (-1 : Int32)), m3))
noncomputable def Ne_spell (σ : Mem) (x0 : Int64) (x2 : Option Nat) : Option (Int32 × Mem) :=
  (alen σ 0 x2).bind fun v1 =>
  (lp (fun q => Ne_spell_l16 q.2.2.2 x2 q.1 q.2.1 q.2.2.1) (x0, (0 : Int32), ((minI v1 (12 : Int32)) - (1 : Int32)), σ)).bind fun z8 =>
  some (z8.1, z8.2)
set_option maxRecDepth 100000 in
set_option maxHeartbeats 4000000 in
theorem x_Ne_spell_l16 {Γ : W0} {σ0 : Mem} {r : RT} {x2 : Option Nat} {t : Int32 × Mem} (hk0 : ∀ z : Int32 × Mem, z = t → V Γ MD_Ne_spell σ0 r z.2 53 [(5, .int z.1)] []) : ∀ q : Int64 × Int32 × Int32 × Mem, lp (fun q => Ne_spell_l16 q.2.2.2 x2 q.1 q.2.1 q.2.2.1) q = some t → V Γ MD_Ne_spell σ0 r q.2.2.2 16 [(2, va_rf x2), (3, .long q.1), (5, .int q.2.1), (6, .int q.2.2.1)] [] := by
  refine lp_ind (fun (q : Int64 × Int32 × Int32 × Mem) => V Γ MD_Ne_spell σ0 r q.2.2.2 16 [(2, va_rf x2), (3, .long q.1), (5, .int q.2.1), (6, .int q.2.2.1)] []) (fun q x hf ih ho => ?_)
  obtain ⟨x3, x5, x6, σ⟩ := q
  show V Γ MD_Ne_spell σ0 r σ 16 [(2, va_rf x2), (3, .long x3), (5, .int x5), (6, .int x6)] []
  replace hf : Ne_spell_l16 σ x2 x3 x5 x6 = some x := hf
  unfold Ne_spell_l16 at hf
  refine r_iload 3 dX2_spell_16 rfl ?_
  refine r_if_lt 53 hf dX2_spell_18 (by decide) (fun c2 hf => ?_) (fun c2 hf => ?_)
  · refine r_sub (L' := [(5, _)]) [2] rfl ?_
    exact hk0 _ (ho _ (Option.some.inj hf).symm)
  · refine r_aload_n 0 dX2_spell_21 rfl rfl ?_
    refine r_iload 3 dX2_spell_22 rfl ?_
    refine r_lload_n 1 dX2_spell_24 rfl rfl ?_
    refine r_ldc2 (37 : Int64) dX2_spell_25 ww_973 ?_
    refine r_lrem dX2_spell_28 (by decide) ?_
    refine r_l2i dX2_spell_29 ?_
    refine r_waI hf dX2_spell_30 (fun m3 em3 hf => ?_)
    refine r_lload_n 1 dX2_spell_31 rfl rfl ?_
    refine r_ldc2 (37 : Int64) dX2_spell_32 ww_973 ?_
    refine r_ldiv dX2_spell_35 (by decide) ?_
    refine r_lstore_n (i := 3) (L' := [(3, .long (x3 / (37 : Int64))), (2, va_rf x2), (5, .int x5), (6, .int x6)]) dX2_spell_36 rfl (show 4 < 7 by decide) (by simp [List.filter, cat_rf, cat_i, cat_l]) ?_
    refine r_aload_n 1 dX2_spell_37 rfl rfl ?_
    refine r_iload 3 dX2_spell_38 rfl ?_
    refine r_raI hf dX2_spell_40 (fun v4 ev4 hf => ?_)
    refine r_bd (fun (q5 : Int32) => V Γ MD_Ne_spell σ0 r m3 47 [(2, va_rf x2), (3, .long (x3 / (37 : Int64))), (5, .int q5), (6, .int x6)] []) hf (fun q5 hf => ?_) (fun yq5 hf kq5 => ?_)
    · refine r_iinc (-1 : Int32) (L' := [(6, _), (2, _), (3, _), (5, _)]) 3 dX2_spell_47 rfl (by decide) (show 6 < 7 by decide) rfl ?_
      refine r_goto 16 dX2_spell_50 (by decide) ?_
      refine r_sub (L' := [(2, _), (3, _), (5, _), (6, _)]) [1, 2, 3, 0] rfl ?_
      exact ih _ (Option.some.inj hf).symm
    · refine r_if_eq 47 hf dX2_spell_41 (by decide) (fun c6 hf => ?_) (fun c6 hf => ?_)
      · refine r_sub (L' := [(2, _), (3, _), (5, _), (6, _)]) [1, 0, 2, 3] rfl ?_
        cases (Option.some.inj hf)
        exact kq5
      · refine r_iinc (1 : Int32) (L' := [(5, _), (3, _), (2, _), (6, _)]) 2 dX2_spell_44 rfl (by decide) (show 5 < 7 by decide) rfl ?_
        refine r_sub (L' := [(2, _), (3, _), (5, _), (6, _)]) [2, 1, 0, 3] rfl ?_
        cases (Option.some.inj hf)
        exact kq5
set_option maxRecDepth 100000 in
set_option maxHeartbeats 4000000 in
theorem t_Ne_spell {Γ : W0} {σ : Mem} {x0 : Int64} {x2 : Option Nat} {v : Int32} {σ' : Mem} (hf : Ne_spell σ x0 x2 = some (v, σ')) : CT Γ MD_Ne_spell yX2_spell [.long x0, va_rf x2] σ (some (.int v), σ') := by
  refine CT.of (L := [(0, .long x0), (2, va_rf x2)]) rfl (by decide) (fun h => Bool.noConfusion (show false = true from h)) (by cases x2 <;> exact Nat.le_of_ble_eq_true rfl) (by cases x2 <;> rfl) ?_
  unfold Ne_spell at hf
  generalize hr : mkR Γ σ (some (.int v)) σ' = r
  refine r_lload_n 0 dX2_spell_0 rfl rfl ?_
  refine r_lstore_n (i := 3) (L' := [(3, .long x0), (0, .long x0), (2, va_rf x2)]) dX2_spell_1 rfl (show 4 < 7 by decide) (by simp [List.filter, cat_rf, cat_i, cat_l]) ?_
  refine r_iconst (0 : Int32) dX2_spell_2 (by decide) ?_
  refine r_istore (L' := [(5, _), (3, _), (0, _), (2, _)]) dX2_spell_3 (show 5 < 7 by decide) rfl ?_
  refine r_aload_n 3 dX2_spell_5 rfl rfl ?_
  refine r_alen hf dX2_spell_6 (by decide) (fun v1 ev1 hf => ?_)
  refine r_bipush (12 : Int32) dX2_spell_7 (by decide) ?_
  refine r_mmin dX2_spell_9 ww_972 ww_439 ww_103 ww_440 (by decide) (Nat.le_of_ble_eq_true rfl) ?_
  refine r_iconst (1 : Int32) dX2_spell_12 (by decide) ?_
  refine r_isub dX2_spell_13 ?_
  refine r_istore (L' := [(6, _), (5, _), (3, _), (0, _), (2, _)]) dX2_spell_14 (show 6 < 7 by decide) rfl ?_
  refine bnd hf (fun t7 et7 hf => ?_)
  refine r_sub (L' := [(2, _), (3, _), (5, _), (6, _)]) [4, 2, 1, 0] rfl ?_
  refine x_Ne_spell_l16 ?_ _ et7
  · intro z8 hz8
    subst hz8
    refine r_iload 0 dX2_spell_53 rfl ?_
    exact r_iret rfl dX2_spell_55 (by obtain ⟨h1, h2⟩ := Prod.mk.inj (Option.some.inj hf); subst h1; subst h2; exact hr.symm)
/-! SearchEngine$Segment.termsOf -/
noncomputable def Se_termsOf_ (σ : Mem) (th : Nat) (x1 : Int32) : Option (Option Nat) :=
  if ¬ x1 = 0 then
    (ldR σ 6 3 (some th)).bind fun v2 =>
    some v2
  else
    (ldR σ 6 2 (some th)).bind fun v3 =>
    some v3
set_option maxRecDepth 100000 in
set_option maxHeartbeats 4000000 in
theorem t_Se_termsOf_ {Γ : W0} {σ : Mem} {th : Nat} {x1 : Int32} {v : Option Nat} (hf : Se_termsOf_ σ th x1 = some v) : CT Γ MD_Se_termsOf_ yX6_termsOf_ [va_rf (some th), .int x1] σ (some (va_rf v), σ) := by
  refine CT.of (L := [(0, va_rf (some th)), (1, .int x1)]) rfl (by decide) (fun h => Bool.noConfusion (show false = true from h)) (Nat.le_of_ble_eq_true rfl) rfl ?_
  unfold Se_termsOf_ at hf
  generalize hr : mkR Γ σ (some (va_rf v)) σ = r
  refine r_iload_n 1 dX6_termsOf__0 rfl rfl ?_
  refine r_if_ne 11 hf dX6_termsOf__1 (by decide) (fun c1 hf => ?_) (fun c1 hf => ?_)
  · refine r_aload_n 0 dX6_termsOf__11 rfl rfl ?_
    refine r_ldR hf dX6_termsOf__12 fl_RX6_43 rfl (fun v2 ev2 hf => ?_)
    exact r_aret rfl (Or.inl ⟨_, rfl⟩) dX6_termsOf__15 (by have h1 := (Option.some.inj hf); subst h1; exact hr.symm)
  · refine r_aload_n 0 dX6_termsOf__4 rfl rfl ?_
    refine r_ldR hf dX6_termsOf__5 fl_RX6_39 rfl (fun v3 ev3 hf => ?_)
    refine r_goto 15 dX6_termsOf__8 (by decide) ?_
    exact r_aret rfl (Or.inl ⟨_, rfl⟩) dX6_termsOf__15 (by have h1 := (Option.some.inj hf); subst h1; exact hr.symm)
/-! SearchEngine$View.termsOf -/
noncomputable def Vi_termsOf (σ : Mem) (th : Nat) (x1 : Int32) (x2 : Int32) : Option (Option Nat) :=
  if x1 < 0 then
    some none
  else
    (ldI σ 9 2 (some th)).bind fun v2 =>
    if v2 ≤ x1 then
      some none
    else
      (ldR σ 9 1 (some th)).bind fun v4 =>
      (raR σ 5 v4 x1).bind fun v5 =>
      if v5 = none then
        some none
      else
        (ldR σ 9 1 (some th)).bind fun v7 =>
        (raR σ 5 v7 x1).bind fun v8 =>
        (chk σ 6 v8).bind fun a9 =>
        (Se_termsOf_ σ a9 x2).bind fun v10 =>
        some v10
set_option maxRecDepth 100000 in
set_option maxHeartbeats 4000000 in
theorem t_Vi_termsOf {Γ : W0} {σ : Mem} {th : Nat} {x1 : Int32} {x2 : Int32} {v : Option Nat} (hf : Vi_termsOf σ th x1 x2 = some v) : CT Γ MD_Vi_termsOf yX9_termsOf [va_rf (some th), .int x1, .int x2] σ (some (va_rf v), σ) := by
  refine CT.of (L := [(0, va_rf (some th)), (1, .int x1), (2, .int x2)]) rfl (by decide) (fun h => Bool.noConfusion (show false = true from h)) (Nat.le_of_ble_eq_true rfl) rfl ?_
  unfold Vi_termsOf at hf
  generalize hr : mkR Γ σ (some (va_rf v)) σ = r
  refine r_iload_n 1 dX9_termsOf_0 rfl rfl ?_
  refine r_if_lt 21 hf dX9_termsOf_1 (by decide) (fun c1 hf => ?_) (fun c1 hf => ?_)
  · refine r_null dX9_termsOf_21 ?_
    exact r_aret rfl (Or.inl ⟨_, rfl⟩) dX9_termsOf_22 (by have h1 := (Option.some.inj hf); subst h1; exact hr.symm)
  · refine r_iload_n 1 dX9_termsOf_4 rfl rfl ?_
    refine r_aload_n 0 dX9_termsOf_5 rfl rfl ?_
    refine r_ldI hf dX9_termsOf_6 fl_RX9_31 rfl (fun v2 ev2 hf => ?_)
    refine r_icmp_ge 21 hf dX9_termsOf_9 (by decide) (fun c3 hf => ?_) (fun c3 hf => ?_)
    · refine r_null dX9_termsOf_21 ?_
      exact r_aret rfl (Or.inl ⟨_, rfl⟩) dX9_termsOf_22 (by have h1 := (Option.some.inj hf); subst h1; exact hr.symm)
    · refine r_aload_n 0 dX9_termsOf_12 rfl rfl ?_
      refine r_ldR hf dX9_termsOf_13 fl_RX9_11 rfl (fun v4 ev4 hf => ?_)
      refine r_iload_n 1 dX9_termsOf_16 rfl rfl ?_
      refine r_raR hf dX9_termsOf_17 (by decide) (by decide) (fun v5 ev5 hf => ?_)
      refine r_ifnonnull 23 hf dX9_termsOf_18 (by decide) (fun c6 hf => ?_) (fun c6 hf => ?_)
      · refine r_null dX9_termsOf_21 ?_
        exact r_aret rfl (Or.inl ⟨_, rfl⟩) dX9_termsOf_22 (by have h1 := (Option.some.inj hf); subst h1; exact hr.symm)
      · refine r_aload_n 0 dX9_termsOf_23 rfl rfl ?_
        refine r_ldR hf dX9_termsOf_24 fl_RX9_11 rfl (fun v7 ev7 hf => ?_)
        refine r_iload_n 1 dX9_termsOf_27 rfl rfl ?_
        refine r_raR hf dX9_termsOf_28 (by decide) (by decide) (fun v8 ev8 hf => ?_)
        refine r_iload_n 2 dX9_termsOf_29 rfl rfl ?_
        refine r_chk hf (fun a9 xa9 ta9 hf => ?_)
        refine bnd hf (fun v10 ev10 hf => ?_)
        refine r_callVr (ci := 6) xa9 dX9_termsOf_30 cs_RX9_49 ww_802 ww_803 (by decide) ta9 (by decide) rfl (rest := []) rfl (Or.inl (Nat.le_of_ble_eq_true rfl)) (t_Se_termsOf_ ev10) ?_
        exact r_aret rfl (Or.inl ⟨_, rfl⟩) dX9_termsOf_33 (by have h1 := (Option.some.inj hf); subst h1; exact hr.symm)
/-! SearchEngine$Vocabulary.size -/
noncomputable def Vo_size (σ : Mem) (th : Nat) : Option Int32 :=
  (ldR σ 10 0 (some th)).bind fun v1 =>
  (alen σ 1 v1).bind fun v2 =>
  some v2
set_option maxRecDepth 100000 in
set_option maxHeartbeats 4000000 in
theorem t_Vo_size {Γ : W0} {σ : Mem} {th : Nat} {v : Int32} (hf : Vo_size σ th = some v) : CT Γ MD_Vo_size yX10_size [va_rf (some th)] σ (some (.int v), σ) := by
  refine CT.of (L := [(0, va_rf (some th))]) rfl (by decide) (fun h => Bool.noConfusion (show false = true from h)) (Nat.le_of_ble_eq_true rfl) rfl ?_
  unfold Vo_size at hf
  generalize hr : mkR Γ σ (some (.int v)) σ = r
  refine r_aload_n 0 dX10_size_0 rfl rfl ?_
  refine r_ldR hf dX10_size_1 fl_RX10_17 rfl (fun v1 ev1 hf => ?_)
  refine r_alen hf dX10_size_4 (by decide) (fun v2 ev2 hf => ?_)
  exact r_iret rfl dX10_size_5 (by have h1 := (Option.some.inj hf); subst h1; exact hr.symm)
/-! SearchEngine$Vocabulary.termAt -/
noncomputable def Vo_termAt (σ : Mem) (th : Nat) (x1 : Int32) : Option Int64 :=
  if x1 < 0 then
    some (0 : Int64)
  else
    (ldR σ 10 0 (some th)).bind fun v2 =>
    (alen σ 1 v2).bind fun v3 =>
    if v3 ≤ x1 then
      some (0 : Int64)
    else
      (ldR σ 10 0 (some th)).bind fun v5 =>
      (raL σ 1 v5 x1).bind fun v6 =>
      some v6
set_option maxRecDepth 100000 in
set_option maxHeartbeats 4000000 in
theorem t_Vo_termAt {Γ : W0} {σ : Mem} {th : Nat} {x1 : Int32} {v : Int64} (hf : Vo_termAt σ th x1 = some v) : CT Γ MD_Vo_termAt yX10_termAt [va_rf (some th), .int x1] σ (some (.long v), σ) := by
  refine CT.of (L := [(0, va_rf (some th)), (1, .int x1)]) rfl (by decide) (fun h => Bool.noConfusion (show false = true from h)) (Nat.le_of_ble_eq_true rfl) rfl ?_
  unfold Vo_termAt at hf
  generalize hr : mkR Γ σ (some (.long v)) σ = r
  refine r_iload_n 1 dX10_termAt_0 rfl rfl ?_
  refine r_if_lt 22 hf dX10_termAt_1 (by decide) (fun c1 hf => ?_) (fun c1 hf => ?_)
  · refine r_lconst (0 : Int64) dX10_termAt_22 (by decide) ?_
    exact r_lret rfl dX10_termAt_23 (by have h1 := (Option.some.inj hf); subst h1; exact hr.symm)
  · refine r_iload_n 1 dX10_termAt_4 rfl rfl ?_
    refine r_aload_n 0 dX10_termAt_5 rfl rfl ?_
    refine r_ldR hf dX10_termAt_6 fl_RX10_17 rfl (fun v2 ev2 hf => ?_)
    refine r_alen hf dX10_termAt_9 (by decide) (fun v3 ev3 hf => ?_)
    refine r_icmp_ge 22 hf dX10_termAt_10 (by decide) (fun c4 hf => ?_) (fun c4 hf => ?_)
    · refine r_lconst (0 : Int64) dX10_termAt_22 (by decide) ?_
      exact r_lret rfl dX10_termAt_23 (by have h1 := (Option.some.inj hf); subst h1; exact hr.symm)
    · refine r_aload_n 0 dX10_termAt_13 rfl rfl ?_
      refine r_ldR hf dX10_termAt_14 fl_RX10_17 rfl (fun v5 ev5 hf => ?_)
      refine r_iload_n 1 dX10_termAt_17 rfl rfl ?_
      refine r_raL hf dX10_termAt_18 (fun v6 ev6 hf => ?_)
      refine r_goto 23 dX10_termAt_19 (by decide) ?_
      exact r_lret rfl dX10_termAt_23 (by have h1 := (Option.some.inj hf); subst h1; exact hr.symm)
/-! SearchEngine$Neighbour.editsTo -/
noncomputable def Ne_editsTo_l27 (σ : Mem) (th : Nat) (x3 : Int32) (x4 : Int32) : Option ((Int32 × Mem) ⊕ Mem) :=
  if x3 < x4 then
    some (Sum.inr σ)
  else
    (ldR σ 2 7 (some th)).bind fun v6 =>
    (waI σ 0 v6 x4 x4).bind fun m7 =>
    some (Sum.inl ((x4 + (1 : Int32)), m7))
noncomputable def Ne_editsTo_l79 (σ : Mem) (th : Nat) (x3 : Int32) (x4 : Int32) (x5 : Int32) (x6 : Int32) : Option ((Int32 × Int32 × Mem) ⊕ Mem) :=
  if x3 < x6 then
    some (Sum.inr σ)
  else
    (ldR σ 2 4 (some th)).bind fun v17 =>
    (raI σ 0 v17 (x4 - (1 : Int32))).bind fun v18 =>
    (ldR σ 2 6 (some th)).bind fun v19 =>
    (raI σ 0 v19 (x6 - (1 : Int32))).bind fun v20 =>
    Option.bind (
      if ¬ v18 = v20 then
        some (1 : Int32)
      else
        some (0 : Int32)) fun q21 =>
    (ldR σ 2 7 (some th)).bind fun v23 =>
    (raI σ 0 v23 x6).bind fun v24 =>
    (ldR σ 2 7 (some th)).bind fun v25 =>
    (ldR σ 2 7 (some th)).bind fun v26 =>
    (raI σ 0 v26 x6).bind fun v27 =>
    (ldR σ 2 7 (some th)).bind fun v28 =>
    (raI σ 0 v28 (x6 - (1 : Int32))).bind fun v29 =>
    (waI σ 0 v25 x6 (minI (x5 + q21) ((1 : Int32) + (minI v27 v29)))).bind fun m30 =>
    some (Sum.inl (v24, (x6 + (1 : Int32)), m30))
noncomputable def Ne_editsTo_l51 (σ : Mem) (th : Nat) (x3 : Int32) (x4 : Int32) : Option ((Int32 × Mem) ⊕ Mem) :=
  (ldI σ 2 5 (some th)).bind fun v10 =>
  if v10 < x4 then
    some (Sum.inr σ)
  else
    (ldR σ 2 7 (some th)).bind fun v12 =>
    (raI σ 0 v12 (0 : Int32)).bind fun v13 =>
    (ldR σ 2 7 (some th)).bind fun v14 =>
    (waI σ 0 v14 (0 : Int32) x4).bind fun m15 =>
    (lp (fun q => Ne_editsTo_l79 q.2.2 th x3 x4 q.1 q.2.1) (v13, (1 : Int32), m15)).bind fun z32 =>
    some (Sum.inl ((x4 + (1 : Int32)), z32))
noncomputable def Ne_editsTo (σ : Mem) (th : Nat) (x1 : Int64) : Option (Int32 × Mem) :=
  (ldR σ 2 6 (some th)).bind fun v1 =>
  (Ne_spell σ x1 v1).bind fun v2 =>
  (ldI v2.2 2 5 (some th)).bind fun v3 =>
  if (absI (v2.1 - v3)) ≤ (2 : Int32) then
    (lp (fun q => Ne_editsTo_l27 q.2 th v2.1 q.1) ((0 : Int32), v2.2)).bind fun z9 =>
    (lp (fun q => Ne_editsTo_l51 q.2 th v2.1 q.1) ((1 : Int32), z9)).bind fun z34 =>
    (ldR z34 2 7 (some th)).bind fun v35 =>
    (raI z34 0 v35 v2.1).bind fun v36 =>
    some (v36, z34)
  else
    some ((3 : Int32), v2.2)
set_option maxRecDepth 100000 in
set_option maxHeartbeats 4000000 in
theorem x_Ne_editsTo_l27 {Γ : W0} {σ0 : Mem} {r : RT} {th : Nat} {x3 : Int32} {t : Mem} (hk0 : ∀ z : Mem, z = t → V Γ MD_Ne_editsTo σ0 r z 48 [(0, va_rf (some th)), (3, .int x3)] []) : ∀ q : Int32 × Mem, lp (fun q => Ne_editsTo_l27 q.2 th x3 q.1) q = some t → V Γ MD_Ne_editsTo σ0 r q.2 27 [(0, va_rf (some th)), (3, .int x3), (4, .int q.1)] [] := by
  refine lp_ind (fun (q : Int32 × Mem) => V Γ MD_Ne_editsTo σ0 r q.2 27 [(0, va_rf (some th)), (3, .int x3), (4, .int q.1)] []) (fun q x hf ih ho => ?_)
  obtain ⟨x4, σ⟩ := q
  show V Γ MD_Ne_editsTo σ0 r σ 27 [(0, va_rf (some th)), (3, .int x3), (4, .int x4)] []
  replace hf : Ne_editsTo_l27 σ th x3 x4 = some x := hf
  unfold Ne_editsTo_l27 at hf
  refine r_iload 2 dX2_editsTo_27 rfl ?_
  refine r_iload_n 1 dX2_editsTo_29 rfl rfl ?_
  refine r_icmp_gt 48 hf dX2_editsTo_30 (by decide) (fun c5 hf => ?_) (fun c5 hf => ?_)
  · refine r_sub (L' := [(0, _), (3, _)]) [0, 1] rfl ?_
    exact hk0 _ (ho _ (Option.some.inj hf).symm)
  · refine r_aload_n 0 dX2_editsTo_33 rfl rfl ?_
    refine r_ldR hf dX2_editsTo_34 fl_RX2_20 rfl (fun v6 ev6 hf => ?_)
    refine r_iload 2 dX2_editsTo_37 rfl ?_
    refine r_iload 2 dX2_editsTo_39 rfl ?_
    refine r_waI hf dX2_editsTo_41 (fun m7 em7 hf => ?_)
    refine r_iinc (1 : Int32) (L' := [(4, _), (0, _), (3, _)]) 2 dX2_editsTo_42 rfl (by decide) (show 4 < 8 by decide) rfl ?_
    refine r_goto 27 dX2_editsTo_45 (by decide) ?_
    refine r_sub (L' := [(0, _), (3, _), (4, _)]) [1, 2, 0] rfl ?_
    exact ih _ (Option.some.inj hf).symm
set_option maxRecDepth 100000 in
set_option maxHeartbeats 4000000 in
theorem x_Ne_editsTo_l79 {Γ : W0} {σ0 : Mem} {r : RT} {th : Nat} {x3 : Int32} {x4 : Int32} {t : Mem} (hk0 : ∀ z : Mem, z = t → V Γ MD_Ne_editsTo σ0 r z 164 [(0, va_rf (some th)), (3, .int x3), (4, .int x4)] []) : ∀ q : Int32 × Int32 × Mem, lp (fun q => Ne_editsTo_l79 q.2.2 th x3 x4 q.1 q.2.1) q = some t → V Γ MD_Ne_editsTo σ0 r q.2.2 79 [(0, va_rf (some th)), (3, .int x3), (4, .int x4), (5, .int q.1), (6, .int q.2.1)] [] := by
  refine lp_ind (fun (q : Int32 × Int32 × Mem) => V Γ MD_Ne_editsTo σ0 r q.2.2 79 [(0, va_rf (some th)), (3, .int x3), (4, .int x4), (5, .int q.1), (6, .int q.2.1)] []) (fun q x hf ih ho => ?_)
  obtain ⟨x5, x6, σ⟩ := q
  show V Γ MD_Ne_editsTo σ0 r σ 79 [(0, va_rf (some th)), (3, .int x3), (4, .int x4), (5, .int x5), (6, .int x6)] []
  replace hf : Ne_editsTo_l79 σ th x3 x4 x5 x6 = some x := hf
  unfold Ne_editsTo_l79 at hf
  refine r_iload 4 dX2_editsTo_79 rfl ?_
  refine r_iload_n 1 dX2_editsTo_81 rfl rfl ?_
  refine r_icmp_gt 164 hf dX2_editsTo_82 (by decide) (fun c16 hf => ?_) (fun c16 hf => ?_)
  · refine r_sub (L' := [(0, _), (3, _), (4, _)]) [0, 1, 2] rfl ?_
    exact hk0 _ (ho _ (Option.some.inj hf).symm)
  · refine r_iload 3 dX2_editsTo_85 rfl ?_
    refine r_aload_n 0 dX2_editsTo_87 rfl rfl ?_
    refine r_ldR hf dX2_editsTo_88 fl_RX2_11 rfl (fun v17 ev17 hf => ?_)
    refine r_iload 2 dX2_editsTo_91 rfl ?_
    refine r_iconst (1 : Int32) dX2_editsTo_93 (by decide) ?_
    refine r_isub dX2_editsTo_94 ?_
    refine r_raI hf dX2_editsTo_95 (fun v18 ev18 hf => ?_)
    refine r_aload_n 0 dX2_editsTo_96 rfl rfl ?_
    refine r_ldR hf dX2_editsTo_97 fl_RX2_17 rfl (fun v19 ev19 hf => ?_)
    refine r_iload 4 dX2_editsTo_100 rfl ?_
    refine r_iconst (1 : Int32) dX2_editsTo_102 (by decide) ?_
    refine r_isub dX2_editsTo_103 ?_
    refine r_raI hf dX2_editsTo_104 (fun v20 ev20 hf => ?_)
    refine r_bd (fun (q21 : Int32) => V Γ MD_Ne_editsTo σ0 r σ 113 [(0, va_rf (some th)), (3, .int x3), (4, .int x4), (6, .int x6)] [.int q21, .int x5]) hf (fun q21 hf => ?_) (fun yq21 hf kq21 => ?_)
    · refine r_iadd dX2_editsTo_113 ?_
      refine r_istore (L' := [(7, _), (0, _), (3, _), (4, _), (6, _)]) dX2_editsTo_114 (show 7 < 8 by decide) rfl ?_
      refine r_aload_n 1 dX2_editsTo_116 rfl rfl ?_
      refine r_ldR hf dX2_editsTo_117 fl_RX2_20 rfl (fun v23 ev23 hf => ?_)
      refine r_iload 4 dX2_editsTo_120 rfl ?_
      refine r_raI hf dX2_editsTo_122 (fun v24 ev24 hf => ?_)
      refine r_istore (L' := [(5, _), (7, _), (0, _), (3, _), (4, _), (6, _)]) dX2_editsTo_123 (show 5 < 8 by decide) rfl ?_
      refine r_aload_n 2 dX2_editsTo_125 rfl rfl ?_
      refine r_ldR hf dX2_editsTo_126 fl_RX2_20 rfl (fun v25 ev25 hf => ?_)
      refine r_iload 5 dX2_editsTo_129 rfl ?_
      refine r_iload 1 dX2_editsTo_131 rfl ?_
      refine r_iconst (1 : Int32) dX2_editsTo_133 (by decide) ?_
      refine r_aload_n 2 dX2_editsTo_134 rfl rfl ?_
      refine r_ldR hf dX2_editsTo_135 fl_RX2_20 rfl (fun v26 ev26 hf => ?_)
      refine r_iload 5 dX2_editsTo_138 rfl ?_
      refine r_raI hf dX2_editsTo_140 (fun v27 ev27 hf => ?_)
      refine r_aload_n 2 dX2_editsTo_141 rfl rfl ?_
      refine r_ldR hf dX2_editsTo_142 fl_RX2_20 rfl (fun v28 ev28 hf => ?_)
      refine r_iload 5 dX2_editsTo_145 rfl ?_
      refine r_iconst (1 : Int32) dX2_editsTo_147 (by decide) ?_
      refine r_isub dX2_editsTo_148 ?_
      refine r_raI hf dX2_editsTo_149 (fun v29 ev29 hf => ?_)
      refine r_mmin dX2_editsTo_150 ww_972 ww_439 ww_103 ww_440 (by decide) (Nat.le_of_ble_eq_true rfl) ?_
      refine r_iadd dX2_editsTo_153 ?_
      refine r_mmin dX2_editsTo_154 ww_972 ww_439 ww_103 ww_440 (by decide) (Nat.le_of_ble_eq_true rfl) ?_
      refine r_waI hf dX2_editsTo_157 (fun m30 em30 hf => ?_)
      refine r_iinc (1 : Int32) (L' := [(6, _), (5, _), (7, _), (0, _), (3, _), (4, _)]) 5 dX2_editsTo_158 rfl (by decide) (show 6 < 8 by decide) rfl ?_
      refine r_goto 79 dX2_editsTo_161 (by decide) ?_
      refine r_sub (L' := [(0, _), (3, _), (4, _), (5, _), (6, _)]) [3, 4, 5, 1, 0] rfl ?_
      exact ih _ (Option.some.inj hf).symm
    · refine r_icmp_ne 112 hf dX2_editsTo_105 (by decide) (fun c22 hf => ?_) (fun c22 hf => ?_)
      · refine r_iconst (1 : Int32) dX2_editsTo_112 (by decide) ?_
        refine r_sub (L' := [(0, _), (3, _), (4, _), (6, _)]) [0, 1, 2, 4] rfl ?_
        cases (Option.some.inj hf)
        exact kq21
      · refine r_iconst (0 : Int32) dX2_editsTo_108 (by decide) ?_
        refine r_goto 113 dX2_editsTo_109 (by decide) ?_
        refine r_sub (L' := [(0, _), (3, _), (4, _), (6, _)]) [0, 1, 2, 4] rfl ?_
        cases (Option.some.inj hf)
        exact kq21
set_option maxRecDepth 100000 in
set_option maxHeartbeats 4000000 in
theorem x_Ne_editsTo_l51 {Γ : W0} {σ0 : Mem} {r : RT} {th : Nat} {x3 : Int32} {t : Mem} (hk0 : ∀ z : Mem, z = t → V Γ MD_Ne_editsTo σ0 r z 170 [(0, va_rf (some th)), (3, .int x3)] []) : ∀ q : Int32 × Mem, lp (fun q => Ne_editsTo_l51 q.2 th x3 q.1) q = some t → V Γ MD_Ne_editsTo σ0 r q.2 51 [(0, va_rf (some th)), (3, .int x3), (4, .int q.1)] [] := by
  refine lp_ind (fun (q : Int32 × Mem) => V Γ MD_Ne_editsTo σ0 r q.2 51 [(0, va_rf (some th)), (3, .int x3), (4, .int q.1)] []) (fun q x hf ih ho => ?_)
  obtain ⟨x4, σ⟩ := q
  show V Γ MD_Ne_editsTo σ0 r σ 51 [(0, va_rf (some th)), (3, .int x3), (4, .int x4)] []
  replace hf : Ne_editsTo_l51 σ th x3 x4 = some x := hf
  unfold Ne_editsTo_l51 at hf
  refine r_iload 2 dX2_editsTo_51 rfl ?_
  refine r_aload_n 0 dX2_editsTo_53 rfl rfl ?_
  refine r_ldI hf dX2_editsTo_54 fl_RX2_31 rfl (fun v10 ev10 hf => ?_)
  refine r_icmp_gt 170 hf dX2_editsTo_57 (by decide) (fun c11 hf => ?_) (fun c11 hf => ?_)
  · refine r_sub (L' := [(0, _), (3, _)]) [0, 1] rfl ?_
    exact hk0 _ (ho _ (Option.some.inj hf).symm)
  · refine r_aload_n 0 dX2_editsTo_60 rfl rfl ?_
    refine r_ldR hf dX2_editsTo_61 fl_RX2_20 rfl (fun v12 ev12 hf => ?_)
    refine r_iconst (0 : Int32) dX2_editsTo_64 (by decide) ?_
    refine r_raI hf dX2_editsTo_65 (fun v13 ev13 hf => ?_)
    refine r_istore (L' := [(5, _), (0, _), (3, _), (4, _)]) dX2_editsTo_66 (show 5 < 8 by decide) rfl ?_
    refine r_aload_n 1 dX2_editsTo_68 rfl rfl ?_
    refine r_ldR hf dX2_editsTo_69 fl_RX2_20 rfl (fun v14 ev14 hf => ?_)
    refine r_iconst (0 : Int32) dX2_editsTo_72 (by decide) ?_
    refine r_iload 3 dX2_editsTo_73 rfl ?_
    refine r_waI hf dX2_editsTo_75 (fun m15 em15 hf => ?_)
    refine r_iconst (1 : Int32) dX2_editsTo_76 (by decide) ?_
    refine r_istore (L' := [(6, _), (5, _), (0, _), (3, _), (4, _)]) dX2_editsTo_77 (show 6 < 8 by decide) rfl ?_
    refine bnd hf (fun t31 et31 hf => ?_)
    refine r_sub (L' := [(0, _), (3, _), (4, _), (5, _), (6, _)]) [2, 3, 4, 1, 0] rfl ?_
    refine x_Ne_editsTo_l79 ?_ _ et31
    · intro z32 hz32
      subst hz32
      refine r_iinc (1 : Int32) (L' := [(4, _), (0, _), (3, _)]) 2 dX2_editsTo_164 rfl (by decide) (show 4 < 8 by decide) rfl ?_
      refine r_goto 51 dX2_editsTo_167 (by decide) ?_
      refine r_sub (L' := [(0, _), (3, _), (4, _)]) [1, 2, 0] rfl ?_
      exact ih _ (Option.some.inj hf).symm
set_option maxRecDepth 100000 in
set_option maxHeartbeats 4000000 in
theorem t_Ne_editsTo {Γ : W0} {σ : Mem} {th : Nat} {x1 : Int64} {v : Int32} {σ' : Mem} (hf : Ne_editsTo σ th x1 = some (v, σ')) : CT Γ MD_Ne_editsTo yX2_editsTo [va_rf (some th), .long x1] σ (some (.int v), σ') := by
  refine CT.of (L := [(0, va_rf (some th)), (1, .long x1)]) rfl (by decide) (fun h => Bool.noConfusion (show false = true from h)) (Nat.le_of_ble_eq_true rfl) rfl ?_
  unfold Ne_editsTo at hf
  generalize hr : mkR Γ σ (some (.int v)) σ' = r
  refine r_lload_n 1 dX2_editsTo_0 rfl rfl ?_
  refine r_aload_n 0 dX2_editsTo_1 rfl rfl ?_
  refine r_ldR hf dX2_editsTo_2 fl_RX2_17 rfl (fun v1 ev1 hf => ?_)
  refine bnd hf (fun v2 ev2 hf => ?_)
  refine r_callSr dX2_editsTo_5 cs_RX2_27 ww_970 (by decide) rfl (rest := []) rfl (Or.inl (Nat.le_of_ble_eq_true rfl)) (t_Ne_spell ev2) ?_
  refine r_istore_n (L' := [(3, _), (0, _), (1, _)]) dX2_editsTo_8 rfl (show 3 < 8 by decide) rfl ?_
  refine r_iload_n 0 dX2_editsTo_9 rfl rfl ?_
  refine r_aload_n 1 dX2_editsTo_10 rfl rfl ?_
  refine r_ldI hf dX2_editsTo_11 fl_RX2_31 rfl (fun v3 ev3 hf => ?_)
  refine r_isub dX2_editsTo_14 ?_
  refine r_mabs dX2_editsTo_15 ww_985 ww_986 ww_103 ww_987 (by decide) (Nat.le_of_ble_eq_true rfl) ?_
  refine r_iconst (2 : Int32) dX2_editsTo_18 (by decide) ?_
  refine r_icmp_le 24 hf dX2_editsTo_19 (by decide) (fun c4 hf => ?_) (fun c4 hf => ?_)
  · refine r_iconst (0 : Int32) dX2_editsTo_24 (by decide) ?_
    refine r_istore (L' := [(4, _), (3, _), (0, _), (1, _)]) dX2_editsTo_25 (show 4 < 8 by decide) rfl ?_
    refine bnd hf (fun t8 et8 hf => ?_)
    refine r_sub (L' := [(0, _), (3, _), (4, _)]) [2, 1, 0] rfl ?_
    refine x_Ne_editsTo_l27 ?_ _ et8
    · intro z9 hz9
      subst hz9
      refine r_iconst (1 : Int32) dX2_editsTo_48 (by decide) ?_
      refine r_istore (L' := [(4, _), (0, _), (3, _)]) dX2_editsTo_49 (show 4 < 8 by decide) rfl ?_
      refine bnd hf (fun t33 et33 hf => ?_)
      refine r_sub (L' := [(0, _), (3, _), (4, _)]) [1, 2, 0] rfl ?_
      refine x_Ne_editsTo_l51 ?_ _ et33
      · intro z34 hz34
        subst hz34
        refine r_aload_n 0 dX2_editsTo_170 rfl rfl ?_
        refine r_ldR hf dX2_editsTo_171 fl_RX2_20 rfl (fun v35 ev35 hf => ?_)
        refine r_iload_n 1 dX2_editsTo_174 rfl rfl ?_
        refine r_raI hf dX2_editsTo_175 (fun v36 ev36 hf => ?_)
        exact r_iret rfl dX2_editsTo_176 (by obtain ⟨h1, h2⟩ := Prod.mk.inj (Option.some.inj hf); subst h1; subst h2; exact hr.symm)
  · refine r_iconst (3 : Int32) dX2_editsTo_22 (by decide) ?_
    exact r_iret rfl dX2_editsTo_23 (by obtain ⟨h1, h2⟩ := Prod.mk.inj (Option.some.inj hf); subst h1; subst h2; exact hr.symm)
/-! SearchEngine$Vocabulary.placeOf -/
noncomputable def Vo_placeOf_l12 (σ : Mem) (th : Nat) (x1 : Int64) (x3 : Int32) (x4 : Int32) (x5 : Int32) : Option ((Int32 × Int32 × Int32) ⊕ Int32) :=
  if (31 : Int32) ≤ x5 then
    some (Sum.inr x3)
  else
    if x4 ≤ x3 then
      some (Sum.inr x3)
    else
      (ldR σ 10 0 (some th)).bind fun v5 =>
      (raL σ 1 v5 (ushrI (x3 + x4) (1 : Int32))).bind fun v6 =>
      Option.bind (
        if x1 ≤ v6 then
          some (x3, (ushrI (x3 + x4) (1 : Int32)))
        else
          some (((ushrI (x3 + x4) (1 : Int32)) + (1 : Int32)), x4)) fun q7 =>
      some (Sum.inl (q7.1, q7.2, (x5 + (1 : Int32))))
noncomputable def Vo_placeOf (σ : Mem) (th : Nat) (x1 : Int64) : Option Int32 :=
  (ldR σ 10 0 (some th)).bind fun v1 =>
  (alen σ 1 v1).bind fun v2 =>
  (lp (fun q => Vo_placeOf_l12 σ th x1 q.1 q.2.1 q.2.2) ((0 : Int32), v2, (0 : Int32))).bind fun z10 =>
  some z10
set_option maxRecDepth 100000 in
set_option maxHeartbeats 4000000 in
theorem x_Vo_placeOf_l12 {Γ : W0} {σ0 : Mem} {r : RT} {σ : Mem} {th : Nat} {x1 : Int64} {t : Int32} (hk0 : ∀ z : Int32, z = t → V Γ MD_Vo_placeOf σ0 r σ 63 [(3, .int z)] []) : ∀ q : Int32 × Int32 × Int32, lp (fun q => Vo_placeOf_l12 σ th x1 q.1 q.2.1 q.2.2) q = some t → V Γ MD_Vo_placeOf σ0 r σ 12 [(0, va_rf (some th)), (1, .long x1), (3, .int q.1), (4, .int q.2.1), (5, .int q.2.2)] [] := by
  refine lp_ind (fun (q : Int32 × Int32 × Int32) => V Γ MD_Vo_placeOf σ0 r σ 12 [(0, va_rf (some th)), (1, .long x1), (3, .int q.1), (4, .int q.2.1), (5, .int q.2.2)] []) (fun q x hf ih ho => ?_)
  obtain ⟨x3, x4, x5⟩ := q
  show V Γ MD_Vo_placeOf σ0 r σ 12 [(0, va_rf (some th)), (1, .long x1), (3, .int x3), (4, .int x4), (5, .int x5)] []
  replace hf : Vo_placeOf_l12 σ th x1 x3 x4 x5 = some x := hf
  unfold Vo_placeOf_l12 at hf
  refine r_iload 4 dX10_placeOf_12 rfl ?_
  refine r_bipush (31 : Int32) dX10_placeOf_14 (by decide) ?_
  refine r_icmp_ge 63 hf dX10_placeOf_16 (by decide) (fun c3 hf => ?_) (fun c3 hf => ?_)
  · refine r_sub (L' := [(3, _)]) [2] rfl ?_
    exact hk0 _ (ho _ (Option.some.inj hf).symm)
  · refine r_iload_n 2 dX10_placeOf_19 rfl rfl ?_
    refine r_iload 3 dX10_placeOf_20 rfl ?_
    refine r_icmp_ge 63 hf dX10_placeOf_22 (by decide) (fun c4 hf => ?_) (fun c4 hf => ?_)
    · refine r_sub (L' := [(3, _)]) [2] rfl ?_
      exact hk0 _ (ho _ (Option.some.inj hf).symm)
    · refine r_iload_n 2 dX10_placeOf_25 rfl rfl ?_
      refine r_iload 3 dX10_placeOf_26 rfl ?_
      refine r_iadd dX10_placeOf_28 ?_
      refine r_iconst (1 : Int32) dX10_placeOf_29 (by decide) ?_
      refine r_iushr dX10_placeOf_30 ?_
      refine r_istore (L' := [(6, _), (0, _), (1, _), (3, _), (4, _), (5, _)]) dX10_placeOf_31 (show 6 < 7 by decide) rfl ?_
      refine r_aload_n 1 dX10_placeOf_33 rfl rfl ?_
      refine r_ldR hf dX10_placeOf_34 fl_RX10_17 rfl (fun v5 ev5 hf => ?_)
      refine r_iload 0 dX10_placeOf_37 rfl ?_
      refine r_raL hf dX10_placeOf_39 (fun v6 ev6 hf => ?_)
      refine r_lload_n 2 dX10_placeOf_40 rfl rfl ?_
      refine r_bd (fun (q7 : Int32 × Int32) => V Γ MD_Vo_placeOf σ0 r σ 57 [(0, va_rf (some th)), (1, .long x1), (3, .int q7.1), (4, .int q7.2), (5, .int x5)] []) hf (fun q7 hf => ?_) (fun yq7 hf kq7 => ?_)
      · refine r_iinc (1 : Int32) (L' := [(5, _), (0, _), (1, _), (3, _), (4, _)]) 4 dX10_placeOf_57 rfl (by decide) (show 5 < 7 by decide) rfl ?_
        refine r_goto 12 dX10_placeOf_60 (by decide) ?_
        refine r_sub (L' := [(0, _), (1, _), (3, _), (4, _), (5, _)]) [1, 2, 3, 4, 0] rfl ?_
        exact ih _ (Option.some.inj hf).symm
      · refine r_lcmp_ge 53 hf dX10_placeOf_41 dX10_placeOf_42 (by decide) (fun c8 hf => ?_) (fun c8 hf => ?_)
        · refine r_iload 0 dX10_placeOf_53 rfl ?_
          refine r_istore (L' := [(4, _), (6, _), (0, _), (1, _), (3, _), (5, _)]) dX10_placeOf_55 (show 4 < 7 by decide) rfl ?_
          refine r_sub (L' := [(0, _), (1, _), (3, _), (4, _), (5, _)]) [2, 3, 4, 0, 5] rfl ?_
          cases (Option.some.inj hf)
          exact kq7
        · refine r_iload 0 dX10_placeOf_45 rfl ?_
          refine r_iconst (1 : Int32) dX10_placeOf_47 (by decide) ?_
          refine r_iadd dX10_placeOf_48 ?_
          refine r_istore_n (L' := [(3, _), (6, _), (0, _), (1, _), (4, _), (5, _)]) dX10_placeOf_49 rfl (show 3 < 7 by decide) rfl ?_
          refine r_goto 57 dX10_placeOf_50 (by decide) ?_
          refine r_sub (L' := [(0, _), (1, _), (3, _), (4, _), (5, _)]) [2, 3, 0, 4, 5] rfl ?_
          cases (Option.some.inj hf)
          exact kq7
set_option maxRecDepth 100000 in
set_option maxHeartbeats 4000000 in
theorem t_Vo_placeOf {Γ : W0} {σ : Mem} {th : Nat} {x1 : Int64} {v : Int32} (hf : Vo_placeOf σ th x1 = some v) : CT Γ MD_Vo_placeOf yX10_placeOf [va_rf (some th), .long x1] σ (some (.int v), σ) := by
  refine CT.of (L := [(0, va_rf (some th)), (1, .long x1)]) rfl (by decide) (fun h => Bool.noConfusion (show false = true from h)) (Nat.le_of_ble_eq_true rfl) rfl ?_
  unfold Vo_placeOf at hf
  generalize hr : mkR Γ σ (some (.int v)) σ = r
  refine r_iconst (0 : Int32) dX10_placeOf_0 (by decide) ?_
  refine r_istore_n (L' := [(3, _), (0, _), (1, _)]) dX10_placeOf_1 rfl (show 3 < 7 by decide) rfl ?_
  refine r_aload_n 1 dX10_placeOf_2 rfl rfl ?_
  refine r_ldR hf dX10_placeOf_3 fl_RX10_17 rfl (fun v1 ev1 hf => ?_)
  refine r_alen hf dX10_placeOf_6 (by decide) (fun v2 ev2 hf => ?_)
  refine r_istore (L' := [(4, _), (3, _), (0, _), (1, _)]) dX10_placeOf_7 (show 4 < 7 by decide) rfl ?_
  refine r_iconst (0 : Int32) dX10_placeOf_9 (by decide) ?_
  refine r_istore (L' := [(5, _), (4, _), (3, _), (0, _), (1, _)]) dX10_placeOf_10 (show 5 < 7 by decide) rfl ?_
  refine bnd hf (fun t9 et9 hf => ?_)
  refine r_sub (L' := [(0, _), (1, _), (3, _), (4, _), (5, _)]) [3, 4, 2, 1, 0] rfl ?_
  refine x_Vo_placeOf_l12 ?_ _ et9
  · intro z10 hz10
    subst hz10
    refine r_iload_n 0 dX10_placeOf_63 rfl rfl ?_
    exact r_iret rfl dX10_placeOf_64 (by have h1 := (Option.some.inj hf); subst h1; exact hr.symm)
/-! SearchEngine$Vocabulary.countOf -/
noncomputable def Vo_countOf (σ : Mem) (th : Nat) (x1 : Int64) : Option Int32 :=
  (chk σ 10 (some th)).bind fun a1 =>
  (Vo_placeOf σ a1 x1).bind fun v2 =>
  (chk σ 10 (some th)).bind fun a3 =>
  (Vo_termAt σ a3 v2).bind fun v4 =>
  if ¬ v4 = x1 then
    some (0 : Int32)
  else
    (ldR σ 10 1 (some th)).bind fun v6 =>
    (alen σ 0 v6).bind fun v7 =>
    if v7 ≤ v2 then
      some (0 : Int32)
    else
      (ldR σ 10 1 (some th)).bind fun v9 =>
      (raI σ 0 v9 v2).bind fun v10 =>
      some v10
set_option maxRecDepth 100000 in
set_option maxHeartbeats 4000000 in
theorem t_Vo_countOf {Γ : W0} {σ : Mem} {th : Nat} {x1 : Int64} {v : Int32} (hf : Vo_countOf σ th x1 = some v) : CT Γ MD_Vo_countOf yX10_countOf [va_rf (some th), .long x1] σ (some (.int v), σ) := by
  refine CT.of (L := [(0, va_rf (some th)), (1, .long x1)]) rfl (by decide) (fun h => Bool.noConfusion (show false = true from h)) (Nat.le_of_ble_eq_true rfl) rfl ?_
  unfold Vo_countOf at hf
  generalize hr : mkR Γ σ (some (.int v)) σ = r
  refine r_aload_n 0 dX10_countOf_0 rfl rfl ?_
  refine r_lload_n 1 dX10_countOf_1 rfl rfl ?_
  refine r_chk hf (fun a1 xa1 ta1 hf => ?_)
  refine bnd hf (fun v2 ev2 hf => ?_)
  refine r_callVr (ci := 10) xa1 dX10_countOf_2 cs_RX10_25 ww_811 ww_28 (by decide) ta1 (by decide) rfl (rest := []) rfl (Or.inl (Nat.le_of_ble_eq_true rfl)) (t_Vo_placeOf ev2) ?_
  refine r_istore_n (L' := [(3, _), (0, _), (1, _)]) dX10_countOf_5 rfl (show 3 < 4 by decide) rfl ?_
  refine r_aload_n 1 dX10_countOf_6 rfl rfl ?_
  refine r_iload_n 0 dX10_countOf_7 rfl rfl ?_
  refine r_chk hf (fun a3 xa3 ta3 hf => ?_)
  refine bnd hf (fun v4 ev4 hf => ?_)
  refine r_callVr (ci := 10) xa3 dX10_countOf_8 cs_RX10_29 ww_595 ww_596 (by decide) ta3 (by decide) rfl (rest := []) rfl (Or.inl (Nat.le_of_ble_eq_true rfl)) (t_Vo_termAt ev4) ?_
  refine r_lload_n 2 dX10_countOf_11 rfl rfl ?_
  refine r_lcmp_ne 34 hf dX10_countOf_12 dX10_countOf_13 (by decide) (fun c5 hf => ?_) (fun c5 hf => ?_)
  · refine r_iconst (0 : Int32) dX10_countOf_34 (by decide) ?_
    exact r_iret rfl dX10_countOf_35 (by have h1 := (Option.some.inj hf); subst h1; exact hr.symm)
  · refine r_iload_n 0 dX10_countOf_16 rfl rfl ?_
    refine r_aload_n 1 dX10_countOf_17 rfl rfl ?_
    refine r_ldR hf dX10_countOf_18 fl_RX10_21 rfl (fun v6 ev6 hf => ?_)
    refine r_alen hf dX10_countOf_21 (by decide) (fun v7 ev7 hf => ?_)
    refine r_icmp_ge 34 hf dX10_countOf_22 (by decide) (fun c8 hf => ?_) (fun c8 hf => ?_)
    · refine r_iconst (0 : Int32) dX10_countOf_34 (by decide) ?_
      exact r_iret rfl dX10_countOf_35 (by have h1 := (Option.some.inj hf); subst h1; exact hr.symm)
    · refine r_aload_n 1 dX10_countOf_25 rfl rfl ?_
      refine r_ldR hf dX10_countOf_26 fl_RX10_21 rfl (fun v9 ev9 hf => ?_)
      refine r_iload_n 0 dX10_countOf_29 rfl rfl ?_
      refine r_raI hf dX10_countOf_30 (fun v10 ev10 hf => ?_)
      refine r_goto 35 dX10_countOf_31 (by decide) ?_
      exact r_iret rfl dX10_countOf_35 (by have h1 := (Option.some.inj hf); subst h1; exact hr.symm)
/-! SearchEngine$View.holders -/
noncomputable def Vi_holders_l6 (σ : Mem) (th : Nat) (x1 : Int32) (x2 : Int64) (x4 : Int32) (x5 : Int32) : Option ((Int32 × Int32) ⊕ Int32) :=
  (ldI σ 9 2 (some th)).bind fun v1 =>
  if v1 ≤ x5 then
    some (Sum.inr x4)
  else
    (chk σ 9 (some th)).bind fun a3 =>
    (Vi_termsOf σ a3 x5 x1).bind fun v4 =>
    Option.bind (
      if v4 = none then
        some x4
      else
        (chk σ 10 v4).bind fun a7 =>
        (Vo_countOf σ a7 x2).bind fun v8 =>
        some (x4 + v8)) fun q5 =>
    some (Sum.inl (q5, (x5 + (1 : Int32))))
noncomputable def Vi_holders (σ : Mem) (th : Nat) (x1 : Int32) (x2 : Int64) : Option Int32 :=
  (lp (fun q => Vi_holders_l6 σ th x1 x2 q.1 q.2) ((0 : Int32), (0 : Int32))).bind fun z10 =>
  some z10
set_option maxRecDepth 100000 in
set_option maxHeartbeats 4000000 in
theorem x_Vi_holders_l6 {Γ : W0} {σ0 : Mem} {r : RT} {σ : Mem} {th : Nat} {x1 : Int32} {x2 : Int64} {t : Int32} (hk0 : ∀ z : Int32, z = t → V Γ MD_Vi_holders σ0 r σ 46 [(4, .int z)] []) : ∀ q : Int32 × Int32, lp (fun q => Vi_holders_l6 σ th x1 x2 q.1 q.2) q = some t → V Γ MD_Vi_holders σ0 r σ 6 [(0, va_rf (some th)), (1, .int x1), (2, .long x2), (4, .int q.1), (5, .int q.2)] [] := by
  refine lp_ind (fun (q : Int32 × Int32) => V Γ MD_Vi_holders σ0 r σ 6 [(0, va_rf (some th)), (1, .int x1), (2, .long x2), (4, .int q.1), (5, .int q.2)] []) (fun q x hf ih ho => ?_)
  obtain ⟨x4, x5⟩ := q
  show V Γ MD_Vi_holders σ0 r σ 6 [(0, va_rf (some th)), (1, .int x1), (2, .long x2), (4, .int x4), (5, .int x5)] []
  replace hf : Vi_holders_l6 σ th x1 x2 x4 x5 = some x := hf
  unfold Vi_holders_l6 at hf
  refine r_iload 4 dX9_holders_6 rfl ?_
  refine r_aload_n 0 dX9_holders_8 rfl rfl ?_
  refine r_ldI hf dX9_holders_9 fl_RX9_31 rfl (fun v1 ev1 hf => ?_)
  refine r_icmp_ge 46 hf dX9_holders_12 (by decide) (fun c2 hf => ?_) (fun c2 hf => ?_)
  · refine r_sub (L' := [(4, _)]) [3] rfl ?_
    exact hk0 _ (ho _ (Option.some.inj hf).symm)
  · refine r_aload_n 0 dX9_holders_15 rfl rfl ?_
    refine r_iload 4 dX9_holders_16 rfl ?_
    refine r_iload_n 1 dX9_holders_18 rfl rfl ?_
    refine r_chk hf (fun a3 xa3 ta3 hf => ?_)
    refine bnd hf (fun v4 ev4 hf => ?_)
    refine r_callVr (ci := 9) xa3 dX9_holders_19 cs_RX9_53 ww_798 ww_799 (by decide) ta3 (by decide) rfl (rest := []) rfl (Or.inl (Nat.le_of_ble_eq_true rfl)) (t_Vi_termsOf ev4) ?_
    refine r_astore (L' := [(6, _), (0, _), (1, _), (2, _), (4, _), (5, _)]) dX9_holders_22 (show 6 < 7 by decide) rfl ?_
    refine r_aload 0 dX9_holders_24 rfl ?_
    refine r_bd (fun (q5 : Int32) => V Γ MD_Vi_holders σ0 r σ 40 [(0, va_rf (some th)), (1, .int x1), (2, .long x2), (4, .int q5), (5, .int x5)] []) hf (fun q5 hf => ?_) (fun yq5 hf kq5 => ?_)
    · refine r_iinc (1 : Int32) (L' := [(5, _), (0, _), (1, _), (2, _), (4, _)]) 4 dX9_holders_40 rfl (by decide) (show 5 < 7 by decide) rfl ?_
      refine r_goto 6 dX9_holders_43 (by decide) ?_
      refine r_sub (L' := [(0, _), (1, _), (2, _), (4, _), (5, _)]) [1, 2, 3, 4, 0] rfl ?_
      exact ih _ (Option.some.inj hf).symm
    · refine r_ifnull 40 hf dX9_holders_26 (by decide) (fun c6 hf => ?_) (fun c6 hf => ?_)
      · refine r_sub (L' := [(0, _), (1, _), (2, _), (4, _), (5, _)]) [1, 2, 3, 4, 5] rfl ?_
        cases (Option.some.inj hf)
        exact kq5
      · refine r_iload 4 dX9_holders_29 rfl ?_
        refine r_aload 0 dX9_holders_31 rfl ?_
        refine r_lload_n 3 dX9_holders_33 rfl rfl ?_
        refine r_chk hf (fun a7 xa7 ta7 hf => ?_)
        refine bnd hf (fun v8 ev8 hf => ?_)
        refine r_callVr (ci := 10) xa7 dX9_holders_34 cs_RX9_56 ww_806 ww_807 (by decide) ta7 (by decide) rfl (rest := [_]) rfl (Or.inl (Nat.le_of_ble_eq_true rfl)) (t_Vo_countOf ev8) ?_
        refine r_iadd dX9_holders_37 ?_
        refine r_istore (L' := [(4, _), (6, _), (0, _), (1, _), (2, _), (5, _)]) dX9_holders_38 (show 4 < 7 by decide) rfl ?_
        refine r_sub (L' := [(0, _), (1, _), (2, _), (4, _), (5, _)]) [2, 3, 4, 0, 5] rfl ?_
        cases (Option.some.inj hf)
        exact kq5
set_option maxRecDepth 100000 in
set_option maxHeartbeats 4000000 in
theorem t_Vi_holders {Γ : W0} {σ : Mem} {th : Nat} {x1 : Int32} {x2 : Int64} {v : Int32} (hf : Vi_holders σ th x1 x2 = some v) : CT Γ MD_Vi_holders yX9_holders [va_rf (some th), .int x1, .long x2] σ (some (.int v), σ) := by
  refine CT.of (L := [(0, va_rf (some th)), (1, .int x1), (2, .long x2)]) rfl (by decide) (fun h => Bool.noConfusion (show false = true from h)) (Nat.le_of_ble_eq_true rfl) rfl ?_
  unfold Vi_holders at hf
  generalize hr : mkR Γ σ (some (.int v)) σ = r
  refine r_iconst (0 : Int32) dX9_holders_0 (by decide) ?_
  refine r_istore (L' := [(4, _), (0, _), (1, _), (2, _)]) dX9_holders_1 (show 4 < 7 by decide) rfl ?_
  refine r_iconst (0 : Int32) dX9_holders_3 (by decide) ?_
  refine r_istore (L' := [(5, _), (4, _), (0, _), (1, _), (2, _)]) dX9_holders_4 (show 5 < 7 by decide) rfl ?_
  refine bnd hf (fun t9 et9 hf => ?_)
  refine r_sub (L' := [(0, _), (1, _), (2, _), (4, _), (5, _)]) [2, 3, 4, 1, 0] rfl ?_
  refine x_Vi_holders_l6 ?_ _ et9
  · intro z10 hz10
    subst hz10
    refine r_iload 0 dX9_holders_46 rfl ?_
    exact r_iret rfl dX9_holders_48 (by have h1 := (Option.some.inj hf); subst h1; exact hr.symm)
/-! SearchEngine$Neighbour.compare -/
noncomputable def Ne_compare (σ : Mem) (th : Nat) (x1 : Int64) (x3 : Option Nat) : Option Mem :=
  (chk σ 2 (some th)).bind fun a1 =>
  (Ne_editsTo σ a1 x1).bind fun v2 =>
  if (2 : Int32) < v2.1 then
    some v2.2
  else
    (ldI v2.2 2 1 (some th)).bind fun v4 =>
    if v2.1 ≤ v4 then
      (chk v2.2 9 x3).bind fun a6 =>
      (Vi_holders v2.2 a6 (1 : Int32) x1).bind fun v7 =>
      (ldI v2.2 2 1 (some th)).bind fun v8 =>
      Option.bind (
        if v2.1 < v8 then
          some (1 : Int32)
        else
          (ldI v2.2 2 2 (some th)).bind fun v11 =>
          if v11 < v7 then
            some (1 : Int32)
          else
            (ldI v2.2 2 2 (some th)).bind fun v13 =>
            if ¬ v7 = v13 then
              some (0 : Int32)
            else
              (ldL v2.2 2 3 (some th)).bind fun v15 =>
              if v15 ≤ x1 then
                some (0 : Int32)
              else
                some (1 : Int32)) fun q9 =>
      if q9 = 0 then
        some v2.2
      else
        (stI v2.2 2 1 (some th) v2.1).bind fun m18 =>
        (stI m18 2 2 (some th) v7).bind fun m19 =>
        (stL m19 2 3 (some th) x1).bind fun m20 =>
        some m20
    else
      some v2.2
set_option maxRecDepth 100000 in
set_option maxHeartbeats 4000000 in
theorem t_Ne_compare {Γ : W0} {σ : Mem} {th : Nat} {x1 : Int64} {x3 : Option Nat} {σ' : Mem} (hf : Ne_compare σ th x1 x3 = some σ') : CT Γ MD_Ne_compare yX2_compare [va_rf (some th), .long x1, va_rf x3] σ (none, σ') := by
  refine CT.of (L := [(0, va_rf (some th)), (1, .long x1), (3, va_rf x3)]) rfl (by decide) (fun h => Bool.noConfusion (show false = true from h)) (by cases x3 <;> exact Nat.le_of_ble_eq_true rfl) (by cases x3 <;> rfl) ?_
  unfold Ne_compare at hf
  generalize hr : mkR Γ σ (none) σ' = r
  refine r_aload_n 0 dX2_compare_0 rfl rfl ?_
  refine r_lload_n 1 dX2_compare_1 rfl rfl ?_
  refine r_chk hf (fun a1 xa1 ta1 hf => ?_)
  refine bnd hf (fun v2 ev2 hf => ?_)
  refine r_callVr (ci := 2) xa1 dX2_compare_2 cs_RX2_68 ww_983 ww_36 (by decide) ta1 (by decide) rfl (rest := []) rfl (Or.inl (Nat.le_of_ble_eq_true rfl)) (t_Ne_editsTo ev2) ?_
  refine r_istore (i := 4) (L' := [(4, .int v2.1), (0, va_rf (some th)), (1, .long x1), (3, va_rf x3)]) dX2_compare_5 (show 4 < 7 by decide) (by simp [List.filter, cat_rf, cat_i, cat_l]) ?_
  refine r_iload 0 dX2_compare_7 rfl ?_
  refine r_iconst (2 : Int32) dX2_compare_9 (by decide) ?_
  refine r_icmp_gt 22 hf dX2_compare_10 (by decide) (fun c3 hf => ?_) (fun c3 hf => ?_)
  · exact r_vret rfl dX2_compare_22 (by have h1 := (Option.some.inj hf); subst h1; exact hr.symm)
  · refine r_iload 0 dX2_compare_13 rfl ?_
    refine r_aload_n 1 dX2_compare_15 rfl rfl ?_
    refine r_ldI hf dX2_compare_16 fl_RX2_35 rfl (fun v4 ev4 hf => ?_)
    refine r_icmp_le 23 hf dX2_compare_19 (by decide) (fun c5 hf => ?_) (fun c5 hf => ?_)
    · refine r_aload_n 3 dX2_compare_23 rfl rfl ?_
      refine r_iconst (1 : Int32) dX2_compare_24 (by decide) ?_
      refine r_lload_n 2 dX2_compare_25 rfl rfl ?_
      refine r_chk hf (fun a6 xa6 ta6 hf => ?_)
      refine bnd hf (fun v7 ev7 hf => ?_)
      refine r_callVr (ci := 9) xa6 dX2_compare_26 cs_RX2_72 ww_794 ww_795 (by decide) ta6 (by decide) rfl (rest := []) rfl (Or.inl (Nat.le_of_ble_eq_true rfl)) (t_Vi_holders ev7) ?_
      refine r_istore (L' := [(5, _), (4, _), (0, _), (1, _), (3, _)]) dX2_compare_29 (show 5 < 7 by decide) rfl ?_
      refine r_iload 1 dX2_compare_31 rfl ?_
      refine r_aload_n 2 dX2_compare_33 rfl rfl ?_
      refine r_ldI hf dX2_compare_34 fl_RX2_35 rfl (fun v8 ev8 hf => ?_)
      refine r_bd (fun (q9 : Int32) => V Γ MD_Ne_compare σ r v2.2 72 [(0, va_rf (some th)), (1, .long x1), (4, .int v2.1), (5, .int v7)] [.int q9]) hf (fun q9 hf => ?_) (fun yq9 hf kq9 => ?_)
      · refine r_istore (L' := [(6, _), (0, _), (1, _), (4, _), (5, _)]) dX2_compare_72 (show 6 < 7 by decide) rfl ?_
        refine r_iload 0 dX2_compare_74 rfl ?_
        refine r_if_eq 96 hf dX2_compare_76 (by decide) (fun c17 hf => ?_) (fun c17 hf => ?_)
        · exact r_vret rfl dX2_compare_96 (by have h1 := (Option.some.inj hf); subst h1; exact hr.symm)
        · refine r_aload_n 1 dX2_compare_79 rfl rfl ?_
          refine r_iload 3 dX2_compare_80 rfl ?_
          refine r_stI hf dX2_compare_82 fl_RX2_35 rfl rfl rfl (fun m18 em18 hf => ?_)
          refine r_aload_n 1 dX2_compare_85 rfl rfl ?_
          refine r_iload 4 dX2_compare_86 rfl ?_
          refine r_stI hf dX2_compare_88 fl_RX2_76 rfl rfl rfl (fun m19 em19 hf => ?_)
          refine r_aload_n 1 dX2_compare_91 rfl rfl ?_
          refine r_lload_n 2 dX2_compare_92 rfl rfl ?_
          refine r_stL hf dX2_compare_93 fl_RX2_61 rfl rfl (fun m20 em20 hf => ?_)
          exact r_vret rfl dX2_compare_96 (by have h1 := (Option.some.inj hf); subst h1; exact hr.symm)
      · refine r_icmp_lt 67 hf dX2_compare_37 (by decide) (fun c10 hf => ?_) (fun c10 hf => ?_)
        · refine r_iconst (1 : Int32) dX2_compare_67 (by decide) ?_
          refine r_goto 72 dX2_compare_68 (by decide) ?_
          refine r_sub (L' := [(0, _), (1, _), (4, _), (5, _)]) [2, 3, 1, 0] rfl ?_
          cases (Option.some.inj hf)
          exact kq9
        · refine r_iload 0 dX2_compare_40 rfl ?_
          refine r_aload_n 2 dX2_compare_42 rfl rfl ?_
          refine r_ldI hf dX2_compare_43 fl_RX2_76 rfl (fun v11 ev11 hf => ?_)
          refine r_icmp_gt 67 hf dX2_compare_46 (by decide) (fun c12 hf => ?_) (fun c12 hf => ?_)
          · refine r_iconst (1 : Int32) dX2_compare_67 (by decide) ?_
            refine r_goto 72 dX2_compare_68 (by decide) ?_
            refine r_sub (L' := [(0, _), (1, _), (4, _), (5, _)]) [2, 3, 1, 0] rfl ?_
            cases (Option.some.inj hf)
            exact kq9
          · refine r_iload 0 dX2_compare_49 rfl ?_
            refine r_aload_n 2 dX2_compare_51 rfl rfl ?_
            refine r_ldI hf dX2_compare_52 fl_RX2_76 rfl (fun v13 ev13 hf => ?_)
            refine r_icmp_ne 71 hf dX2_compare_55 (by decide) (fun c14 hf => ?_) (fun c14 hf => ?_)
            · refine r_iconst (0 : Int32) dX2_compare_71 (by decide) ?_
              refine r_sub (L' := [(0, _), (1, _), (4, _), (5, _)]) [2, 3, 1, 0] rfl ?_
              cases (Option.some.inj hf)
              exact kq9
            · refine r_lload_n 3 dX2_compare_58 rfl rfl ?_
              refine r_aload_n 2 dX2_compare_59 rfl rfl ?_
              refine r_ldL hf dX2_compare_60 fl_RX2_61 rfl (fun v15 ev15 hf => ?_)
              refine r_lcmp_ge 71 hf dX2_compare_63 dX2_compare_64 (by decide) (fun c16 hf => ?_) (fun c16 hf => ?_)
              · refine r_iconst (0 : Int32) dX2_compare_71 (by decide) ?_
                refine r_sub (L' := [(0, _), (1, _), (4, _), (5, _)]) [2, 3, 1, 0] rfl ?_
                cases (Option.some.inj hf)
                exact kq9
              · refine r_iconst (1 : Int32) dX2_compare_67 (by decide) ?_
                refine r_goto 72 dX2_compare_68 (by decide) ?_
                refine r_sub (L' := [(0, _), (1, _), (4, _), (5, _)]) [2, 3, 1, 0] rfl ?_
                cases (Option.some.inj hf)
                exact kq9
    · exact r_vret rfl dX2_compare_22 (by have h1 := (Option.some.inj hf); subst h1; exact hr.symm)
