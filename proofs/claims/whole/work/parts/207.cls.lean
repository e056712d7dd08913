/-! methods as functions, with their walks (by program) -/
/-! SearchEngine.segmentAt -/
noncomputable def E_segmentAt (σ : Mem) (th : Nat) (x1 : Int32) : Option (Option Nat) :=
  if x1 < 0 then
    some none
  else
    (ldI σ 11 7 (some th)).bind fun v2 =>
    if v2 ≤ x1 then
      some none
    else
      if (16 : Int32) ≤ x1 then
        some none
      else
        (ldR σ 11 6 (some th)).bind fun v5 =>
        (raR σ 5 v5 x1).bind fun v6 =>
        some v6
set_option maxRecDepth 100000 in
set_option maxHeartbeats 4000000 in
theorem t_E_segmentAt {Γ : W0} {σ : Mem} {th : Nat} {x1 : Int32} {v : Option Nat} (hf : E_segmentAt σ th x1 = some v) : CT Γ MD_E_segmentAt yX11_segmentAt [va_rf (some th), .int x1] σ (some (va_rf v), σ) := by
  refine CT.of (L := [(0, va_rf (some th)), (1, .int x1)]) rfl (by decide) (fun h => Bool.noConfusion (show false = true from h)) (Nat.le_of_ble_eq_true rfl) rfl ?_
  unfold E_segmentAt at hf
  generalize hr : mkR Γ σ (some (va_rf v)) σ = r
  refine r_iload_n 1 dX11_segmentAt_0 rfl rfl ?_
  refine r_if_lt 27 hf dX11_segmentAt_1 (by decide) (fun c1 hf => ?_) (fun c1 hf => ?_)
  · refine r_null dX11_segmentAt_27 ?_
    exact r_aret rfl (Or.inl ⟨_, rfl⟩) dX11_segmentAt_28 (by have h1 := (Option.some.inj hf); subst h1; exact hr.symm)
  · refine r_iload_n 1 dX11_segmentAt_4 rfl rfl ?_
    refine r_aload_n 0 dX11_segmentAt_5 rfl rfl ?_
    refine r_ldI hf dX11_segmentAt_6 fl_RX11_104 rfl (fun v2 ev2 hf => ?_)
    refine r_icmp_ge 27 hf dX11_segmentAt_9 (by decide) (fun c3 hf => ?_) (fun c3 hf => ?_)
    · refine r_null dX11_segmentAt_27 ?_
      exact r_aret rfl (Or.inl ⟨_, rfl⟩) dX11_segmentAt_28 (by have h1 := (Option.some.inj hf); subst h1; exact hr.symm)
    · refine r_iload_n 1 dX11_segmentAt_12 rfl rfl ?_
      refine r_bipush (16 : Int32) dX11_segmentAt_13 (by decide) ?_
      refine r_icmp_ge 27 hf dX11_segmentAt_15 (by decide) (fun c4 hf => ?_) (fun c4 hf => ?_)
      · refine r_null dX11_segmentAt_27 ?_
        exact r_aret rfl (Or.inl ⟨_, rfl⟩) dX11_segmentAt_28 (by have h1 := (Option.some.inj hf); subst h1; exact hr.symm)
      · refine r_aload_n 0 dX11_segmentAt_18 rfl rfl ?_
        refine r_ldR hf dX11_segmentAt_19 fl_RX11_30 rfl (fun v5 ev5 hf => ?_)
        refine r_iload_n 1 dX11_segmentAt_22 rfl rfl ?_
        refine r_raR hf dX11_segmentAt_23 (by decide) (by decide) (fun v6 ev6 hf => ?_)
        refine r_goto 28 dX11_segmentAt_24 (by decide) ?_
        exact r_aret rfl (Or.inl ⟨_, rfl⟩) dX11_segmentAt_28 (by have h1 := (Option.some.inj hf); subst h1; exact hr.symm)
/-! SearchEngine.leastFullLevel -/
noncomputable def E_leastFullLevel_l12 (σ : Mem) (th : Nat) (x1 : Int32) (x2 : Int32) (x3 : Int32) : Option ((Int32 × Int32) ⊕ Int32) :=
  (ldI σ 11 7 (some th)).bind fun v2 =>
  if v2 ≤ x3 then
    some (Sum.inr x2)
  else
    (chk σ 11 (some th)).bind fun a4 =>
    (E_segmentAt σ a4 x3).bind fun v5 =>
    Option.bind (
      if v5 = none then
        some x2
      else
        (ldI σ 6 0 v5).bind fun v8 =>
        if ¬ v8 = x1 then
          some x2
        else
          some (x2 + (1 : Int32))) fun q6 =>
    some (Sum.inl (q6, (x3 + (1 : Int32))))
noncomputable def E_leastFullLevel_l2 (σ : Mem) (th : Nat) (x1 : Int32) : Option (Int32 ⊕ (Int32 ⊕ Unit)) :=
  if (6 : Int32) ≤ x1 then
    some (Sum.inr (Sum.inr ()))
  else
    (lp (fun q => E_leastFullLevel_l12 σ th x1 q.1 q.2) ((0 : Int32), (0 : Int32))).bind fun z11 =>
    if z11 < (4 : Int32) then
      some (Sum.inl (x1 + (1 : Int32)))
    else
      some (Sum.inr (Sum.inl x1))
noncomputable def E_leastFullLevel (σ : Mem) (th : Nat) : Option Int32 :=
  (lp (fun q => E_leastFullLevel_l2 σ th q) (0 : Int32)).bind 
    (se (fun z14 =>
      some z14)
      (fun z15 =>
        some (-1 : Int32)))
set_option maxRecDepth 100000 in
set_option maxHeartbeats 4000000 in
theorem x_E_leastFullLevel_l12 {Γ : W0} {σ0 : Mem} {r : RT} {σ : Mem} {th : Nat} {x1 : Int32} {t : Int32} (hk0 : ∀ z : Int32, z = t → V Γ MD_E_leastFullLevel σ0 r σ 50 [(0, va_rf (some th)), (1, .int x1), (2, .int z)] []) : ∀ q : Int32 × Int32, lp (fun q => E_leastFullLevel_l12 σ th x1 q.1 q.2) q = some t → V Γ MD_E_leastFullLevel σ0 r σ 12 [(0, va_rf (some th)), (1, .int x1), (2, .int q.1), (3, .int q.2)] [] := by
  refine lp_ind (fun (q : Int32 × Int32) => V Γ MD_E_leastFullLevel σ0 r σ 12 [(0, va_rf (some th)), (1, .int x1), (2, .int q.1), (3, .int q.2)] []) (fun q x hf ih ho => ?_)
  obtain ⟨x2, x3⟩ := q
  show V Γ MD_E_leastFullLevel σ0 r σ 12 [(0, va_rf (some th)), (1, .int x1), (2, .int x2), (3, .int x3)] []
  replace hf : E_leastFullLevel_l12 σ th x1 x2 x3 = some x := hf
  unfold E_leastFullLevel_l12 at hf
  refine r_iload_n 3 dX11_leastFullLevel_12 rfl rfl ?_
  refine r_aload_n 0 dX11_leastFullLevel_13 rfl rfl ?_
  refine r_ldI hf dX11_leastFullLevel_14 fl_RX11_104 rfl (fun v2 ev2 hf => ?_)
  refine r_icmp_ge 50 hf dX11_leastFullLevel_17 (by decide) (fun c3 hf => ?_) (fun c3 hf => ?_)
  · refine r_sub (L' := [(0, _), (1, _), (2, _)]) [0, 1, 2] rfl ?_
    exact hk0 _ (ho _ (Option.some.inj hf).symm)
  · refine r_aload_n 0 dX11_leastFullLevel_20 rfl rfl ?_
    refine r_iload_n 3 dX11_leastFullLevel_21 rfl rfl ?_
    refine r_chk hf (fun a4 xa4 ta4 hf => ?_)
    refine bnd hf (fun v5 ev5 hf => ?_)
    refine r_callVr (ci := 11) xa4 dX11_leastFullLevel_22 cs_RX11_230 ww_623 ww_9 (by decide) ta4 (by decide) rfl (rest := []) rfl (Or.inl (Nat.le_of_ble_eq_true rfl)) (t_E_segmentAt ev5) ?_
    refine r_astore (L' := [(4, _), (0, _), (1, _), (2, _), (3, _)]) dX11_leastFullLevel_25 (show 4 < 5 by decide) rfl ?_
    refine r_aload 0 dX11_leastFullLevel_27 rfl ?_
    refine r_bd (fun (q6 : Int32) => V Γ MD_E_leastFullLevel σ0 r σ 44 [(0, va_rf (some th)), (1, .int x1), (2, .int q6), (3, .int x3)] []) hf (fun q6 hf => ?_) (fun yq6 hf kq6 => ?_)
    · refine r_iinc (1 : Int32) (L' := [(3, _), (0, _), (1, _), (2, _)]) 3 dX11_leastFullLevel_44 rfl (by decide) (show 3 < 5 by decide) rfl ?_
      refine r_goto 12 dX11_leastFullLevel_47 (by decide) ?_
      refine r_sub (L' := [(0, _), (1, _), (2, _), (3, _)]) [1, 2, 3, 0] rfl ?_
      exact ih _ (Option.some.inj hf).symm
    · refine r_ifnull 44 hf dX11_leastFullLevel_29 (by decide) (fun c7 hf => ?_) (fun c7 hf => ?_)
      · refine r_sub (L' := [(0, _), (1, _), (2, _), (3, _)]) [1, 2, 3, 4] rfl ?_
        cases (Option.some.inj hf)
        exact kq6
      · refine r_aload 0 dX11_leastFullLevel_32 rfl ?_
        refine r_ldI hf dX11_leastFullLevel_34 fl_RX11_234 rfl (fun v8 ev8 hf => ?_)
        refine r_iload_n 2 dX11_leastFullLevel_37 rfl rfl ?_
        refine r_icmp_ne 44 hf dX11_leastFullLevel_38 (by decide) (fun c9 hf => ?_) (fun c9 hf => ?_)
        · refine r_sub (L' := [(0, _), (1, _), (2, _), (3, _)]) [1, 2, 3, 4] rfl ?_
          cases (Option.some.inj hf)
          exact kq6
        · refine r_iinc (1 : Int32) (L' := [(2, _), (4, _), (0, _), (1, _), (3, _)]) 3 dX11_leastFullLevel_41 rfl (by decide) (show 2 < 5 by decide) rfl ?_
          refine r_sub (L' := [(0, _), (1, _), (2, _), (3, _)]) [2, 3, 0, 4] rfl ?_
          cases (Option.some.inj hf)
          exact kq6
set_option maxRecDepth 100000 in
set_option maxHeartbeats 4000000 in
theorem x_E_leastFullLevel_l2 {Γ : W0} {σ0 : Mem} {r : RT} {σ : Mem} {th : Nat} {t : Int32 ⊕ Unit} (hk0 : ∀ z : Int32, (Sum.inl z) = t → V Γ MD_E_leastFullLevel σ0 r σ 55 [(1, .int z)] []) (hk1 : ∀ z : Unit, (Sum.inr z) = t → V Γ MD_E_leastFullLevel σ0 r σ 63 [] []) : ∀ q : Int32, lp (fun q => E_leastFullLevel_l2 σ th q) q = some t → V Γ MD_E_leastFullLevel σ0 r σ 2 [(0, va_rf (some th)), (1, .int q)] [] := by
  refine lp_ind (fun (q : Int32) => V Γ MD_E_leastFullLevel σ0 r σ 2 [(0, va_rf (some th)), (1, .int q)] []) (fun q x hf ih ho => ?_)
  revert hf ih
  generalize q = x1
  intro hf ih
  show V Γ MD_E_leastFullLevel σ0 r σ 2 [(0, va_rf (some th)), (1, .int x1)] []
  replace hf : E_leastFullLevel_l2 σ th x1 = some x := hf
  unfold E_leastFullLevel_l2 at hf
  refine r_iload_n 1 dX11_leastFullLevel_2 rfl rfl ?_
  refine r_bipush (6 : Int32) dX11_leastFullLevel_3 (by decide) ?_
  refine r_icmp_ge 63 hf dX11_leastFullLevel_5 (by decide) (fun c1 hf => ?_) (fun c1 hf => ?_)
  · refine r_sub (L' := []) [] rfl ?_
    exact hk1 _ (ho _ (Option.some.inj hf).symm)
  · refine r_iconst (0 : Int32) dX11_leastFullLevel_8 (by decide) ?_
    refine r_istore_n (L' := [(2, _), (0, _), (1, _)]) dX11_leastFullLevel_9 rfl (show 2 < 5 by decide) rfl ?_
    refine r_iconst (0 : Int32) dX11_leastFullLevel_10 (by decide) ?_
    refine r_istore_n (L' := [(3, _), (2, _), (0, _), (1, _)]) dX11_leastFullLevel_11 rfl (show 3 < 5 by decide) rfl ?_
    refine bnd hf (fun t10 et10 hf => ?_)
    refine r_sub (L' := [(0, _), (1, _), (2, _), (3, _)]) [2, 3, 1, 0] rfl ?_
    refine x_E_leastFullLevel_l12 ?_ _ et10
    · intro z11 hz11
      subst hz11
      refine r_iload_n 2 dX11_leastFullLevel_50 rfl rfl ?_
      refine r_iconst (4 : Int32) dX11_leastFullLevel_51 (by decide) ?_
      refine r_icmp_lt 57 hf dX11_leastFullLevel_52 (by decide) (fun c12 hf => ?_) (fun c12 hf => ?_)
      · refine r_iinc (1 : Int32) (L' := [(1, _), (0, _), (2, _)]) 1 dX11_leastFullLevel_57 rfl (by decide) (show 1 < 5 by decide) rfl ?_
        refine r_goto 2 dX11_leastFullLevel_60 (by decide) ?_
        refine r_sub (L' := [(0, _), (1, _)]) [1, 0] rfl ?_
        exact ih _ (Option.some.inj hf).symm
      · refine r_sub (L' := [(1, _)]) [1] rfl ?_
        exact hk0 _ (ho _ (Option.some.inj hf).symm)
set_option maxRecDepth 100000 in
set_option maxHeartbeats 4000000 in
theorem t_E_leastFullLevel {Γ : W0} {σ : Mem} {th : Nat} {v : Int32} (hf : E_leastFullLevel σ th = some v) : CT Γ MD_E_leastFullLevel yX11_leastFullLevel [va_rf (some th)] σ (some (.int v), σ) := by
  refine CT.of (L := [(0, va_rf (some th))]) rfl (by decide) (fun h => Bool.noConfusion (show false = true from h)) (Nat.le_of_ble_eq_true rfl) rfl ?_
  unfold E_leastFullLevel at hf
  generalize hr : mkR Γ σ (some (.int v)) σ = r
  refine r_iconst (0 : Int32) dX11_leastFullLevel_0 (by decide) ?_
  refine r_istore_n (L' := [(1, _), (0, _)]) dX11_leastFullLevel_1 rfl (show 1 < 5 by decide) rfl ?_
  refine bnd hf (fun t13 et13 hf => ?_)
  refine r_sub (L' := [(0, _), (1, _)]) [1, 0] rfl ?_
  refine x_E_leastFullLevel_l2 ?_ ?_ _ et13
  · intro z14 hz14
    subst hz14
    simp only [se] at hf
    refine r_iload_n 0 dX11_leastFullLevel_55 rfl rfl ?_
    exact r_iret rfl dX11_leastFullLevel_56 (by have h1 := (Option.some.inj hf); subst h1; exact hr.symm)
  · intro z15 hz15
    subst hz15
    simp only [se] at hf
    refine r_iconst (-1 : Int32) dX11_leastFullLevel_63 (by decide) ?_
    exact r_iret rfl dX11_leastFullLevel_64 (by have h1 := (Option.some.inj hf); subst h1; exact hr.symm)
/-! SearchEngine.gatherAll -/
noncomputable def E_gatherAll_l2 (σ : Mem) (th : Nat) (x1 : Option Nat) (x2 : Int32) : Option ((Int32 × Mem) ⊕ Mem) :=
  (ldR σ 6 1 x1).bind fun v1 =>
  (alen σ 4 v1).bind fun v2 =>
  if v2 ≤ x2 then
    some (Sum.inr σ)
  else
    (ldR σ 6 1 x1).bind fun v4 =>
    (raR σ 4 v4 x2).bind fun v5 =>
    (chk σ 11 (some th)).bind fun a6 =>
    (E_gather σ a6 v5).bind fun v7 =>
    some (Sum.inl ((x2 + (1 : Int32)), v7))
noncomputable def E_gatherAll (σ : Mem) (th : Nat) (x1 : Option Nat) : Option Mem :=
  (lp (fun q => E_gatherAll_l2 q.2 th x1 q.1) ((0 : Int32), σ)).bind fun z9 =>
  some z9
set_option maxRecDepth 100000 in
set_option maxHeartbeats 4000000 in
theorem x_E_gatherAll_l2 {Γ : W0} {σ0 : Mem} {r : RT} {th : Nat} {x1 : Option Nat} {t : Mem} (hk0 : ∀ z : Mem, z = t → V Γ MD_E_gatherAll σ0 r z 27 [] []) : ∀ q : Int32 × Mem, lp (fun q => E_gatherAll_l2 q.2 th x1 q.1) q = some t → V Γ MD_E_gatherAll σ0 r q.2 2 [(0, va_rf (some th)), (1, va_rf x1), (2, .int q.1)] [] := by
  refine lp_ind (fun (q : Int32 × Mem) => V Γ MD_E_gatherAll σ0 r q.2 2 [(0, va_rf (some th)), (1, va_rf x1), (2, .int q.1)] []) (fun q x hf ih ho => ?_)
  obtain ⟨x2, σ⟩ := q
  show V Γ MD_E_gatherAll σ0 r σ 2 [(0, va_rf (some th)), (1, va_rf x1), (2, .int x2)] []
  replace hf : E_gatherAll_l2 σ th x1 x2 = some x := hf
  unfold E_gatherAll_l2 at hf
  refine r_iload_n 2 dX11_gatherAll_2 rfl rfl ?_
  refine r_aload_n 1 dX11_gatherAll_3 rfl rfl ?_
  refine r_ldR hf dX11_gatherAll_4 fl_RX11_237 rfl (fun v1 ev1 hf => ?_)
  refine r_alen hf dX11_gatherAll_7 (by decide) (fun v2 ev2 hf => ?_)
  refine r_icmp_ge 27 hf dX11_gatherAll_8 (by decide) (fun c3 hf => ?_) (fun c3 hf => ?_)
  · refine r_sub (L' := []) [] rfl ?_
    exact hk0 _ (ho _ (Option.some.inj hf).symm)
  · refine r_aload_n 0 dX11_gatherAll_11 rfl rfl ?_
    refine r_aload_n 1 dX11_gatherAll_12 rfl rfl ?_
    refine r_ldR hf dX11_gatherAll_13 fl_RX11_237 rfl (fun v4 ev4 hf => ?_)
    refine r_iload_n 2 dX11_gatherAll_16 rfl rfl ?_
    refine r_raR hf dX11_gatherAll_17 (by decide) (by decide) (fun v5 ev5 hf => ?_)
    refine r_chk hf (fun a6 xa6 ta6 hf => ?_)
    refine bnd hf (fun v7 ev7 hf => ?_)
    refine r_callVv (ci := 11) xa6 dX11_gatherAll_18 cs_RX11_288 ww_570 ww_7 (by decide) ta6 (by decide) rfl (rest := []) rfl (Or.inl (Nat.le_of_ble_eq_true rfl)) (t_E_gather ev7) ?_
    refine r_iinc (1 : Int32) (L' := [(2, .int (x2 + (1 : Int32))), (0, va_rf (some th)), (1, va_rf x1)]) 2 dX11_gatherAll_21 rfl (by decide) (show 2 < 3 by decide) (by simp [List.filter, cat_rf, cat_i, cat_l]) ?_
    refine r_goto 2 dX11_gatherAll_24 (by decide) ?_
    refine r_sub (L' := [(0, _), (1, _), (2, _)]) [1, 2, 0] rfl ?_
    exact ih _ (Option.some.inj hf).symm
set_option maxRecDepth 100000 in
set_option maxHeartbeats 4000000 in
theorem t_E_gatherAll {Γ : W0} {σ : Mem} {th : Nat} {x1 : Option Nat} {σ' : Mem} (hf : E_gatherAll σ th x1 = some σ') : CT Γ MD_E_gatherAll yX11_gatherAll [va_rf (some th), va_rf x1] σ (none, σ') := by
  refine CT.of (L := [(0, va_rf (some th)), (1, va_rf x1)]) rfl (by decide) (fun h => Bool.noConfusion (show false = true from h)) (by cases x1 <;> exact Nat.le_of_ble_eq_true rfl) (by cases x1 <;> rfl) ?_
  unfold E_gatherAll at hf
  generalize hr : mkR Γ σ (none) σ' = r
  refine r_iconst (0 : Int32) dX11_gatherAll_0 (by decide) ?_
  refine r_istore_n (i := 2) (L' := [(2, .int (0 : Int32)), (0, va_rf (some th)), (1, va_rf x1)]) dX11_gatherAll_1 rfl (show 2 < 3 by decide) (by simp [List.filter, cat_rf, cat_i, cat_l]) ?_
  refine bnd hf (fun t8 et8 hf => ?_)
  refine r_sub (L' := [(0, _), (1, _), (2, _)]) [1, 2, 0] rfl ?_
  refine x_E_gatherAll_l2 ?_ _ et8
  · intro z9 hz9
    subst hz9
    exact r_vret rfl dX11_gatherAll_27 (by have h1 := (Option.some.inj hf); subst h1; exact hr.symm)
/-! SearchEngine.removeSegment -/
noncomputable def E_removeSegment_l2 (σ : Mem) (th : Nat) (x2 : Int32) : Option ((Int32 × Mem) ⊕ Mem) :=
  if x2 < 0 then
    some (Sum.inr σ)
  else
    (ldI σ 11 7 (some th)).bind fun v2 =>
    if v2 ≤ (x2 + (1 : Int32)) then
      some (Sum.inr σ)
    else
      if (16 : Int32) ≤ (x2 + (1 : Int32)) then
        some (Sum.inr σ)
      else
        (ldR σ 11 6 (some th)).bind fun v5 =>
        (ldR σ 11 6 (some th)).bind fun v6 =>
        (raR σ 5 v6 (x2 + (1 : Int32))).bind fun v7 =>
        (waR σ 5 6 v5 x2 v7).bind fun m8 =>
        some (Sum.inl ((x2 + (1 : Int32)), m8))
noncomputable def E_removeSegment (σ : Mem) (th : Nat) (x1 : Int32) : Option Mem :=
  (lp (fun q => E_removeSegment_l2 q.2 th q.1) (x1, σ)).bind fun z10 =>
  (ldI z10 11 7 (some th)).bind fun v11 =>
  (stI z10 11 7 (some th) (maxI (0 : Int32) (v11 - (1 : Int32)))).bind fun m12 =>
  some m12
set_option maxRecDepth 100000 in
set_option maxHeartbeats 4000000 in
theorem x_E_removeSegment_l2 {Γ : W0} {σ0 : Mem} {r : RT} {th : Nat} {t : Mem} (hk0 : ∀ z : Mem, z = t → V Γ MD_E_removeSegment σ0 r z 44 [(0, va_rf (some th))] []) : ∀ q : Int32 × Mem, lp (fun q => E_removeSegment_l2 q.2 th q.1) q = some t → V Γ MD_E_removeSegment σ0 r q.2 2 [(0, va_rf (some th)), (2, .int q.1)] [] := by
  refine lp_ind (fun (q : Int32 × Mem) => V Γ MD_E_removeSegment σ0 r q.2 2 [(0, va_rf (some th)), (2, .int q.1)] []) (fun q x hf ih ho => ?_)
  obtain ⟨x2, σ⟩ := q
  show V Γ MD_E_removeSegment σ0 r σ 2 [(0, va_rf (some th)), (2, .int x2)] []
  replace hf : E_removeSegment_l2 σ th x2 = some x := hf
  unfold E_removeSegment_l2 at hf
  refine r_iload_n 1 dX11_removeSegment_2 rfl rfl ?_
  refine r_if_lt 44 hf dX11_removeSegment_3 (by decide) (fun c1 hf => ?_) (fun c1 hf => ?_)
  · refine r_sub (L' := [(0, _)]) [0] rfl ?_
    exact hk0 _ (ho _ (Option.some.inj hf).symm)
  · refine r_iload_n 1 dX11_removeSegment_6 rfl rfl ?_
    refine r_iconst (1 : Int32) dX11_removeSegment_7 (by decide) ?_
    refine r_iadd dX11_removeSegment_8 ?_
    refine r_aload_n 0 dX11_removeSegment_9 rfl rfl ?_
    refine r_ldI hf dX11_removeSegment_10 fl_RX11_104 rfl (fun v2 ev2 hf => ?_)
    refine r_icmp_ge 44 hf dX11_removeSegment_13 (by decide) (fun c3 hf => ?_) (fun c3 hf => ?_)
    · refine r_sub (L' := [(0, _)]) [0] rfl ?_
      exact hk0 _ (ho _ (Option.some.inj hf).symm)
    · refine r_iload_n 1 dX11_removeSegment_16 rfl rfl ?_
      refine r_iconst (1 : Int32) dX11_removeSegment_17 (by decide) ?_
      refine r_iadd dX11_removeSegment_18 ?_
      refine r_bipush (16 : Int32) dX11_removeSegment_19 (by decide) ?_
      refine r_icmp_ge 44 hf dX11_removeSegment_21 (by decide) (fun c4 hf => ?_) (fun c4 hf => ?_)
      · refine r_sub (L' := [(0, _)]) [0] rfl ?_
        exact hk0 _ (ho _ (Option.some.inj hf).symm)
      · refine r_aload_n 0 dX11_removeSegment_24 rfl rfl ?_
        refine r_ldR hf dX11_removeSegment_25 fl_RX11_30 rfl (fun v5 ev5 hf => ?_)
        refine r_iload_n 1 dX11_removeSegment_28 rfl rfl ?_
        refine r_aload_n 0 dX11_removeSegment_29 rfl rfl ?_
        refine r_ldR hf dX11_removeSegment_30 fl_RX11_30 rfl (fun v6 ev6 hf => ?_)
        refine r_iload_n 1 dX11_removeSegment_33 rfl rfl ?_
        refine r_iconst (1 : Int32) dX11_removeSegment_34 (by decide) ?_
        refine r_iadd dX11_removeSegment_35 ?_
        refine r_raR hf dX11_removeSegment_36 (by decide) (by decide) (fun v7 ev7 hf => ?_)
        refine r_waR hf dX11_removeSegment_37 (by decide) (by decide) (by decide) rfl (fun m8 em8 hf => ?_)
        refine r_iinc (1 : Int32) (L' := [(2, _), (0, _)]) 1 dX11_removeSegment_38 rfl (by decide) (show 2 < 3 by decide) rfl ?_
        refine r_goto 2 dX11_removeSegment_41 (by decide) ?_
        refine r_sub (L' := [(0, _), (2, _)]) [1, 0] rfl ?_
        exact ih _ (Option.some.inj hf).symm
set_option maxRecDepth 100000 in
set_option maxHeartbeats 4000000 in
theorem t_E_removeSegment {Γ : W0} {σ : Mem} {th : Nat} {x1 : Int32} {σ' : Mem} (hf : E_removeSegment σ th x1 = some σ') : CT Γ MD_E_removeSegment yX11_removeSegment [va_rf (some th), .int x1] σ (none, σ') := by
  refine CT.of (L := [(0, va_rf (some th)), (1, .int x1)]) rfl (by decide) (fun h => Bool.noConfusion (show false = true from h)) (Nat.le_of_ble_eq_true rfl) rfl ?_
  unfold E_removeSegment at hf
  generalize hr : mkR Γ σ (none) σ' = r
  refine r_iload_n 1 dX11_removeSegment_0 rfl rfl ?_
  refine r_istore_n (L' := [(2, _), (0, _), (1, _)]) dX11_removeSegment_1 rfl (show 2 < 3 by decide) rfl ?_
  refine bnd hf (fun t9 et9 hf => ?_)
  refine r_sub (L' := [(0, _), (2, _)]) [1, 0] rfl ?_
  refine x_E_removeSegment_l2 ?_ _ et9
  · intro z10 hz10
    subst hz10
    refine r_aload_n 0 dX11_removeSegment_44 rfl rfl ?_
    refine r_iconst (0 : Int32) dX11_removeSegment_45 (by decide) ?_
    refine r_aload_n 0 dX11_removeSegment_46 rfl rfl ?_
    refine r_ldI hf dX11_removeSegment_47 fl_RX11_104 rfl (fun v11 ev11 hf => ?_)
    refine r_iconst (1 : Int32) dX11_removeSegment_50 (by decide) ?_
    refine r_isub dX11_removeSegment_51 ?_
    refine r_mmax dX11_removeSegment_52 ww_637 ww_579 ww_103 ww_580 (by decide) (Nat.le_of_ble_eq_true rfl) ?_
    refine r_stI hf dX11_removeSegment_55 fl_RX11_104 rfl rfl rfl (fun m12 em12 hf => ?_)
    exact r_vret rfl dX11_removeSegment_58 (by have h1 := (Option.some.inj hf); subst h1; exact hr.symm)
/-! SearchEngine.mergeFirst -/
noncomputable def E_mergeFirst_l15 (σ : Mem) (th : Nat) (x1 : Int32) (x2 : Int32) (x3 : Int32) (x4 : Int32) (x5 : Int32) : Option ((Int32 × Int32 × Int32 × Int32 × Mem) ⊕ (Int32 × Int32 × Mem)) :=
  (ldI σ 11 7 (some th)).bind fun v2 =>
  if v2 ≤ x5 then
    some (Sum.inr (x3, x4, σ))
  else
    (chk σ 11 (some th)).bind fun a4 =>
    (E_segmentAt σ a4 x5).bind fun v5 =>
    Option.bind (
      jn (
        if v5 = none then
          some (Sum.inr ())
        else
          (ldI σ 6 0 v5).bind fun v9 =>
          if ¬ v9 = x1 then
            some (Sum.inr ())
          else
            if (4 : Int32) ≤ x2 then
              some (Sum.inr ())
            else
              Option.bind (
                if ¬ x2 = 0 then
                  some (x3, x4)
                else
                  some (x4, (x4 + (1 : Int32)))) fun q12 =>
              (chk σ 11 (some th)).bind fun a14 =>
              (E_gatherAll σ a14 v5).bind fun v15 =>
              some (Sum.inl ((x2 + (1 : Int32)), q12.1, q12.2, v15))) fun q7 =>
      if v5 = none then
        some (x2, x3, x4, σ)
      else
        (ldR σ 11 6 (some th)).bind fun v17 =>
        (waR σ 5 6 v17 x4 v5).bind fun m18 =>
        some (x2, x3, (x4 + (1 : Int32)), m18)) fun q6 =>
    some (Sum.inl (q6.1, q6.2.1, q6.2.2.1, (x5 + (1 : Int32)), q6.2.2.2))
noncomputable def E_mergeFirst (σ : Mem) (th : Nat) (x1 : Int32) : Option Mem :=
  (stI σ 11 10 (some th) (0 : Int32)).bind fun m1 =>
  (lp (fun q => E_mergeFirst_l15 q.2.2.2.2 th x1 q.1 q.2.1 q.2.2.1 q.2.2.2.1) ((0 : Int32), (0 : Int32), (0 : Int32), (0 : Int32), m1)).bind fun z20 =>
  (stI z20.2.2 11 7 (some th) z20.2.1).bind fun m21 =>
  (ldI m21 11 8 (some th)).bind fun v22 =>
  (stI m21 11 8 (some th) (v22 + (1 : Int32))).bind fun m23 =>
  (ldI m23 11 10 (some th)).bind fun v24 =>
  if ¬ v24 = 0 then
    if z20.2.1 ≤ z20.1 then
      some m23
    else
      (ldR m23 11 6 (some th)).bind fun v27 =>
      (some (nwO m23 6)).bind fun m28 =>
      (ldR m28 11 9 (some th)).bind fun v29 =>
      (ldI m28 11 10 (some th)).bind fun v30 =>
      (Se_init m28 (gN m23) (x1 + (1 : Int32)) v29 v30).bind fun v31 =>
      (waR v31 5 6 v27 z20.1 (some (gN m23))).bind fun m32 =>
      some m32
  else
    (chk m23 11 (some th)).bind fun a33 =>
    (E_removeSegment m23 a33 z20.1).bind fun v34 =>
    some v34
set_option maxRecDepth 100000 in
set_option maxHeartbeats 4000000 in
theorem x_E_mergeFirst_l15 {Γ : W0} {σ0 : Mem} {r : RT} {th : Nat} {x1 : Int32} {t : Int32 × Int32 × Mem} (hk0 : ∀ z : Int32 × Int32 × Mem, z = t → V Γ MD_E_mergeFirst σ0 r z.2.2 96 [(0, va_rf (some th)), (1, .int x1), (3, .int z.1), (4, .int z.2.1)] []) : ∀ q : Int32 × Int32 × Int32 × Int32 × Mem, lp (fun q => E_mergeFirst_l15 q.2.2.2.2 th x1 q.1 q.2.1 q.2.2.1 q.2.2.2.1) q = some t → V Γ MD_E_mergeFirst σ0 r q.2.2.2.2 15 [(0, va_rf (some th)), (1, .int x1), (2, .int q.1), (3, .int q.2.1), (4, .int q.2.2.1), (5, .int q.2.2.2.1)] [] := by
  refine lp_ind (fun (q : Int32 × Int32 × Int32 × Int32 × Mem) => V Γ MD_E_mergeFirst σ0 r q.2.2.2.2 15 [(0, va_rf (some th)), (1, .int x1), (2, .int q.1), (3, .int q.2.1), (4, .int q.2.2.1), (5, .int q.2.2.2.1)] []) (fun q x hf ih ho => ?_)
  obtain ⟨x2, x3, x4, x5, σ⟩ := q
  show V Γ MD_E_mergeFirst σ0 r σ 15 [(0, va_rf (some th)), (1, .int x1), (2, .int x2), (3, .int x3), (4, .int x4), (5, .int x5)] []
  replace hf : E_mergeFirst_l15 σ th x1 x2 x3 x4 x5 = some x := hf
  unfold E_mergeFirst_l15 at hf
  refine r_iload 5 dX11_mergeFirst_15 rfl ?_
  refine r_aload_n 0 dX11_mergeFirst_17 rfl rfl ?_
  refine r_ldI hf dX11_mergeFirst_18 fl_RX11_104 rfl (fun v2 ev2 hf => ?_)
  refine r_icmp_ge 96 hf dX11_mergeFirst_21 (by decide) (fun c3 hf => ?_) (fun c3 hf => ?_)
  · refine r_sub (L' := [(0, _), (1, _), (3, _), (4, _)]) [0, 1, 3, 4] rfl ?_
    exact hk0 _ (ho _ (Option.some.inj hf).symm)
  · refine r_aload_n 0 dX11_mergeFirst_24 rfl rfl ?_
    refine r_iload 5 dX11_mergeFirst_25 rfl ?_
    refine r_chk hf (fun a4 xa4 ta4 hf => ?_)
    refine bnd hf (fun v5 ev5 hf => ?_)
    refine r_callVr (ci := 11) xa4 dX11_mergeFirst_27 cs_RX11_230 ww_623 ww_9 (by decide) ta4 (by decide) rfl (rest := []) rfl (Or.inl (Nat.le_of_ble_eq_true rfl)) (t_E_segmentAt ev5) ?_
    refine r_astore (L' := [(6, _), (0, _), (1, _), (2, _), (3, _), (4, _), (5, _)]) dX11_mergeFirst_30 (show 6 < 7 by decide) rfl ?_
    refine r_aload 0 dX11_mergeFirst_32 rfl ?_
    refine r_bd (fun (q6 : Int32 × Int32 × Int32 × Mem) => V Γ MD_E_mergeFirst σ0 r q6.2.2.2 90 [(0, va_rf (some th)), (1, .int x1), (2, .int q6.1), (3, .int q6.2.1), (4, .int q6.2.2.1), (5, .int x5)] []) hf (fun q6 hf => ?_) (fun yq6 hf kq6 => ?_)
    · refine r_iinc (1 : Int32) (L' := [(5, _), (0, _), (1, _), (2, _), (3, _), (4, _)]) 5 dX11_mergeFirst_90 rfl (by decide) (show 5 < 7 by decide) rfl ?_
      refine r_goto 15 dX11_mergeFirst_93 (by decide) ?_
      refine r_sub (L' := [(0, _), (1, _), (2, _), (3, _), (4, _), (5, _)]) [1, 2, 3, 4, 5, 0] rfl ?_
      exact ih _ (Option.some.inj hf).symm
    · refine r_jn (fun (q7 : Unit) => V Γ MD_E_mergeFirst σ0 r σ 73 [(0, va_rf (some th)), (1, .int x1), (2, .int x2), (3, .int x3), (4, .int x4), (5, .int x5), (6, va_rf v5)] []) hf (fun q7 hf => ?_) (fun yq7 hf oq7 kq7 => ?_)
      · refine r_aload 6 dX11_mergeFirst_73 rfl ?_
        refine r_ifnull 90 hf dX11_mergeFirst_75 (by decide) (fun c16 hf => ?_) (fun c16 hf => ?_)
        · refine r_sub (L' := [(0, _), (1, _), (2, _), (3, _), (4, _), (5, _)]) [0, 1, 2, 3, 4, 5] rfl ?_
          cases (Option.some.inj hf)
          exact kq6
        · refine r_aload_n 0 dX11_mergeFirst_78 rfl rfl ?_
          refine r_ldR hf dX11_mergeFirst_79 fl_RX11_30 rfl (fun v17 ev17 hf => ?_)
          refine r_iload 4 dX11_mergeFirst_82 rfl ?_
          refine r_aload 6 dX11_mergeFirst_84 rfl ?_
          refine r_waR hf dX11_mergeFirst_86 (by decide) (by decide) (by decide) rfl (fun m18 em18 hf => ?_)
          refine r_iinc (1 : Int32) (L' := [(4, _), (0, _), (1, _), (2, _), (3, _), (5, _), (6, _)]) 4 dX11_mergeFirst_87 rfl (by decide) (show 4 < 7 by decide) rfl ?_
          refine r_sub (L' := [(0, _), (1, _), (2, _), (3, _), (4, _), (5, _)]) [1, 2, 3, 4, 0, 5] rfl ?_
          cases (Option.some.inj hf)
          exact kq6
      · refine r_ifnull 73 hf dX11_mergeFirst_34 (by decide) (fun c8 hf => ?_) (fun c8 hf => ?_)
        · refine r_sub (L' := [(0, _), (1, _), (2, _), (3, _), (4, _), (5, _), (6, _)]) [1, 2, 3, 4, 5, 6, 0] rfl ?_
          exact kq7 _ (Option.some.inj hf).symm
        · refine r_aload 0 dX11_mergeFirst_37 rfl ?_
          refine r_ldI hf dX11_mergeFirst_39 fl_RX11_234 rfl (fun v9 ev9 hf => ?_)
          refine r_iload_n 2 dX11_mergeFirst_42 rfl rfl ?_
          refine r_icmp_ne 73 hf dX11_mergeFirst_43 (by decide) (fun c10 hf => ?_) (fun c10 hf => ?_)
          · refine r_sub (L' := [(0, _), (1, _), (2, _), (3, _), (4, _), (5, _), (6, _)]) [1, 2, 3, 4, 5, 6, 0] rfl ?_
            exact kq7 _ (Option.some.inj hf).symm
          · refine r_iload_n 3 dX11_mergeFirst_46 rfl rfl ?_
            refine r_iconst (4 : Int32) dX11_mergeFirst_47 (by decide) ?_
            refine r_icmp_ge 73 hf dX11_mergeFirst_48 (by decide) (fun c11 hf => ?_) (fun c11 hf => ?_)
            · refine r_sub (L' := [(0, _), (1, _), (2, _), (3, _), (4, _), (5, _), (6, _)]) [1, 2, 3, 4, 5, 6, 0] rfl ?_
              exact kq7 _ (Option.some.inj hf).symm
            · refine r_iload_n 3 dX11_mergeFirst_51 rfl rfl ?_
              refine r_bd (fun (q12 : Int32 × Int32) => V Γ MD_E_mergeFirst σ0 r σ 61 [(0, va_rf (some th)), (1, .int x1), (2, .int x2), (3, .int q12.1), (4, .int q12.2), (5, .int x5), (6, va_rf v5)] []) hf (fun q12 hf => ?_) (fun yq12 hf kq12 => ?_)
              · refine r_iinc (1 : Int32) (L' := [(2, _), (0, _), (1, _), (3, _), (4, _), (5, _), (6, _)]) 2 dX11_mergeFirst_61 rfl (by decide) (show 2 < 7 by decide) rfl ?_
                refine r_aload_n 1 dX11_mergeFirst_64 rfl rfl ?_
                refine r_aload 6 dX11_mergeFirst_65 rfl ?_
                refine r_chk hf (fun a14 xa14 ta14 hf => ?_)
                refine bnd hf (fun v15 ev15 hf => ?_)
                refine r_callVv (ci := 11) xa14 dX11_mergeFirst_67 cs_RX11_302 ww_631 ww_11 (by decide) ta14 (by decide) rfl (rest := []) rfl (Or.inl (Nat.le_of_ble_eq_true rfl)) (t_E_gatherAll ev15) ?_
                refine r_goto 90 dX11_mergeFirst_70 (by decide) ?_
                refine r_sub (L' := [(0, _), (1, _), (2, _), (3, _), (4, _), (5, _)]) [1, 2, 0, 3, 4, 5] rfl ?_
                cases (oq7 _ (Option.some.inj hf).symm)
                exact kq6
              · refine r_if_ne 61 hf dX11_mergeFirst_52 (by decide) (fun c13 hf => ?_) (fun c13 hf => ?_)
                · refine r_sub (L' := [(0, _), (1, _), (2, _), (3, _), (4, _), (5, _), (6, _)]) [1, 2, 3, 4, 5, 6, 0] rfl ?_
                  cases (Option.some.inj hf)
                  exact kq12
                · refine r_iload 5 dX11_mergeFirst_55 rfl ?_
                  refine r_istore_n (L' := [(3, _), (6, _), (0, _), (1, _), (2, _), (4, _), (5, _)]) dX11_mergeFirst_57 rfl (show 3 < 7 by decide) rfl ?_
                  refine r_iinc (1 : Int32) (L' := [(4, _), (3, _), (6, _), (0, _), (1, _), (2, _), (5, _)]) 5 dX11_mergeFirst_58 rfl (by decide) (show 4 < 7 by decide) rfl ?_
                  refine r_sub (L' := [(0, _), (1, _), (2, _), (3, _), (4, _), (5, _), (6, _)]) [3, 4, 5, 1, 0, 6, 2] rfl ?_
                  cases (Option.some.inj hf)
                  exact kq12
set_option maxRecDepth 100000 in
set_option maxHeartbeats 4000000 in
theorem t_E_mergeFirst {Γ : W0} {σ : Mem} {th : Nat} {x1 : Int32} {σ' : Mem} (hf : E_mergeFirst σ th x1 = some σ') : CT Γ MD_E_mergeFirst yX11_mergeFirst [va_rf (some th), .int x1] σ (none, σ') := by
  refine CT.of (L := [(0, va_rf (some th)), (1, .int x1)]) rfl (by decide) (fun h => Bool.noConfusion (show false = true from h)) (Nat.le_of_ble_eq_true rfl) rfl ?_
  unfold E_mergeFirst at hf
  generalize hr : mkR Γ σ (none) σ' = r
  refine r_aload_n 0 dX11_mergeFirst_0 rfl rfl ?_
  refine r_iconst (0 : Int32) dX11_mergeFirst_1 (by decide) ?_
  refine r_stI hf dX11_mergeFirst_2 fl_RX11_285 rfl rfl rfl (fun m1 em1 hf => ?_)
  refine r_iconst (0 : Int32) dX11_mergeFirst_5 (by decide) ?_
  refine r_istore_n (L' := [(2, _), (0, _), (1, _)]) dX11_mergeFirst_6 rfl (show 2 < 7 by decide) rfl ?_
  refine r_iconst (0 : Int32) dX11_mergeFirst_7 (by decide) ?_
  refine r_istore_n (L' := [(3, _), (2, _), (0, _), (1, _)]) dX11_mergeFirst_8 rfl (show 3 < 7 by decide) rfl ?_
  refine r_iconst (0 : Int32) dX11_mergeFirst_9 (by decide) ?_
  refine r_istore (L' := [(4, _), (3, _), (2, _), (0, _), (1, _)]) dX11_mergeFirst_10 (show 4 < 7 by decide) rfl ?_
  refine r_iconst (0 : Int32) dX11_mergeFirst_12 (by decide) ?_
  refine r_istore (L' := [(5, _), (4, _), (3, _), (2, _), (0, _), (1, _)]) dX11_mergeFirst_13 (show 5 < 7 by decide) rfl ?_
  refine bnd hf (fun t19 et19 hf => ?_)
  refine r_sub (L' := [(0, _), (1, _), (2, _), (3, _), (4, _), (5, _)]) [4, 5, 3, 2, 1, 0] rfl ?_
  refine x_E_mergeFirst_l15 ?_ _ et19
  · intro z20 hz20
    subst hz20
    refine r_aload_n 0 dX11_mergeFirst_96 rfl rfl ?_
    refine r_iload 3 dX11_mergeFirst_97 rfl ?_
    refine r_stI hf dX11_mergeFirst_99 fl_RX11_104 rfl rfl rfl (fun m21 em21 hf => ?_)
    refine r_aload_n 0 dX11_mergeFirst_102 rfl rfl ?_
    refine r_dup dX11_mergeFirst_103 (cat_rf _) ?_
    refine r_ldI hf dX11_mergeFirst_104 fl_RX11_271 rfl (fun v22 ev22 hf => ?_)
    refine r_iconst (1 : Int32) dX11_mergeFirst_107 (by decide) ?_
    refine r_iadd dX11_mergeFirst_108 ?_
    refine r_stI hf dX11_mergeFirst_109 fl_RX11_271 rfl rfl rfl (fun m23 em23 hf => ?_)
    refine r_aload_n 0 dX11_mergeFirst_112 rfl rfl ?_
    refine r_ldI hf dX11_mergeFirst_113 fl_RX11_285 rfl (fun v24 ev24 hf => ?_)
    refine r_if_ne 127 hf dX11_mergeFirst_116 (by decide) (fun c25 hf => ?_) (fun c25 hf => ?_)
    · refine r_iload_n 2 dX11_mergeFirst_127 rfl rfl ?_
      refine r_iload 3 dX11_mergeFirst_128 rfl ?_
      refine r_icmp_ge 157 hf dX11_mergeFirst_130 (by decide) (fun c26 hf => ?_) (fun c26 hf => ?_)
      · exact r_vret rfl dX11_mergeFirst_157 (by have h1 := (Option.some.inj hf); subst h1; exact hr.symm)
      · refine r_aload_n 0 dX11_mergeFirst_133 rfl rfl ?_
        refine r_ldR hf dX11_mergeFirst_134 fl_RX11_30 rfl (fun v27 ev27 hf => ?_)
        refine r_iload_n 2 dX11_mergeFirst_137 rfl rfl ?_
        refine r_newX hf dX11_mergeFirst_138 (by decide) ww_193 ww_572 ww_107 (fun m28 em28 hf => ?_)
        refine r_dup dX11_mergeFirst_141 (cat_rf _) ?_
        refine r_iload_n 1 dX11_mergeFirst_142 rfl rfl ?_
        refine r_iconst (1 : Int32) dX11_mergeFirst_143 (by decide) ?_
        refine r_iadd dX11_mergeFirst_144 ?_
        refine r_aload_n 0 dX11_mergeFirst_145 rfl rfl ?_
        refine r_ldR hf dX11_mergeFirst_146 fl_RX11_34 rfl (fun v29 ev29 hf => ?_)
        refine r_aload_n 0 dX11_mergeFirst_149 rfl rfl ?_
        refine r_ldI hf dX11_mergeFirst_150 fl_RX11_285 rfl (fun v30 ev30 hf => ?_)
        refine bnd hf (fun v31 ev31 hf => ?_)
        refine r_callIv dX11_mergeFirst_153 cs_RX11_292 rfl rfl ww_574 (by decide) rfl (rest := [_, _, _]) rfl (Or.inl (Nat.le_of_ble_eq_true rfl)) (t_Se_init ev31) ?_
        refine r_waR hf dX11_mergeFirst_156 (by decide) (by decide) (by decide) rfl (fun m32 em32 hf => ?_)
        exact r_vret rfl dX11_mergeFirst_157 (by have h1 := (Option.some.inj hf); subst h1; exact hr.symm)
    · refine r_aload_n 0 dX11_mergeFirst_119 rfl rfl ?_
      refine r_iload_n 2 dX11_mergeFirst_120 rfl rfl ?_
      refine r_chk hf (fun a33 xa33 ta33 hf => ?_)
      refine bnd hf (fun v34 ev34 hf => ?_)
      refine r_callVv (ci := 11) xa33 dX11_mergeFirst_121 cs_RX11_306 ww_635 ww_12 (by decide) ta33 (by decide) rfl (rest := []) rfl (Or.inl (Nat.le_of_ble_eq_true rfl)) (t_E_removeSegment ev34) ?_
      refine r_goto 157 dX11_mergeFirst_124 (by decide) ?_
      exact r_vret rfl dX11_mergeFirst_157 (by have h1 := (Option.some.inj hf); subst h1; exact hr.symm)
/-! SearchEngine.flush -/
noncomputable def E_flush_l10 (σ : Mem) (th : Nat) (x1 : Int32) : Option ((Int32 × Mem) ⊕ Mem) :=
  (ldI σ 11 4 (some th)).bind fun v3 =>
  if v3 ≤ x1 then
    some (Sum.inr σ)
  else
    (chk σ 11 (some th)).bind fun a5 =>
    (E_documentAt σ a5 x1).bind fun v6 =>
    (chk σ 11 (some th)).bind fun a7 =>
    (E_gather σ a7 v6).bind fun v8 =>
    some (Sum.inl ((x1 + (1 : Int32)), v8))
noncomputable def E_flush_l99 (σ : Mem) (th : Nat) (x1 : Int32) (x2 : Int32) : Option ((Int32 × Int32 × Mem) ⊕ Mem) :=
  if (400 : Int32) ≤ x2 then
    some (Sum.inr σ)
  else
    if x1 < 0 then
      some (Sum.inr σ)
    else
      (chk σ 11 (some th)).bind fun a31 =>
      (E_mergeFirst σ a31 x1).bind fun v32 =>
      (chk v32 11 (some th)).bind fun a33 =>
      (E_leastFullLevel v32 a33).bind fun v34 =>
      some (Sum.inl (v34, (x2 + (1 : Int32)), v32))
noncomputable def E_flush (σ : Mem) (th : Nat) : Option Mem :=
  (stI σ 11 10 (some th) (0 : Int32)).bind fun m1 =>
  (ldI m1 11 5 (some th)).bind fun v2 =>
  (lp (fun q => E_flush_l10 q.2 th q.1) (v2, m1)).bind fun z10 =>
  (ldI z10 11 4 (some th)).bind fun v11 =>
  (stI z10 11 5 (some th) v11).bind fun m12 =>
  (ldI m12 11 10 (some th)).bind fun v13 =>
  Option.bind (
    if v13 ≤ 0 then
      some m12
    else
      (ldI m12 11 7 (some th)).bind fun v16 =>
      if (16 : Int32) ≤ v16 then
        some m12
      else
        (ldR m12 11 6 (some th)).bind fun v18 =>
        (ldI m12 11 7 (some th)).bind fun v19 =>
        (some (nwO m12 6)).bind fun m20 =>
        (ldR m20 11 9 (some th)).bind fun v21 =>
        (ldI m20 11 10 (some th)).bind fun v22 =>
        (Se_init m20 (gN m12) (0 : Int32) v21 v22).bind fun v23 =>
        (waR v23 5 6 v18 v19 (some (gN m12))).bind fun m24 =>
        (ldI m24 11 7 (some th)).bind fun v25 =>
        (stI m24 11 7 (some th) (v25 + (1 : Int32))).bind fun m26 =>
        some m26) fun q14 =>
  (chk q14 11 (some th)).bind fun a27 =>
  (E_leastFullLevel q14 a27).bind fun v28 =>
  (lp (fun q => E_flush_l99 q.2.2 th q.1 q.2.1) (v28, (0 : Int32), q14)).bind fun z36 =>
  some z36
set_option maxRecDepth 100000 in
set_option maxHeartbeats 4000000 in
theorem x_E_flush_l10 {Γ : W0} {σ0 : Mem} {r : RT} {th : Nat} {t : Mem} (hk0 : ∀ z : Mem, z = t → V Γ MD_E_flush σ0 r z 33 [(0, va_rf (some th))] []) : ∀ q : Int32 × Mem, lp (fun q => E_flush_l10 q.2 th q.1) q = some t → V Γ MD_E_flush σ0 r q.2 10 [(0, va_rf (some th)), (1, .int q.1)] [] := by
  refine lp_ind (fun (q : Int32 × Mem) => V Γ MD_E_flush σ0 r q.2 10 [(0, va_rf (some th)), (1, .int q.1)] []) (fun q x hf ih ho => ?_)
  obtain ⟨x1, σ⟩ := q
  show V Γ MD_E_flush σ0 r σ 10 [(0, va_rf (some th)), (1, .int x1)] []
  replace hf : E_flush_l10 σ th x1 = some x := hf
  unfold E_flush_l10 at hf
  refine r_iload_n 1 dX11_flush_10 rfl rfl ?_
  refine r_aload_n 0 dX11_flush_11 rfl rfl ?_
  refine r_ldI hf dX11_flush_12 fl_RX11_83 rfl (fun v3 ev3 hf => ?_)
  refine r_icmp_ge 33 hf dX11_flush_15 (by decide) (fun c4 hf => ?_) (fun c4 hf => ?_)
  · refine r_sub (L' := [(0, _)]) [0] rfl ?_
    exact hk0 _ (ho _ (Option.some.inj hf).symm)
  · refine r_aload_n 0 dX11_flush_18 rfl rfl ?_
    refine r_aload_n 0 dX11_flush_19 rfl rfl ?_
    refine r_iload_n 1 dX11_flush_20 rfl rfl ?_
    refine r_chk hf (fun a5 xa5 ta5 hf => ?_)
    refine bnd hf (fun v6 ev6 hf => ?_)
    refine r_callVr (ci := 11) xa5 dX11_flush_21 cs_RX11_274 ww_447 ww_3 (by decide) ta5 (by decide) rfl (rest := [_]) rfl (Or.inl (Nat.le_of_ble_eq_true rfl)) (t_E_documentAt ev6) ?_
    refine r_chk hf (fun a7 xa7 ta7 hf => ?_)
    refine bnd hf (fun v8 ev8 hf => ?_)
    refine r_callVv (ci := 11) xa7 dX11_flush_24 cs_RX11_288 ww_570 ww_7 (by decide) ta7 (by decide) rfl (rest := []) rfl (Or.inl (Nat.le_of_ble_eq_true rfl)) (t_E_gather ev8) ?_
    refine r_iinc (1 : Int32) (L' := [(1, _), (0, _)]) 1 dX11_flush_27 rfl (by decide) (show 1 < 3 by decide) rfl ?_
    refine r_goto 10 dX11_flush_30 (by decide) ?_
    refine r_sub (L' := [(0, _), (1, _)]) [1, 0] rfl ?_
    exact ih _ (Option.some.inj hf).symm
set_option maxRecDepth 100000 in
set_option maxHeartbeats 4000000 in
theorem x_E_flush_l99 {Γ : W0} {σ0 : Mem} {r : RT} {th : Nat} {t : Mem} (hk0 : ∀ z : Mem, z = t → V Γ MD_E_flush σ0 r z 126 [] []) : ∀ q : Int32 × Int32 × Mem, lp (fun q => E_flush_l99 q.2.2 th q.1 q.2.1) q = some t → V Γ MD_E_flush σ0 r q.2.2 99 [(0, va_rf (some th)), (1, .int q.1), (2, .int q.2.1)] [] := by
  refine lp_ind (fun (q : Int32 × Int32 × Mem) => V Γ MD_E_flush σ0 r q.2.2 99 [(0, va_rf (some th)), (1, .int q.1), (2, .int q.2.1)] []) (fun q x hf ih ho => ?_)
  obtain ⟨x1, x2, σ⟩ := q
  show V Γ MD_E_flush σ0 r σ 99 [(0, va_rf (some th)), (1, .int x1), (2, .int x2)] []
  replace hf : E_flush_l99 σ th x1 x2 = some x := hf
  unfold E_flush_l99 at hf
  refine r_iload_n 2 dX11_flush_99 rfl rfl ?_
  refine r_sipush (400 : Int32) dX11_flush_100 (by decide) ?_
  refine r_icmp_ge 126 hf dX11_flush_103 (by decide) (fun c29 hf => ?_) (fun c29 hf => ?_)
  · refine r_sub (L' := []) [] rfl ?_
    exact hk0 _ (ho _ (Option.some.inj hf).symm)
  · refine r_iload_n 1 dX11_flush_106 rfl rfl ?_
    refine r_if_lt 126 hf dX11_flush_107 (by decide) (fun c30 hf => ?_) (fun c30 hf => ?_)
    · refine r_sub (L' := []) [] rfl ?_
      exact hk0 _ (ho _ (Option.some.inj hf).symm)
    · refine r_aload_n 0 dX11_flush_110 rfl rfl ?_
      refine r_iload_n 1 dX11_flush_111 rfl rfl ?_
      refine r_chk hf (fun a31 xa31 ta31 hf => ?_)
      refine bnd hf (fun v32 ev32 hf => ?_)
      refine r_callVv (ci := 11) xa31 dX11_flush_112 cs_RX11_298 ww_627 ww_10 (by decide) ta31 (by decide) rfl (rest := []) rfl (Or.inl (Nat.le_of_ble_eq_true rfl)) (t_E_mergeFirst ev32) ?_
      refine r_aload_n 0 dX11_flush_115 rfl rfl ?_
      refine r_chk hf (fun a33 xa33 ta33 hf => ?_)
      refine bnd hf (fun v34 ev34 hf => ?_)
      refine r_callVr (ci := 11) xa33 dX11_flush_116 cs_RX11_295 ww_619 ww_8 (by decide) ta33 (by decide) rfl (rest := []) rfl (Or.inl (Nat.le_of_ble_eq_true rfl)) (t_E_leastFullLevel ev34) ?_
      refine r_istore_n (L' := [(1, _), (0, _), (2, _)]) dX11_flush_119 rfl (show 1 < 3 by decide) rfl ?_
      refine r_iinc (1 : Int32) (L' := [(2, _), (1, _), (0, _)]) 2 dX11_flush_120 rfl (by decide) (show 2 < 3 by decide) rfl ?_
      refine r_goto 99 dX11_flush_123 (by decide) ?_
      refine r_sub (L' := [(0, _), (1, _), (2, _)]) [2, 1, 0] rfl ?_
      exact ih _ (Option.some.inj hf).symm
set_option maxRecDepth 100000 in
set_option maxHeartbeats 4000000 in
theorem t_E_flush {Γ : W0} {σ : Mem} {th : Nat} {σ' : Mem} (hf : E_flush σ th = some σ') : CT Γ MD_E_flush yX11_flush [va_rf (some th)] σ (none, σ') := by
  refine CT.of (L := [(0, va_rf (some th))]) rfl (by decide) (fun h => Bool.noConfusion (show false = true from h)) (Nat.le_of_ble_eq_true rfl) rfl ?_
  unfold E_flush at hf
  generalize hr : mkR Γ σ (none) σ' = r
  refine r_aload_n 0 dX11_flush_0 rfl rfl ?_
  refine r_iconst (0 : Int32) dX11_flush_1 (by decide) ?_
  refine r_stI hf dX11_flush_2 fl_RX11_285 rfl rfl rfl (fun m1 em1 hf => ?_)
  refine r_aload_n 0 dX11_flush_5 rfl rfl ?_
  refine r_ldI hf dX11_flush_6 fl_RX11_282 rfl (fun v2 ev2 hf => ?_)
  refine r_istore_n (L' := [(1, _), (0, _)]) dX11_flush_9 rfl (show 1 < 3 by decide) rfl ?_
  refine bnd hf (fun t9 et9 hf => ?_)
  refine r_sub (L' := [(0, _), (1, _)]) [1, 0] rfl ?_
  refine x_E_flush_l10 ?_ _ et9
  · intro z10 hz10
    subst hz10
    refine r_aload_n 0 dX11_flush_33 rfl rfl ?_
    refine r_aload_n 0 dX11_flush_34 rfl rfl ?_
    refine r_ldI hf dX11_flush_35 fl_RX11_83 rfl (fun v11 ev11 hf => ?_)
    refine r_stI hf dX11_flush_38 fl_RX11_282 rfl rfl rfl (fun m12 em12 hf => ?_)
    refine r_aload_n 0 dX11_flush_41 rfl rfl ?_
    refine r_ldI hf dX11_flush_42 fl_RX11_285 rfl (fun v13 ev13 hf => ?_)
    refine r_bd (fun (q14 : Mem) => V Γ MD_E_flush σ r q14 92 [(0, va_rf (some th))] []) hf (fun q14 hf => ?_) (fun yq14 hf kq14 => ?_)
    · refine r_aload_n 0 dX11_flush_92 rfl rfl ?_
      refine r_chk hf (fun a27 xa27 ta27 hf => ?_)
      refine bnd hf (fun v28 ev28 hf => ?_)
      refine r_callVr (ci := 11) xa27 dX11_flush_93 cs_RX11_295 ww_619 ww_8 (by decide) ta27 (by decide) rfl (rest := []) rfl (Or.inl (Nat.le_of_ble_eq_true rfl)) (t_E_leastFullLevel ev28) ?_
      refine r_istore_n (L' := [(1, _), (0, _)]) dX11_flush_96 rfl (show 1 < 3 by decide) rfl ?_
      refine r_iconst (0 : Int32) dX11_flush_97 (by decide) ?_
      refine r_istore_n (L' := [(2, _), (1, _), (0, _)]) dX11_flush_98 rfl (show 2 < 3 by decide) rfl ?_
      refine bnd hf (fun t35 et35 hf => ?_)
      refine r_sub (L' := [(0, _), (1, _), (2, _)]) [2, 1, 0] rfl ?_
      refine x_E_flush_l99 ?_ _ et35
      · intro z36 hz36
        subst hz36
        exact r_vret rfl dX11_flush_126 (by have h1 := (Option.some.inj hf); subst h1; exact hr.symm)
    · refine r_if_le 92 hf dX11_flush_45 (by decide) (fun c15 hf => ?_) (fun c15 hf => ?_)
      · refine r_sub (L' := [(0, _)]) [0] rfl ?_
        cases (Option.some.inj hf)
        exact kq14
      · refine r_aload_n 0 dX11_flush_48 rfl rfl ?_
        refine r_ldI hf dX11_flush_49 fl_RX11_104 rfl (fun v16 ev16 hf => ?_)
        refine r_bipush (16 : Int32) dX11_flush_52 (by decide) ?_
        refine r_icmp_ge 92 hf dX11_flush_54 (by decide) (fun c17 hf => ?_) (fun c17 hf => ?_)
        · refine r_sub (L' := [(0, _)]) [0] rfl ?_
          cases (Option.some.inj hf)
          exact kq14
        · refine r_aload_n 0 dX11_flush_57 rfl rfl ?_
          refine r_ldR hf dX11_flush_58 fl_RX11_30 rfl (fun v18 ev18 hf => ?_)
          refine r_aload_n 0 dX11_flush_61 rfl rfl ?_
          refine r_ldI hf dX11_flush_62 fl_RX11_104 rfl (fun v19 ev19 hf => ?_)
          refine r_newX hf dX11_flush_65 (by decide) ww_193 ww_572 ww_107 (fun m20 em20 hf => ?_)
          refine r_dup dX11_flush_68 (cat_rf _) ?_
          refine r_iconst (0 : Int32) dX11_flush_69 (by decide) ?_
          refine r_aload_n 0 dX11_flush_70 rfl rfl ?_
          refine r_ldR hf dX11_flush_71 fl_RX11_34 rfl (fun v21 ev21 hf => ?_)
          refine r_aload_n 0 dX11_flush_74 rfl rfl ?_
          refine r_ldI hf dX11_flush_75 fl_RX11_285 rfl (fun v22 ev22 hf => ?_)
          refine bnd hf (fun v23 ev23 hf => ?_)
          refine r_callIv dX11_flush_78 cs_RX11_292 rfl rfl ww_574 (by decide) rfl (rest := [_, _, _]) rfl (Or.inl (Nat.le_of_ble_eq_true rfl)) (t_Se_init ev23) ?_
          refine r_waR hf dX11_flush_81 (by decide) (by decide) (by decide) rfl (fun m24 em24 hf => ?_)
          refine r_aload_n 0 dX11_flush_82 rfl rfl ?_
          refine r_dup dX11_flush_83 (cat_rf _) ?_
          refine r_ldI hf dX11_flush_84 fl_RX11_104 rfl (fun v25 ev25 hf => ?_)
          refine r_iconst (1 : Int32) dX11_flush_87 (by decide) ?_
          refine r_iadd dX11_flush_88 ?_
          refine r_stI hf dX11_flush_89 fl_RX11_104 rfl rfl rfl (fun m26 em26 hf => ?_)
          refine r_sub (L' := [(0, _)]) [0] rfl ?_
          cases (Option.some.inj hf)
          exact kq14
/-! SearchEngine.add -/
noncomputable def E_add (σ : Mem) (th : Nat) (x1 : Int64) (x3 : Int32) (x4 : Int32) : Option (Int32 × Mem) :=
  (chk σ 11 (some th)).bind fun a1 =>
  (E_takeTape σ a1).bind fun v2 =>
  (chk v2.2 11 (some th)).bind fun a3 =>
  (E_firstZero v2.2 a3 v2.1).bind fun v4 =>
  if (100 : Int32) < v4 then
    some ((-2 : Int32), v2.2)
  else
    if (v2.1 - (minI (v4 + (1 : Int32)) v2.1)) ≤ (400 : Int32) then
      (ldI v2.2 11 4 (some th)).bind fun v7 =>
      if v7 < (400 : Int32) then
        (chk v2.2 11 (some th)).bind fun a9 =>
        (E_drop v2.2 a9 x1).bind fun v10 =>
        (some (nwO v10.2 8)).bind fun m11 =>
        (ldR m11 11 1 (some th)).bind fun v12 =>
        (ldR m11 11 0 (some th)).bind fun v13 =>
        (Te_init m11 (gN v10.2) v12 (0 : Int32) v4 v13).bind fun v14 =>
        (some (nwO v14 8)).bind fun m15 =>
        (ldR m15 11 1 (some th)).bind fun v16 =>
        (ldR m15 11 0 (some th)).bind fun v17 =>
        (Te_init m15 (gN v14) v16 (minI (v4 + (1 : Int32)) v2.1) v2.1 v17).bind fun v18 =>
        (ldR v18 11 3 (some th)).bind fun v19 =>
        (ldI v18 11 4 (some th)).bind fun v20 =>
        (some (nwO v18 1)).bind fun m21 =>
        (ldI m21 11 4 (some th)).bind fun v22 =>
        (Do_init m21 (gN v18) x1 x3 x4 v22 (some (gN v10.2)) (some (gN v14))).bind fun v23 =>
        (waR v23 4 1 v19 v20 (some (gN v18))).bind fun m24 =>
        (ldI m24 11 4 (some th)).bind fun v25 =>
        (stI m24 11 4 (some th) (v25 + (1 : Int32))).bind fun m26 =>
        (chk m26 11 (some th)).bind fun a27 =>
        (E_liveInBuffer m26 a27).bind fun v28 =>
        Option.bind (
          if v28 < (16 : Int32) then
            some m26
          else
            (chk m26 11 (some th)).bind fun a31 =>
            (E_flush m26 a31).bind fun v32 =>
            some v32) fun q29 =>
        (ldI q29 11 4 (some th)).bind fun v33 =>
        some (v33, q29)
      else
        some ((-3 : Int32), v2.2)
    else
      some ((-2 : Int32), v2.2)
set_option maxRecDepth 100000 in
set_option maxHeartbeats 4000000 in
theorem t_E_add {Γ : W0} {σ : Mem} {th : Nat} {x1 : Int64} {x3 : Int32} {x4 : Int32} {v : Int32} {σ' : Mem} (hf : E_add σ th x1 x3 x4 = some (v, σ')) : CT Γ MD_E_add yX11_add [va_rf (some th), .long x1, .int x3, .int x4] σ (some (.int v), σ') := by
  refine CT.of (L := [(0, va_rf (some th)), (1, .long x1), (3, .int x3), (4, .int x4)]) rfl (by decide) (fun h => Bool.noConfusion (show false = true from h)) (Nat.le_of_ble_eq_true rfl) rfl ?_
  unfold E_add at hf
  generalize hr : mkR Γ σ (some (.int v)) σ' = r
  refine r_aload_n 0 dX11_add_0 rfl rfl ?_
  refine r_chk hf (fun a1 xa1 ta1 hf => ?_)
  refine bnd hf (fun v2 ev2 hf => ?_)
  refine r_callVr (ci := 11) xa1 dX11_add_1 cs_RX11_69 ww_432 ww_0 (by decide) ta1 (by decide) rfl (rest := []) rfl (Or.inl (Nat.le_of_ble_eq_true rfl)) (t_E_takeTape ev2) ?_
  refine r_istore (L' := [(5, _), (0, _), (1, _), (3, _), (4, _)]) dX11_add_4 (show 5 < 10 by decide) rfl ?_
  refine r_aload_n 1 dX11_add_6 rfl rfl ?_
  refine r_iload 0 dX11_add_7 rfl ?_
  refine r_chk hf (fun a3 xa3 ta3 hf => ?_)
  refine bnd hf (fun v4 ev4 hf => ?_)
  refine r_callVr (ci := 11) xa3 dX11_add_9 cs_RX11_73 ww_436 ww_1 (by decide) ta3 (by decide) rfl (rest := []) rfl (Or.inl (Nat.le_of_ble_eq_true rfl)) (t_E_firstZero ev4) ?_
  refine r_istore (L' := [(6, _), (5, _), (0, _), (1, _), (3, _), (4, _)]) dX11_add_12 (show 6 < 10 by decide) rfl ?_
  refine r_iload 0 dX11_add_14 rfl ?_
  refine r_iconst (1 : Int32) dX11_add_16 (by decide) ?_
  refine r_iadd dX11_add_17 ?_
  refine r_iload 1 dX11_add_18 rfl ?_
  refine r_mmin dX11_add_20 ww_438 ww_439 ww_103 ww_440 (by decide) (Nat.le_of_ble_eq_true rfl) ?_
  refine r_istore (L' := [(7, _), (6, _), (5, _), (0, _), (1, _), (3, _), (4, _)]) dX11_add_23 (show 7 < 10 by decide) rfl ?_
  refine r_iload 1 dX11_add_25 rfl ?_
  refine r_bipush (100 : Int32) dX11_add_27 (by decide) ?_
  refine r_icmp_gt 43 hf dX11_add_29 (by decide) (fun c5 hf => ?_) (fun c5 hf => ?_)
  · refine r_bipush (-2 : Int32) dX11_add_43 (by decide) ?_
    exact r_iret rfl dX11_add_45 (by obtain ⟨h1, h2⟩ := Prod.mk.inj (Option.some.inj hf); subst h1; subst h2; exact hr.symm)
  · refine r_iload 2 dX11_add_32 rfl ?_
    refine r_iload 0 dX11_add_34 rfl ?_
    refine r_isub dX11_add_36 ?_
    refine r_sipush (400 : Int32) dX11_add_37 (by decide) ?_
    refine r_icmp_le 46 hf dX11_add_40 (by decide) (fun c6 hf => ?_) (fun c6 hf => ?_)
    · refine r_aload_n 3 dX11_add_46 rfl rfl ?_
      refine r_ldI hf dX11_add_47 fl_RX11_83 rfl (fun v7 ev7 hf => ?_)
      refine r_sipush (400 : Int32) dX11_add_50 (by decide) ?_
      refine r_icmp_lt 59 hf dX11_add_53 (by decide) (fun c8 hf => ?_) (fun c8 hf => ?_)
      · refine r_aload_n 3 dX11_add_59 rfl rfl ?_
        refine r_lload_n 4 dX11_add_60 rfl rfl ?_
        refine r_chk hf (fun a9 xa9 ta9 hf => ?_)
        refine bnd hf (fun v10 ev10 hf => ?_)
        refine r_callVr (ci := 11) xa9 dX11_add_61 cs_RX11_86 ww_443 ww_2 (by decide) ta9 (by decide) rfl (rest := []) rfl (Or.inl (Nat.le_of_ble_eq_true rfl)) (t_E_drop ev10) ?_
        refine r_pop dX11_add_64 rfl ?_
        refine r_newX hf dX11_add_65 (by decide) ww_452 ww_453 ww_104 (fun m11 em11 hf => ?_)
        refine r_dup dX11_add_68 (cat_rf _) ?_
        refine r_aload_n 3 dX11_add_69 rfl rfl ?_
        refine r_ldR hf dX11_add_70 fl_RX11_18 rfl (fun v12 ev12 hf => ?_)
        refine r_iconst (0 : Int32) dX11_add_73 (by decide) ?_
        refine r_iload 1 dX11_add_74 rfl ?_
        refine r_aload_n 3 dX11_add_76 rfl rfl ?_
        refine r_ldR hf dX11_add_77 fl_RX11_12 rfl (fun v13 ev13 hf => ?_)
        refine bnd hf (fun v14 ev14 hf => ?_)
        refine r_callIv dX11_add_80 cs_RX11_92 rfl rfl ww_455 (by decide) rfl (rest := [_]) rfl (Or.inl (Nat.le_of_ble_eq_true rfl)) (t_Te_init ev14) ?_
        refine r_astore (L' := [(8, _), (7, _), (6, _), (5, _), (0, _), (1, _), (3, _), (4, _)]) dX11_add_83 (show 8 < 10 by decide) rfl ?_
        refine r_newX hf dX11_add_85 (by decide) ww_452 ww_453 ww_104 (fun m15 em15 hf => ?_)
        refine r_dup dX11_add_88 (cat_rf _) ?_
        refine r_aload_n 4 dX11_add_89 rfl rfl ?_
        refine r_ldR hf dX11_add_90 fl_RX11_18 rfl (fun v16 ev16 hf => ?_)
        refine r_iload 1 dX11_add_93 rfl ?_
        refine r_iload 3 dX11_add_95 rfl ?_
        refine r_aload_n 4 dX11_add_97 rfl rfl ?_
        refine r_ldR hf dX11_add_98 fl_RX11_12 rfl (fun v17 ev17 hf => ?_)
        refine bnd hf (fun v18 ev18 hf => ?_)
        refine r_callIv dX11_add_101 cs_RX11_92 rfl rfl ww_455 (by decide) rfl (rest := [_]) rfl (Or.inl (Nat.le_of_ble_eq_true rfl)) (t_Te_init ev18) ?_
        refine r_astore (L' := [(9, _), (8, _), (7, _), (6, _), (5, _), (0, _), (1, _), (3, _), (4, _)]) dX11_add_104 (show 9 < 10 by decide) rfl ?_
        refine r_aload_n 5 dX11_add_106 rfl rfl ?_
        refine r_ldR hf dX11_add_107 fl_RX11_24 rfl (fun v19 ev19 hf => ?_)
        refine r_aload_n 5 dX11_add_110 rfl rfl ?_
        refine r_ldI hf dX11_add_111 fl_RX11_83 rfl (fun v20 ev20 hf => ?_)
        refine r_newX hf dX11_add_114 (by decide) ww_191 ww_523 ww_106 (fun m21 em21 hf => ?_)
        refine r_dup dX11_add_117 (cat_rf _) ?_
        refine r_lload_n 6 dX11_add_118 rfl rfl ?_
        refine r_iload_n 7 dX11_add_119 rfl rfl ?_
        refine r_iload 8 dX11_add_120 rfl ?_
        refine r_aload_n 5 dX11_add_122 rfl rfl ?_
        refine r_ldI hf dX11_add_123 fl_RX11_83 rfl (fun v22 ev22 hf => ?_)
        refine r_aload 1 dX11_add_126 rfl ?_
        refine r_aload 0 dX11_add_128 rfl ?_
        refine bnd hf (fun v23 ev23 hf => ?_)
        refine r_callIv dX11_add_130 cs_RX11_95 rfl rfl ww_525 (by decide) rfl (rest := [_, _, _]) rfl (Or.inl (Nat.le_of_ble_eq_true rfl)) (t_Do_init ev23) ?_
        refine r_waR hf dX11_add_133 (by decide) (by decide) (by decide) rfl (fun m24 em24 hf => ?_)
        refine r_aload_n 5 dX11_add_134 rfl rfl ?_
        refine r_dup dX11_add_135 (cat_rf _) ?_
        refine r_ldI hf dX11_add_136 fl_RX11_83 rfl (fun v25 ev25 hf => ?_)
        refine r_iconst (1 : Int32) dX11_add_139 (by decide) ?_
        refine r_iadd dX11_add_140 ?_
        refine r_stI hf dX11_add_141 fl_RX11_83 rfl rfl rfl (fun m26 em26 hf => ?_)
        refine r_aload_n 5 dX11_add_144 rfl rfl ?_
        refine r_chk hf (fun a27 xa27 ta27 hf => ?_)
        refine bnd hf (fun v28 ev28 hf => ?_)
        refine r_callVr (ci := 11) xa27 dX11_add_145 cs_RX11_98 ww_562 ww_5 (by decide) ta27 (by decide) rfl (rest := []) rfl (Or.inl (Nat.le_of_ble_eq_true rfl)) (t_E_liveInBuffer ev28) ?_
        refine r_bipush (16 : Int32) dX11_add_148 (by decide) ?_
        refine r_bd (fun (q29 : Mem) => V Γ MD_E_add σ r q29 157 [(0, va_rf (some th))] []) hf (fun q29 hf => ?_) (fun yq29 hf kq29 => ?_)
        · refine r_aload_n 0 dX11_add_157 rfl rfl ?_
          refine r_ldI hf dX11_add_158 fl_RX11_83 rfl (fun v33 ev33 hf => ?_)
          exact r_iret rfl dX11_add_161 (by obtain ⟨h1, h2⟩ := Prod.mk.inj (Option.some.inj hf); subst h1; subst h2; exact hr.symm)
        · refine r_icmp_lt 157 hf dX11_add_150 (by decide) (fun c30 hf => ?_) (fun c30 hf => ?_)
          · refine r_sub (L' := [(0, _)]) [5] rfl ?_
            cases (Option.some.inj hf)
            exact kq29
          · refine r_aload_n 5 dX11_add_153 rfl rfl ?_
            refine r_chk hf (fun a31 xa31 ta31 hf => ?_)
            refine bnd hf (fun v32 ev32 hf => ?_)
            refine r_callVv (ci := 11) xa31 dX11_add_154 cs_RX11_101 ww_566 ww_6 (by decide) ta31 (by decide) rfl (rest := []) rfl (Or.inl (Nat.le_of_ble_eq_true rfl)) (t_E_flush ev32) ?_
            refine r_sub (L' := [(0, _)]) [5] rfl ?_
            cases (Option.some.inj hf)
            exact kq29
      · refine r_bipush (-3 : Int32) dX11_add_56 (by decide) ?_
        exact r_iret rfl dX11_add_58 (by obtain ⟨h1, h2⟩ := Prod.mk.inj (Option.some.inj hf); subst h1; subst h2; exact hr.symm)
    · refine r_bipush (-2 : Int32) dX11_add_43 (by decide) ?_
      exact r_iret rfl dX11_add_45 (by obtain ⟨h1, h2⟩ := Prod.mk.inj (Option.some.inj hf); subst h1; subst h2; exact hr.symm)
/-! SearchEngine.delete -/
noncomputable def E_delete (σ : Mem) (th : Nat) (x1 : Int64) : Option (Bool × Mem) :=
  (chk σ 11 (some th)).bind fun a1 =>
  (E_drop σ a1 x1).bind fun v2 =>
  some (v2.1, v2.2)
set_option maxRecDepth 100000 in
set_option maxHeartbeats 4000000 in
theorem t_E_delete {Γ : W0} {σ : Mem} {th : Nat} {x1 : Int64} {v : Bool} {σ' : Mem} (hf : E_delete σ th x1 = some (v, σ')) : CT Γ MD_E_delete yX11_delete [va_rf (some th), .long x1] σ (some (.int (b2i v)), σ') := by
  refine CT.of (L := [(0, va_rf (some th)), (1, .long x1)]) rfl (by decide) (fun h => Bool.noConfusion (show false = true from h)) (Nat.le_of_ble_eq_true rfl) rfl ?_
  unfold E_delete at hf
  generalize hr : mkR Γ σ (some (.int (b2i v))) σ' = r
  refine r_aload_n 0 dX11_delete_0 rfl rfl ?_
  refine r_lload_n 1 dX11_delete_1 rfl rfl ?_
  refine r_chk hf (fun a1 xa1 ta1 hf => ?_)
  refine bnd hf (fun v2 ev2 hf => ?_)
  refine r_callVr (ci := 11) xa1 dX11_delete_2 cs_RX11_86 ww_443 ww_2 (by decide) ta1 (by decide) rfl (rest := []) rfl (Or.inl (Nat.le_of_ble_eq_true rfl)) (t_E_drop ev2) ?_
  exact r_zret rfl dX11_delete_5 (by obtain ⟨h1, h2⟩ := Prod.mk.inj (Option.some.inj hf); subst h1; subst h2; exact hr.symm)
/-! SearchEngine.refresh -/
noncomputable def E_refresh (σ : Mem) (th : Nat) : Option (Int32 × Mem) :=
  (chk σ 11 (some th)).bind fun a1 =>
  (E_flush σ a1).bind fun v2 =>
  (ldI v2 11 7 (some th)).bind fun v3 =>
  some (v3, v2)
set_option maxRecDepth 100000 in
set_option maxHeartbeats 4000000 in
theorem t_E_refresh {Γ : W0} {σ : Mem} {th : Nat} {v : Int32} {σ' : Mem} (hf : E_refresh σ th = some (v, σ')) : CT Γ MD_E_refresh yX11_refresh [va_rf (some th)] σ (some (.int v), σ') := by
  refine CT.of (L := [(0, va_rf (some th))]) rfl (by decide) (fun h => Bool.noConfusion (show false = true from h)) (Nat.le_of_ble_eq_true rfl) rfl ?_
  unfold E_refresh at hf
  generalize hr : mkR Γ σ (some (.int v)) σ' = r
  refine r_aload_n 0 dX11_refresh_0 rfl rfl ?_
  refine r_chk hf (fun a1 xa1 ta1 hf => ?_)
  refine bnd hf (fun v2 ev2 hf => ?_)
  refine r_callVv (ci := 11) xa1 dX11_refresh_1 cs_RX11_101 ww_566 ww_6 (by decide) ta1 (by decide) rfl (rest := []) rfl (Or.inl (Nat.le_of_ble_eq_true rfl)) (t_E_flush ev2) ?_
  refine r_aload_n 0 dX11_refresh_4 rfl rfl ?_
  refine r_ldI hf dX11_refresh_5 fl_RX11_104 rfl (fun v3 ev3 hf => ?_)
  exact r_iret rfl dX11_refresh_8 (by obtain ⟨h1, h2⟩ := Prod.mk.inj (Option.some.inj hf); subst h1; subst h2; exact hr.symm)
/-! SearchEngine.open -/
noncomputable def E_open_l2 (σ : Mem) (th : Nat) (x1 : Int32) : Option (Int32 ⊕ (Int32 ⊕ Unit)) :=
  if (4 : Int32) ≤ x1 then
    some (Sum.inr (Sum.inr ()))
  else
    (ldR σ 11 11 (some th)).bind fun v2 =>
    (raR σ 6 v2 x1).bind fun v3 =>
    (ldB σ 9 0 v3).bind fun v4 =>
    if v4 = true then
      some (Sum.inl (x1 + (1 : Int32)))
    else
      some (Sum.inr (Sum.inl x1))
noncomputable def E_open (σ : Mem) (th : Nat) : Option (Int32 × Mem) :=
  (lp (fun q => E_open_l2 σ th q) (0 : Int32)).bind 
    (se (fun z7 =>
      (ldR σ 11 11 (some th)).bind fun v9 =>
      (raR σ 6 v9 z7).bind fun v10 =>
      (ldR σ 11 6 (some th)).bind fun v11 =>
      (ldI σ 11 7 (some th)).bind fun v12 =>
      (chk σ 9 v10).bind fun a13 =>
      (Vi_take σ a13 v11 v12).bind fun v14 =>
      some (z7, v14))
      (fun z8 =>
        some ((-3 : Int32), σ)))
set_option maxRecDepth 100000 in
set_option maxHeartbeats 4000000 in
theorem x_E_open_l2 {Γ : W0} {σ0 : Mem} {r : RT} {σ : Mem} {th : Nat} {t : Int32 ⊕ Unit} (hk0 : ∀ z : Int32, (Sum.inl z) = t → V Γ MD_E_open σ0 r σ 19 [(0, va_rf (some th)), (1, .int z)] []) (hk1 : ∀ z : Unit, (Sum.inr z) = t → V Γ MD_E_open σ0 r σ 44 [] []) : ∀ q : Int32, lp (fun q => E_open_l2 σ th q) q = some t → V Γ MD_E_open σ0 r σ 2 [(0, va_rf (some th)), (1, .int q)] [] := by
  refine lp_ind (fun (q : Int32) => V Γ MD_E_open σ0 r σ 2 [(0, va_rf (some th)), (1, .int q)] []) (fun q x hf ih ho => ?_)
  revert hf ih
  generalize q = x1
  intro hf ih
  show V Γ MD_E_open σ0 r σ 2 [(0, va_rf (some th)), (1, .int x1)] []
  replace hf : E_open_l2 σ th x1 = some x := hf
  unfold E_open_l2 at hf
  refine r_iload_n 1 dX11_open_2 rfl rfl ?_
  refine r_iconst (4 : Int32) dX11_open_3 (by decide) ?_
  refine r_icmp_ge 44 hf dX11_open_4 (by decide) (fun c1 hf => ?_) (fun c1 hf => ?_)
  · refine r_sub (L' := []) [] rfl ?_
    exact hk1 _ (ho _ (Option.some.inj hf).symm)
  · refine r_aload_n 0 dX11_open_7 rfl rfl ?_
    refine r_ldR hf dX11_open_8 fl_RX11_39 rfl (fun v2 ev2 hf => ?_)
    refine r_iload_n 1 dX11_open_11 rfl rfl ?_
    refine r_raR hf dX11_open_12 (by decide) (by decide) (fun v3 ev3 hf => ?_)
    refine r_ldB hf dX11_open_13 fl_RX11_107 rfl (fun v4 ev4 hf => ?_)
    refine r_ifneZ 38 hf dX11_open_16 (by decide) (fun c5 hf => ?_) (fun c5 hf => ?_)
    · refine r_iinc (1 : Int32) (L' := [(1, _), (0, _)]) 1 dX11_open_38 rfl (by decide) (show 1 < 2 by decide) rfl ?_
      refine r_goto 2 dX11_open_41 (by decide) ?_
      refine r_sub (L' := [(0, _), (1, _)]) [1, 0] rfl ?_
      exact ih _ (Option.some.inj hf).symm
    · refine r_sub (L' := [(0, _), (1, _)]) [0, 1] rfl ?_
      exact hk0 _ (ho _ (Option.some.inj hf).symm)
set_option maxRecDepth 100000 in
set_option maxHeartbeats 4000000 in
theorem t_E_open {Γ : W0} {σ : Mem} {th : Nat} {v : Int32} {σ' : Mem} (hf : E_open σ th = some (v, σ')) : CT Γ MD_E_open yX11_open [va_rf (some th)] σ (some (.int v), σ') := by
  refine CT.of (L := [(0, va_rf (some th))]) rfl (by decide) (fun h => Bool.noConfusion (show false = true from h)) (Nat.le_of_ble_eq_true rfl) rfl ?_
  unfold E_open at hf
  generalize hr : mkR Γ σ (some (.int v)) σ' = r
  refine r_iconst (0 : Int32) dX11_open_0 (by decide) ?_
  refine r_istore_n (L' := [(1, _), (0, _)]) dX11_open_1 rfl (show 1 < 2 by decide) rfl ?_
  refine bnd hf (fun t6 et6 hf => ?_)
  refine r_sub (L' := [(0, _), (1, _)]) [1, 0] rfl ?_
  refine x_E_open_l2 ?_ ?_ _ et6
  · intro z7 hz7
    subst hz7
    simp only [se] at hf
    refine r_aload_n 0 dX11_open_19 rfl rfl ?_
    refine r_ldR hf dX11_open_20 fl_RX11_39 rfl (fun v9 ev9 hf => ?_)
    refine r_iload_n 1 dX11_open_23 rfl rfl ?_
    refine r_raR hf dX11_open_24 (by decide) (by decide) (fun v10 ev10 hf => ?_)
    refine r_aload_n 0 dX11_open_25 rfl rfl ?_
    refine r_ldR hf dX11_open_26 fl_RX11_30 rfl (fun v11 ev11 hf => ?_)
    refine r_aload_n 0 dX11_open_29 rfl rfl ?_
    refine r_ldI hf dX11_open_30 fl_RX11_104 rfl (fun v12 ev12 hf => ?_)
    refine r_chk hf (fun a13 xa13 ta13 hf => ?_)
    refine bnd hf (fun v14 ev14 hf => ?_)
    refine r_callVv (ci := 9) xa13 dX11_open_33 cs_RX11_111 ww_651 ww_652 (by decide) ta13 (by decide) rfl (rest := []) rfl (Or.inl (Nat.le_of_ble_eq_true rfl)) (t_Vi_take ev14) ?_
    refine r_iload_n 1 dX11_open_36 rfl rfl ?_
    exact r_iret rfl dX11_open_37 (by obtain ⟨h1, h2⟩ := Prod.mk.inj (Option.some.inj hf); subst h1; subst h2; exact hr.symm)
  · intro z8 hz8
    subst hz8
    simp only [se] at hf
    refine r_bipush (-3 : Int32) dX11_open_44 (by decide) ?_
    exact r_iret rfl dX11_open_46 (by obtain ⟨h1, h2⟩ := Prod.mk.inj (Option.some.inj hf); subst h1; subst h2; exact hr.symm)
/-! SearchEngine.viewAt -/
noncomputable def E_viewAt (σ : Mem) (th : Nat) (x1 : Int32) : Option (Option Nat) :=
  if x1 < 0 then
    some none
  else
    if (4 : Int32) ≤ x1 then
      some none
    else
      (ldR σ 11 11 (some th)).bind fun v3 =>
      (raR σ 6 v3 x1).bind fun v4 =>
      (ldB σ 9 0 v4).bind fun v5 =>
      if v5 = true then
        (ldR σ 11 11 (some th)).bind fun v7 =>
        (raR σ 6 v7 x1).bind fun v8 =>
        some v8
      else
        some none
set_option maxRecDepth 100000 in
set_option maxHeartbeats 4000000 in
theorem t_E_viewAt {Γ : W0} {σ : Mem} {th : Nat} {x1 : Int32} {v : Option Nat} (hf : E_viewAt σ th x1 = some v) : CT Γ MD_E_viewAt yX11_viewAt [va_rf (some th), .int x1] σ (some (va_rf v), σ) := by
  refine CT.of (L := [(0, va_rf (some th)), (1, .int x1)]) rfl (by decide) (fun h => Bool.noConfusion (show false = true from h)) (Nat.le_of_ble_eq_true rfl) rfl ?_
  unfold E_viewAt at hf
  generalize hr : mkR Γ σ (some (va_rf v)) σ = r
  refine r_iload_n 1 dX11_viewAt_0 rfl rfl ?_
  refine r_if_lt 21 hf dX11_viewAt_1 (by decide) (fun c1 hf => ?_) (fun c1 hf => ?_)
  · refine r_null dX11_viewAt_21 ?_
    exact r_aret rfl (Or.inl ⟨_, rfl⟩) dX11_viewAt_22 (by have h1 := (Option.some.inj hf); subst h1; exact hr.symm)
  · refine r_iload_n 1 dX11_viewAt_4 rfl rfl ?_
    refine r_iconst (4 : Int32) dX11_viewAt_5 (by decide) ?_
    refine r_icmp_ge 21 hf dX11_viewAt_6 (by decide) (fun c2 hf => ?_) (fun c2 hf => ?_)
    · refine r_null dX11_viewAt_21 ?_
      exact r_aret rfl (Or.inl ⟨_, rfl⟩) dX11_viewAt_22 (by have h1 := (Option.some.inj hf); subst h1; exact hr.symm)
    · refine r_aload_n 0 dX11_viewAt_9 rfl rfl ?_
      refine r_ldR hf dX11_viewAt_10 fl_RX11_39 rfl (fun v3 ev3 hf => ?_)
      refine r_iload_n 1 dX11_viewAt_13 rfl rfl ?_
      refine r_raR hf dX11_viewAt_14 (by decide) (by decide) (fun v4 ev4 hf => ?_)
      refine r_ldB hf dX11_viewAt_15 fl_RX11_107 rfl (fun v5 ev5 hf => ?_)
      refine r_ifneZ 23 hf dX11_viewAt_18 (by decide) (fun c6 hf => ?_) (fun c6 hf => ?_)
      · refine r_aload_n 0 dX11_viewAt_23 rfl rfl ?_
        refine r_ldR hf dX11_viewAt_24 fl_RX11_39 rfl (fun v7 ev7 hf => ?_)
        refine r_iload_n 1 dX11_viewAt_27 rfl rfl ?_
        refine r_raR hf dX11_viewAt_28 (by decide) (by decide) (fun v8 ev8 hf => ?_)
        exact r_aret rfl (Or.inl ⟨_, rfl⟩) dX11_viewAt_29 (by have h1 := (Option.some.inj hf); subst h1; exact hr.symm)
      · refine r_null dX11_viewAt_21 ?_
        exact r_aret rfl (Or.inl ⟨_, rfl⟩) dX11_viewAt_22 (by have h1 := (Option.some.inj hf); subst h1; exact hr.symm)
/-! SearchEngine.close -/
noncomputable def E_close (σ : Mem) (th : Nat) (x1 : Int32) : Option (Int32 × Mem) :=
  (chk σ 11 (some th)).bind fun a1 =>
  (E_viewAt σ a1 x1).bind fun v2 =>
  if v2 = none then
    some ((-2 : Int32), σ)
  else
    (stB σ 9 0 v2 false).bind fun m4 =>
    some ((0 : Int32), m4)
set_option maxRecDepth 100000 in
set_option maxHeartbeats 4000000 in
theorem t_E_close {Γ : W0} {σ : Mem} {th : Nat} {x1 : Int32} {v : Int32} {σ' : Mem} (hf : E_close σ th x1 = some (v, σ')) : CT Γ MD_E_close yX11_close [va_rf (some th), .int x1] σ (some (.int v), σ') := by
  refine CT.of (L := [(0, va_rf (some th)), (1, .int x1)]) rfl (by decide) (fun h => Bool.noConfusion (show false = true from h)) (Nat.le_of_ble_eq_true rfl) rfl ?_
  unfold E_close at hf
  generalize hr : mkR Γ σ (some (.int v)) σ' = r
  refine r_aload_n 0 dX11_close_0 rfl rfl ?_
  refine r_iload_n 1 dX11_close_1 rfl rfl ?_
  refine r_chk hf (fun a1 xa1 ta1 hf => ?_)
  refine bnd hf (fun v2 ev2 hf => ?_)
  refine r_callVr (ci := 11) xa1 dX11_close_2 cs_RX11_115 ww_664 ww_14 (by decide) ta1 (by decide) rfl (rest := []) rfl (Or.inl (Nat.le_of_ble_eq_true rfl)) (t_E_viewAt ev2) ?_
  refine r_astore_n (L' := [(2, _), (0, _), (1, _)]) dX11_close_5 rfl (show 2 < 3 by decide) rfl ?_
  refine r_aload_n 0 dX11_close_6 rfl rfl ?_
  refine r_ifnonnull 13 hf dX11_close_7 (by decide) (fun c3 hf => ?_) (fun c3 hf => ?_)
  · refine r_bipush (-2 : Int32) dX11_close_10 (by decide) ?_
    exact r_iret rfl dX11_close_12 (by obtain ⟨h1, h2⟩ := Prod.mk.inj (Option.some.inj hf); subst h1; subst h2; exact hr.symm)
  · refine r_aload_n 0 dX11_close_13 rfl rfl ?_
    refine r_iconst (b2i false) dX11_close_14 rfl ?_
    refine r_stB hf dX11_close_15 fl_RX11_107 rfl rfl (fun m4 em4 hf => ?_)
    refine r_iconst (0 : Int32) dX11_close_18 (by decide) ?_
    exact r_iret rfl dX11_close_19 (by obtain ⟨h1, h2⟩ := Prod.mk.inj (Option.some.inj hf); subst h1; subst h2; exact hr.symm)
/-! SearchEngine.search -/
noncomputable def E_search_l94 (σ : Mem) (th : Nat) (x3 : Option Nat) (x6 : Option Nat) (x7 : Int32) : Option ((Int32 × Mem) ⊕ Mem) :=
  (ldI σ 9 5 x3).bind fun v23 =>
  if v23 ≤ x7 then
    some (Sum.inr σ)
  else
    (chk σ 9 x3).bind fun a25 =>
    (Vi_liveAt σ a25 x7).bind fun v26 =>
    Option.bind (
      if v26 = none then
        some σ
      else
        (ldR σ 11 12 (some th)).bind fun v29 =>
        (ldI σ 5 1 x6).bind fun v30 =>
        (chk σ 5 x6).bind fun a31 =>
        (Qu_scoreOfAny 20 σ a31 (0 : Int32) v30 v26 (0 : Int32)).bind fun v32 =>
        (chk σ 0 v29).bind fun a33 =>
        (An_take σ a33 v26 v32).bind fun v34 =>
        some v34) fun q27 =>
    some (Sum.inl ((x7 + (1 : Int32)), q27))
noncomputable def E_search (σ : Mem) (th : Nat) (x1 : Int32) : Option (Int32 × Mem) :=
  (chk σ 11 (some th)).bind fun a1 =>
  (E_takeTape σ a1).bind fun v2 =>
  (chk v2.2 11 (some th)).bind fun a3 =>
  (E_viewAt v2.2 a3 x1).bind fun v4 =>
  if v4 = none then
    some ((-2 : Int32), v2.2)
  else
    (some (nwO v2.2 3)).bind fun m6 =>
    (ldR m6 11 1 (some th)).bind fun v7 =>
    (ldR m6 11 0 (some th)).bind fun v8 =>
    (ldR m6 11 13 (some th)).bind fun v9 =>
    (Ps_init m6 (gN v2.2) v7 v2.1 v8 v9).bind fun v10 =>
    (chk v10 3 (some (gN v2.2))).bind fun a11 =>
    (Ps_wrongPlace v10 a11).bind fun v12 =>
    if v12.1 < 0 then
      (ldR v12.2 11 13 (some th)).bind fun v14 =>
      (ldR v12.2 11 12 (some th)).bind fun v15 =>
      (ldR v12.2 0 0 v15).bind fun v16 =>
      (stR v12.2 11 13 (some th) v16).bind fun m17 =>
      (chk m17 5 v14).bind fun a18 =>
      (Qu_weigh m17 a18 v4).bind fun v19 =>
      (ldR v19 11 12 (some th)).bind fun v20 =>
      (chk v19 0 v20).bind fun a21 =>
      (An_begin v19 a21 x1 v14).bind fun v22 =>
      (lp (fun q => E_search_l94 q.2 th v4 v14 q.1) ((0 : Int32), v22)).bind fun z36 =>
      (ldR z36 11 12 (some th)).bind fun v37 =>
      (chk z36 0 v37).bind fun a38 =>
      (An_sort z36 a38).bind fun v39 =>
      (ldR v39 11 12 (some th)).bind fun v40 =>
      (ldI v39 0 4 v40).bind fun v41 =>
      some (v41, v39)
    else
      some (((-10 : Int32) - v12.1), v12.2)
set_option maxRecDepth 100000 in
set_option maxHeartbeats 4000000 in
theorem x_E_search_l94 {Γ : W0} {σ0 : Mem} {r : RT} {th : Nat} {x3 : Option Nat} {x6 : Option Nat} {t : Mem} (hk0 : ∀ z : Mem, z = t → V Γ MD_E_search σ0 r z 145 [(0, va_rf (some th))] []) : ∀ q : Int32 × Mem, lp (fun q => E_search_l94 q.2 th x3 x6 q.1) q = some t → V Γ MD_E_search σ0 r q.2 94 [(0, va_rf (some th)), (3, va_rf x3), (6, va_rf x6), (7, .int q.1)] [] := by
  refine lp_ind (fun (q : Int32 × Mem) => V Γ MD_E_search σ0 r q.2 94 [(0, va_rf (some th)), (3, va_rf x3), (6, va_rf x6), (7, .int q.1)] []) (fun q x hf ih ho => ?_)
  obtain ⟨x7, σ⟩ := q
  show V Γ MD_E_search σ0 r σ 94 [(0, va_rf (some th)), (3, va_rf x3), (6, va_rf x6), (7, .int x7)] []
  replace hf : E_search_l94 σ th x3 x6 x7 = some x := hf
  unfold E_search_l94 at hf
  refine r_iload 3 dX11_search_94 rfl ?_
  refine r_aload_n 1 dX11_search_96 rfl rfl ?_
  refine r_ldI hf dX11_search_97 fl_RX11_138 rfl (fun v23 ev23 hf => ?_)
  refine r_icmp_ge 145 hf dX11_search_100 (by decide) (fun c24 hf => ?_) (fun c24 hf => ?_)
  · refine r_sub (L' := [(0, _)]) [0] rfl ?_
    exact hk0 _ (ho _ (Option.some.inj hf).symm)
  · refine r_aload_n 1 dX11_search_103 rfl rfl ?_
    refine r_iload 3 dX11_search_104 rfl ?_
    refine r_chk hf (fun a25 xa25 ta25 hf => ?_)
    refine bnd hf (fun v26 ev26 hf => ?_)
    refine r_callVr (ci := 9) xa25 dX11_search_106 cs_RX11_141 ww_819 ww_820 (by decide) ta25 (by decide) rfl (rest := []) rfl (Or.inl (Nat.le_of_ble_eq_true rfl)) (t_Vi_liveAt ev26) ?_
    refine r_astore (L' := [(8, _), (0, _), (3, _), (6, _), (7, _)]) dX11_search_109 (show 8 < 9 by decide) rfl ?_
    refine r_aload 0 dX11_search_111 rfl ?_
    refine r_bd (fun (q27 : Mem) => V Γ MD_E_search σ0 r q27 139 [(0, va_rf (some th)), (3, va_rf x3), (6, va_rf x6), (7, .int x7)] []) hf (fun q27 hf => ?_) (fun yq27 hf kq27 => ?_)
    · refine r_iinc (1 : Int32) (L' := [(7, .int (x7 + (1 : Int32))), (0, va_rf (some th)), (3, va_rf x3), (6, va_rf x6)]) 3 dX11_search_139 rfl (by decide) (show 7 < 9 by decide) (by simp [List.filter, cat_rf, cat_i, cat_l]) ?_
      refine r_goto 94 dX11_search_142 (by decide) ?_
      refine r_sub (L' := [(0, _), (3, _), (6, _), (7, _)]) [1, 2, 3, 0] rfl ?_
      exact ih _ (Option.some.inj hf).symm
    · refine r_ifnull 139 hf dX11_search_113 (by decide) (fun c28 hf => ?_) (fun c28 hf => ?_)
      · refine r_sub (L' := [(0, _), (3, _), (6, _), (7, _)]) [1, 2, 3, 4] rfl ?_
        cases (Option.some.inj hf)
        exact kq27
      · refine r_aload_n 1 dX11_search_116 rfl rfl ?_
        refine r_ldR hf dX11_search_117 fl_RX11_47 rfl (fun v29 ev29 hf => ?_)
        refine r_aload 0 dX11_search_120 rfl ?_
        refine r_aload 3 dX11_search_122 rfl ?_
        refine r_iconst (0 : Int32) dX11_search_124 (by decide) ?_
        refine r_aload 3 dX11_search_125 rfl ?_
        refine r_ldI hf dX11_search_127 fl_RX11_145 rfl (fun v30 ev30 hf => ?_)
        refine r_aload 0 dX11_search_130 rfl ?_
        refine r_iconst (0 : Int32) dX11_search_132 (by decide) ?_
        refine r_chk hf (fun a31 xa31 ta31 hf => ?_)
        refine bnd hf (fun v32 ev32 hf => ?_)
        refine r_callQr (ci := 5) xa31 dX11_search_133 (show (RX11, 146, yX5_scoreOfAny) ∈ nwM by decide +kernel) (cs_RX11_146 _) ww_824 ww_29 (by decide) ta31 ⟨(show 9 + 2 * 20 + 1 ≤ 115 by omega), (show 8 + (10 + 11) + (227 + 80 * 20) ≤ 4460 by omega)⟩ rfl (rest := [_, _]) rfl (Or.inl (Nat.le_of_ble_eq_true rfl)) (t_Qu_scoreOfAny 20 ev32) ?_
        refine r_chk hf (fun a33 xa33 ta33 hf => ?_)
        refine bnd hf (fun v34 ev34 hf => ?_)
        refine r_callVv (ci := 0) xa33 dX11_search_136 cs_RX11_150 ww_892 ww_893 (by decide) ta33 (by decide) rfl (rest := []) rfl (Or.inl (Nat.le_of_ble_eq_true rfl)) (t_An_take ev34) ?_
        refine r_sub (L' := [(0, _), (3, _), (6, _), (7, _)]) [1, 2, 3, 4] rfl ?_
        cases (Option.some.inj hf)
        exact kq27
set_option maxRecDepth 100000 in
set_option maxHeartbeats 4000000 in
theorem t_E_search {Γ : W0} {σ : Mem} {th : Nat} {x1 : Int32} {v : Int32} {σ' : Mem} (hf : E_search σ th x1 = some (v, σ')) : CT Γ MD_E_search yX11_search [va_rf (some th), .int x1] σ (some (.int v), σ') := by
  refine CT.of (L := [(0, va_rf (some th)), (1, .int x1)]) rfl (by decide) (fun h => Bool.noConfusion (show false = true from h)) (Nat.le_of_ble_eq_true rfl) rfl ?_
  unfold E_search at hf
  generalize hr : mkR Γ σ (some (.int v)) σ' = r
  refine r_aload_n 0 dX11_search_0 rfl rfl ?_
  refine r_chk hf (fun a1 xa1 ta1 hf => ?_)
  refine bnd hf (fun v2 ev2 hf => ?_)
  refine r_callVr (ci := 11) xa1 dX11_search_1 cs_RX11_69 ww_432 ww_0 (by decide) ta1 (by decide) rfl (rest := []) rfl (Or.inl (Nat.le_of_ble_eq_true rfl)) (t_E_takeTape ev2) ?_
  refine r_istore_n (L' := [(2, _), (0, _), (1, _)]) dX11_search_4 rfl (show 2 < 9 by decide) rfl ?_
  refine r_aload_n 1 dX11_search_5 rfl rfl ?_
  refine r_iload_n 2 dX11_search_6 rfl rfl ?_
  refine r_chk hf (fun a3 xa3 ta3 hf => ?_)
  refine bnd hf (fun v4 ev4 hf => ?_)
  refine r_callVr (ci := 11) xa3 dX11_search_7 cs_RX11_115 ww_664 ww_14 (by decide) ta3 (by decide) rfl (rest := []) rfl (Or.inl (Nat.le_of_ble_eq_true rfl)) (t_E_viewAt ev4) ?_
  refine r_astore_n (L' := [(3, _), (2, _), (0, _), (1, _)]) dX11_search_10 rfl (show 3 < 9 by decide) rfl ?_
  refine r_aload_n 0 dX11_search_11 rfl rfl ?_
  refine r_ifnonnull 18 hf dX11_search_12 (by decide) (fun c5 hf => ?_) (fun c5 hf => ?_)
  · refine r_bipush (-2 : Int32) dX11_search_15 (by decide) ?_
    exact r_iret rfl dX11_search_17 (by obtain ⟨h1, h2⟩ := Prod.mk.inj (Option.some.inj hf); subst h1; subst h2; exact hr.symm)
  · refine r_newX hf dX11_search_18 (by decide) ww_670 ww_671 ww_108 (fun m6 em6 hf => ?_)
    refine r_dup dX11_search_21 (cat_rf _) ?_
    refine r_aload_n 2 dX11_search_22 rfl rfl ?_
    refine r_ldR hf dX11_search_23 fl_RX11_18 rfl (fun v7 ev7 hf => ?_)
    refine r_iload_n 1 dX11_search_26 rfl rfl ?_
    refine r_aload_n 2 dX11_search_27 rfl rfl ?_
    refine r_ldR hf dX11_search_28 fl_RX11_12 rfl (fun v8 ev8 hf => ?_)
    refine r_aload_n 2 dX11_search_31 rfl rfl ?_
    refine r_ldR hf dX11_search_32 fl_RX11_54 rfl (fun v9 ev9 hf => ?_)
    refine bnd hf (fun v10 ev10 hf => ?_)
    refine r_callIv dX11_search_35 cs_RX11_121 rfl rfl ww_673 (by decide) rfl (rest := [_]) rfl (Or.inl (Nat.le_of_ble_eq_true rfl)) (t_Ps_init ev10) ?_
    refine r_astore (i := 4) (L' := [(4, va_rf (some (gN v2.2))), (3, va_rf v4), (2, .int v2.1), (0, va_rf (some th)), (1, .int x1)]) dX11_search_38 (show 4 < 9 by decide) (by simp [List.filter, cat_rf, cat_i, cat_l]) ?_
    refine r_aload 0 dX11_search_40 rfl ?_
    refine r_chk hf (fun a11 xa11 ta11 hf => ?_)
    refine bnd hf (fun v12 ev12 hf => ?_)
    refine r_callVr (ci := 3) xa11 dX11_search_42 cs_RX11_124 ww_700 ww_701 (by decide) ta11 (by decide) rfl (rest := []) rfl (Or.inl (Nat.le_of_ble_eq_true rfl)) (t_Ps_wrongPlace ev12) ?_
    refine r_istore (L' := [(5, _), (4, _), (3, _), (2, _), (0, _), (1, _)]) dX11_search_45 (show 5 < 9 by decide) rfl ?_
    refine r_iload 0 dX11_search_47 rfl ?_
    refine r_if_lt 58 hf dX11_search_49 (by decide) (fun c13 hf => ?_) (fun c13 hf => ?_)
    · refine r_aload_n 4 dX11_search_58 rfl rfl ?_
      refine r_ldR hf dX11_search_59 fl_RX11_54 rfl (fun v14 ev14 hf => ?_)
      refine r_astore (L' := [(6, _), (5, _), (4, _), (3, _), (2, _), (0, _), (1, _)]) dX11_search_62 (show 6 < 9 by decide) rfl ?_
      refine r_aload_n 5 dX11_search_64 rfl rfl ?_
      refine r_aload_n 5 dX11_search_65 rfl rfl ?_
      refine r_ldR hf dX11_search_66 fl_RX11_47 rfl (fun v15 ev15 hf => ?_)
      refine r_ldR hf dX11_search_69 fl_RX11_127 rfl (fun v16 ev16 hf => ?_)
      refine r_stR hf dX11_search_72 fl_RX11_54 rfl rfl (fun m17 em17 hf => ?_)
      refine r_aload 0 dX11_search_75 rfl ?_
      refine r_aload_n 3 dX11_search_77 rfl rfl ?_
      refine r_chk hf (fun a18 xa18 ta18 hf => ?_)
      refine bnd hf (fun v19 ev19 hf => ?_)
      refine r_callVv (ci := 5) xa18 dX11_search_78 cs_RX11_130 ww_778 ww_779 (by decide) ta18 (by decide) rfl (rest := []) rfl (Or.inl (Nat.le_of_ble_eq_true rfl)) (t_Qu_weigh ev19) ?_
      refine r_aload_n 5 dX11_search_81 rfl rfl ?_
      refine r_ldR hf dX11_search_82 fl_RX11_47 rfl (fun v20 ev20 hf => ?_)
      refine r_iload_n 6 dX11_search_85 rfl rfl ?_
      refine r_aload 0 dX11_search_86 rfl ?_
      refine r_chk hf (fun a21 xa21 ta21 hf => ?_)
      refine bnd hf (fun v22 ev22 hf => ?_)
      refine r_callVv (ci := 0) xa21 dX11_search_88 cs_RX11_134 ww_815 ww_816 (by decide) ta21 (by decide) rfl (rest := []) rfl (Or.inl (Nat.le_of_ble_eq_true rfl)) (t_An_begin ev22) ?_
      refine r_iconst (0 : Int32) dX11_search_91 (by decide) ?_
      refine r_istore (i := 7) (L' := [(7, .int (0 : Int32)), (6, va_rf v14), (5, .int v12.1), (4, va_rf (some (gN v2.2))), (3, va_rf v4), (2, .int v2.1), (0, va_rf (some th)), (1, .int x1)]) dX11_search_92 (show 7 < 9 by decide) (by simp [List.filter, cat_rf, cat_i, cat_l]) ?_
      refine bnd hf (fun t35 et35 hf => ?_)
      refine r_sub (L' := [(0, _), (3, _), (6, _), (7, _)]) [6, 4, 1, 0] rfl ?_
      refine x_E_search_l94 ?_ _ et35
      · intro z36 hz36
        subst hz36
        refine r_aload_n 0 dX11_search_145 rfl rfl ?_
        refine r_ldR hf dX11_search_146 fl_RX11_47 rfl (fun v37 ev37 hf => ?_)
        refine r_chk hf (fun a38 xa38 ta38 hf => ?_)
        refine bnd hf (fun v39 ev39 hf => ?_)
        refine r_callVv (ci := 0) xa38 dX11_search_149 cs_RX11_153 ww_896 ww_897 (by decide) ta38 (by decide) rfl (rest := []) rfl (Or.inl (Nat.le_of_ble_eq_true rfl)) (t_An_sort ev39) ?_
        refine r_aload_n 0 dX11_search_152 rfl rfl ?_
        refine r_ldR hf dX11_search_153 fl_RX11_47 rfl (fun v40 ev40 hf => ?_)
        refine r_ldI hf dX11_search_156 fl_RX11_156 rfl (fun v41 ev41 hf => ?_)
        exact r_iret rfl dX11_search_159 (by obtain ⟨h1, h2⟩ := Prod.mk.inj (Option.some.inj hf); subst h1; subst h2; exact hr.symm)
    · refine r_bipush (-10 : Int32) dX11_search_52 (by decide) ?_
      refine r_iload 0 dX11_search_54 rfl ?_
      refine r_isub dX11_search_56 ?_
      exact r_iret rfl dX11_search_57 (by obtain ⟨h1, h2⟩ := Prod.mk.inj (Option.some.inj hf); subst h1; subst h2; exact hr.symm)
/-! SearchEngine.key -/
noncomputable def E_key (σ : Mem) (th : Nat) (x1 : Int32) : Option Int64 :=
  (ldR σ 11 12 (some th)).bind fun v1 =>
  (chk σ 0 v1).bind fun a2 =>
  (An_documentAt σ a2 x1).bind fun v3 =>
  if v3 = none then
    some (0 : Int64)
  else
    (ldL σ 1 0 v3).bind fun v5 =>
    some v5
set_option maxRecDepth 100000 in
set_option maxHeartbeats 4000000 in
theorem t_E_key {Γ : W0} {σ : Mem} {th : Nat} {x1 : Int32} {v : Int64} (hf : E_key σ th x1 = some v) : CT Γ MD_E_key yX11_key [va_rf (some th), .int x1] σ (some (.long v), σ) := by
  refine CT.of (L := [(0, va_rf (some th)), (1, .int x1)]) rfl (by decide) (fun h => Bool.noConfusion (show false = true from h)) (Nat.le_of_ble_eq_true rfl) rfl ?_
  unfold E_key at hf
  generalize hr : mkR Γ σ (some (.long v)) σ = r
  refine r_aload_n 0 dX11_key_0 rfl rfl ?_
  refine r_ldR hf dX11_key_1 fl_RX11_47 rfl (fun v1 ev1 hf => ?_)
  refine r_iload_n 1 dX11_key_4 rfl rfl ?_
  refine r_chk hf (fun a2 xa2 ta2 hf => ?_)
  refine bnd hf (fun v3 ev3 hf => ?_)
  refine r_callVr (ci := 0) xa2 dX11_key_5 cs_RX11_157 ww_908 ww_909 (by decide) ta2 (by decide) rfl (rest := []) rfl (Or.inl (Nat.le_of_ble_eq_true rfl)) (t_An_documentAt ev3) ?_
  refine r_astore_n (L' := [(2, _), (0, _), (1, _)]) dX11_key_8 rfl (show 2 < 3 by decide) rfl ?_
  refine r_aload_n 0 dX11_key_9 rfl rfl ?_
  refine r_ifnonnull 17 hf dX11_key_10 (by decide) (fun c4 hf => ?_) (fun c4 hf => ?_)
  · refine r_lconst (0 : Int64) dX11_key_13 (by decide) ?_
    refine r_goto 21 dX11_key_14 (by decide) ?_
    exact r_lret rfl dX11_key_21 (by have h1 := (Option.some.inj hf); subst h1; exact hr.symm)
  · refine r_aload_n 0 dX11_key_17 rfl rfl ?_
    refine r_ldL hf dX11_key_18 fl_RX11_160 rfl (fun v5 ev5 hf => ?_)
    exact r_lret rfl dX11_key_21 (by have h1 := (Option.some.inj hf); subst h1; exact hr.symm)
