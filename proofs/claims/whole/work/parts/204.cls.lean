/-! methods as functions, with their walks (by program) -/
/-! SearchEngine$Vocabulary.hasBetween -/
noncomputable def Vo_hasBetween (σ : Mem) (th : Nat) (x1 : Int64) (x3 : Int64) : Option Bool :=
  (chk σ 10 (some th)).bind fun a1 =>
  (Vo_placeOf σ a1 x1).bind fun v2 =>
  (ldR σ 10 0 (some th)).bind fun v3 =>
  (alen σ 1 v3).bind fun v4 =>
  if v4 ≤ v2 then
    some false
  else
    (chk σ 10 (some th)).bind fun a6 =>
    (Vo_termAt σ a6 v2).bind fun v7 =>
    if x3 < v7 then
      some false
    else
      some true
set_option maxRecDepth 100000 in
set_option maxHeartbeats 4000000 in
theorem t_Vo_hasBetween {Γ : W0} {σ : Mem} {th : Nat} {x1 : Int64} {x3 : Int64} {v : Bool} (hf : Vo_hasBetween σ th x1 x3 = some v) : CT Γ MD_Vo_hasBetween yX10_hasBetween [va_rf (some th), .long x1, .long x3] σ (some (.int (b2i v)), σ) := by
  refine CT.of (L := [(0, va_rf (some th)), (1, .long x1), (3, .long x3)]) rfl (by decide) (fun h => Bool.noConfusion (show false = true from h)) (Nat.le_of_ble_eq_true rfl) rfl ?_
  unfold Vo_hasBetween at hf
  generalize hr : mkR Γ σ (some (.int (b2i v))) σ = r
  refine r_aload_n 0 dX10_hasBetween_0 rfl rfl ?_
  refine r_lload_n 1 dX10_hasBetween_1 rfl rfl ?_
  refine r_chk hf (fun a1 xa1 ta1 hf => ?_)
  refine bnd hf (fun v2 ev2 hf => ?_)
  refine r_callVr (ci := 10) xa1 dX10_hasBetween_2 cs_RX10_25 ww_811 ww_28 (by decide) ta1 (by decide) rfl (rest := []) rfl (Or.inl (Nat.le_of_ble_eq_true rfl)) (t_Vo_placeOf ev2) ?_
  refine r_istore (L' := [(5, _), (0, _), (1, _), (3, _)]) dX10_hasBetween_5 (show 5 < 6 by decide) rfl ?_
  refine r_iload 0 dX10_hasBetween_7 rfl ?_
  refine r_aload_n 1 dX10_hasBetween_9 rfl rfl ?_
  refine r_ldR hf dX10_hasBetween_10 fl_RX10_17 rfl (fun v3 ev3 hf => ?_)
  refine r_alen hf dX10_hasBetween_13 (by decide) (fun v4 ev4 hf => ?_)
  refine r_icmp_ge 32 hf dX10_hasBetween_14 (by decide) (fun c5 hf => ?_) (fun c5 hf => ?_)
  · refine r_iconst (b2i false) dX10_hasBetween_32 rfl ?_
    exact r_zret rfl dX10_hasBetween_33 (by have h1 := (Option.some.inj hf); subst h1; exact hr.symm)
  · refine r_aload_n 1 dX10_hasBetween_17 rfl rfl ?_
    refine r_iload 0 dX10_hasBetween_18 rfl ?_
    refine r_chk hf (fun a6 xa6 ta6 hf => ?_)
    refine bnd hf (fun v7 ev7 hf => ?_)
    refine r_callVr (ci := 10) xa6 dX10_hasBetween_20 cs_RX10_29 ww_595 ww_596 (by decide) ta6 (by decide) rfl (rest := []) rfl (Or.inl (Nat.le_of_ble_eq_true rfl)) (t_Vo_termAt ev7) ?_
    refine r_lload_n 3 dX10_hasBetween_23 rfl rfl ?_
    refine r_lcmp_gt 32 hf dX10_hasBetween_24 dX10_hasBetween_25 (by decide) (fun c8 hf => ?_) (fun c8 hf => ?_)
    · refine r_iconst (b2i false) dX10_hasBetween_32 rfl ?_
      exact r_zret rfl dX10_hasBetween_33 (by have h1 := (Option.some.inj hf); subst h1; exact hr.symm)
    · refine r_iconst (b2i true) dX10_hasBetween_28 rfl ?_
      refine r_goto 33 dX10_hasBetween_29 (by decide) ?_
      exact r_zret rfl dX10_hasBetween_33 (by have h1 := (Option.some.inj hf); subst h1; exact hr.symm)
/-! SearchEngine$Text.tokens -/
noncomputable def Te_tokens (σ : Mem) (th : Nat) : Option Int32 :=
  (ldR σ 8 2 (some th)).bind fun v1 =>
  (alen σ 1 v1).bind fun v2 =>
  some v2
set_option maxRecDepth 100000 in
set_option maxHeartbeats 4000000 in
theorem t_Te_tokens {Γ : W0} {σ : Mem} {th : Nat} {v : Int32} (hf : Te_tokens σ th = some v) : CT Γ MD_Te_tokens yX8_tokens [va_rf (some th)] σ (some (.int v), σ) := by
  refine CT.of (L := [(0, va_rf (some th))]) rfl (by decide) (fun h => Bool.noConfusion (show false = true from h)) (Nat.le_of_ble_eq_true rfl) rfl ?_
  unfold Te_tokens at hf
  generalize hr : mkR Γ σ (some (.int v)) σ = r
  refine r_aload_n 0 dX8_tokens_0 rfl rfl ?_
  refine r_ldR hf dX8_tokens_1 fl_RX8_22 rfl (fun v1 ev1 hf => ?_)
  refine r_alen hf dX8_tokens_4 (by decide) (fun v2 ev2 hf => ?_)
  exact r_iret rfl dX8_tokens_5 (by have h1 := (Option.some.inj hf); subst h1; exact hr.symm)
/-! SearchEngine$Text.termAt -/
noncomputable def Te_termAt (σ : Mem) (th : Nat) (x1 : Int32) : Option Int64 :=
  if x1 < 0 then
    some (0 : Int64)
  else
    (ldR σ 8 2 (some th)).bind fun v2 =>
    (alen σ 1 v2).bind fun v3 =>
    if v3 ≤ x1 then
      some (0 : Int64)
    else
      (ldR σ 8 2 (some th)).bind fun v5 =>
      (raL σ 1 v5 x1).bind fun v6 =>
      some v6
set_option maxRecDepth 100000 in
set_option maxHeartbeats 4000000 in
theorem t_Te_termAt {Γ : W0} {σ : Mem} {th : Nat} {x1 : Int32} {v : Int64} (hf : Te_termAt σ th x1 = some v) : CT Γ MD_Te_termAt yX8_termAt [va_rf (some th), .int x1] σ (some (.long v), σ) := by
  refine CT.of (L := [(0, va_rf (some th)), (1, .int x1)]) rfl (by decide) (fun h => Bool.noConfusion (show false = true from h)) (Nat.le_of_ble_eq_true rfl) rfl ?_
  unfold Te_termAt at hf
  generalize hr : mkR Γ σ (some (.long v)) σ = r
  refine r_iload_n 1 dX8_termAt_0 rfl rfl ?_
  refine r_if_lt 22 hf dX8_termAt_1 (by decide) (fun c1 hf => ?_) (fun c1 hf => ?_)
  · refine r_lconst (0 : Int64) dX8_termAt_22 (by decide) ?_
    exact r_lret rfl dX8_termAt_23 (by have h1 := (Option.some.inj hf); subst h1; exact hr.symm)
  · refine r_iload_n 1 dX8_termAt_4 rfl rfl ?_
    refine r_aload_n 0 dX8_termAt_5 rfl rfl ?_
    refine r_ldR hf dX8_termAt_6 fl_RX8_22 rfl (fun v2 ev2 hf => ?_)
    refine r_alen hf dX8_termAt_9 (by decide) (fun v3 ev3 hf => ?_)
    refine r_icmp_ge 22 hf dX8_termAt_10 (by decide) (fun c4 hf => ?_) (fun c4 hf => ?_)
    · refine r_lconst (0 : Int64) dX8_termAt_22 (by decide) ?_
      exact r_lret rfl dX8_termAt_23 (by have h1 := (Option.some.inj hf); subst h1; exact hr.symm)
    · refine r_aload_n 0 dX8_termAt_13 rfl rfl ?_
      refine r_ldR hf dX8_termAt_14 fl_RX8_22 rfl (fun v5 ev5 hf => ?_)
      refine r_iload_n 1 dX8_termAt_17 rfl rfl ?_
      refine r_raL hf dX8_termAt_18 (fun v6 ev6 hf => ?_)
      refine r_goto 23 dX8_termAt_19 (by decide) ?_
      exact r_lret rfl dX8_termAt_23 (by have h1 := (Option.some.inj hf); subst h1; exact hr.symm)
/-! SearchEngine$Text.positionOf -/
noncomputable def Te_positionOf_l11 (σ : Mem) (th : Nat) (x1 : Int64) (x4 : Int32) (x5 : Int32) : Option (Int32 ⊕ (Int32 ⊕ Unit)) :=
  if x4 < x5 then
    some (Sum.inr (Sum.inr ()))
  else
    (ldR σ 8 2 (some th)).bind fun v4 =>
    (alen σ 1 v4).bind fun v5 =>
    if v5 ≤ x5 then
      some (Sum.inr (Sum.inr ()))
    else
      (ldR σ 8 2 (some th)).bind fun v7 =>
      (raL σ 1 v7 x5).bind fun v8 =>
      if ¬ v8 = x1 then
        some (Sum.inl (x5 + (1 : Int32)))
      else
        some (Sum.inr (Sum.inl x5))
noncomputable def Te_positionOf (σ : Mem) (th : Nat) (x1 : Int64) (x3 : Int32) (x4 : Int32) : Option Int32 :=
  Option.bind (
    if 0 ≤ x3 then
      some x3
    else
      some (0 : Int32)) fun q1 =>
  (lp (fun q => Te_positionOf_l11 σ th x1 x4 q) q1).bind 
    (se (fun z11 =>
      some z11)
      (fun z12 =>
        some (-1 : Int32)))
set_option maxRecDepth 100000 in
set_option maxHeartbeats 4000000 in
theorem x_Te_positionOf_l11 {Γ : W0} {σ0 : Mem} {r : RT} {σ : Mem} {th : Nat} {x1 : Int64} {x4 : Int32} {t : Int32 ⊕ Unit} (hk0 : ∀ z : Int32, (Sum.inl z) = t → V Γ MD_Te_positionOf σ0 r σ 40 [(5, .int z)] []) (hk1 : ∀ z : Unit, (Sum.inr z) = t → V Γ MD_Te_positionOf σ0 r σ 49 [] []) : ∀ q : Int32, lp (fun q => Te_positionOf_l11 σ th x1 x4 q) q = some t → V Γ MD_Te_positionOf σ0 r σ 11 [(0, va_rf (some th)), (1, .long x1), (4, .int x4), (5, .int q)] [] := by
  refine lp_ind (fun (q : Int32) => V Γ MD_Te_positionOf σ0 r σ 11 [(0, va_rf (some th)), (1, .long x1), (4, .int x4), (5, .int q)] []) (fun q x hf ih ho => ?_)
  revert hf ih
  generalize q = x5
  intro hf ih
  show V Γ MD_Te_positionOf σ0 r σ 11 [(0, va_rf (some th)), (1, .long x1), (4, .int x4), (5, .int x5)] []
  replace hf : Te_positionOf_l11 σ th x1 x4 x5 = some x := hf
  unfold Te_positionOf_l11 at hf
  refine r_iload 3 dX8_positionOf_11 rfl ?_
  refine r_iload 2 dX8_positionOf_13 rfl ?_
  refine r_icmp_gt 49 hf dX8_positionOf_15 (by decide) (fun c3 hf => ?_) (fun c3 hf => ?_)
  · refine r_sub (L' := []) [] rfl ?_
    exact hk1 _ (ho _ (Option.some.inj hf).symm)
  · refine r_iload 3 dX8_positionOf_18 rfl ?_
    refine r_aload_n 0 dX8_positionOf_20 rfl rfl ?_
    refine r_ldR hf dX8_positionOf_21 fl_RX8_22 rfl (fun v4 ev4 hf => ?_)
    refine r_alen hf dX8_positionOf_24 (by decide) (fun v5 ev5 hf => ?_)
    refine r_icmp_ge 49 hf dX8_positionOf_25 (by decide) (fun c6 hf => ?_) (fun c6 hf => ?_)
    · refine r_sub (L' := []) [] rfl ?_
      exact hk1 _ (ho _ (Option.some.inj hf).symm)
    · refine r_aload_n 0 dX8_positionOf_28 rfl rfl ?_
      refine r_ldR hf dX8_positionOf_29 fl_RX8_22 rfl (fun v7 ev7 hf => ?_)
      refine r_iload 3 dX8_positionOf_32 rfl ?_
      refine r_raL hf dX8_positionOf_34 (fun v8 ev8 hf => ?_)
      refine r_lload_n 1 dX8_positionOf_35 rfl rfl ?_
      refine r_lcmp_ne 43 hf dX8_positionOf_36 dX8_positionOf_37 (by decide) (fun c9 hf => ?_) (fun c9 hf => ?_)
      · refine r_iinc (1 : Int32) (L' := [(5, _), (0, _), (1, _), (4, _)]) 3 dX8_positionOf_43 rfl (by decide) (show 5 < 6 by decide) rfl ?_
        refine r_goto 11 dX8_positionOf_46 (by decide) ?_
        refine r_sub (L' := [(0, _), (1, _), (4, _), (5, _)]) [1, 2, 3, 0] rfl ?_
        exact ih _ (Option.some.inj hf).symm
      · refine r_sub (L' := [(5, _)]) [3] rfl ?_
        exact hk0 _ (ho _ (Option.some.inj hf).symm)
set_option maxRecDepth 100000 in
set_option maxHeartbeats 4000000 in
theorem t_Te_positionOf {Γ : W0} {σ : Mem} {th : Nat} {x1 : Int64} {x3 : Int32} {x4 : Int32} {v : Int32} (hf : Te_positionOf σ th x1 x3 x4 = some v) : CT Γ MD_Te_positionOf yX8_positionOf [va_rf (some th), .long x1, .int x3, .int x4] σ (some (.int v), σ) := by
  refine CT.of (L := [(0, va_rf (some th)), (1, .long x1), (3, .int x3), (4, .int x4)]) rfl (by decide) (fun h => Bool.noConfusion (show false = true from h)) (Nat.le_of_ble_eq_true rfl) rfl ?_
  unfold Te_positionOf at hf
  generalize hr : mkR Γ σ (some (.int v)) σ = r
  refine r_iload_n 2 dX8_positionOf_0 rfl rfl ?_
  refine r_bd (fun (q1 : Int32) => V Γ MD_Te_positionOf σ r σ 9 [(0, va_rf (some th)), (1, .long x1), (4, .int x4)] [.int q1]) hf (fun q1 hf => ?_) (fun yq1 hf kq1 => ?_)
  · refine r_istore (L' := [(5, _), (0, _), (1, _), (4, _)]) dX8_positionOf_9 (show 5 < 6 by decide) rfl ?_
    refine bnd hf (fun t10 et10 hf => ?_)
    refine r_sub (L' := [(0, _), (1, _), (4, _), (5, _)]) [1, 2, 3, 0] rfl ?_
    refine x_Te_positionOf_l11 ?_ ?_ _ et10
    · intro z11 hz11
      subst hz11
      simp only [se] at hf
      refine r_iload 0 dX8_positionOf_40 rfl ?_
      exact r_iret rfl dX8_positionOf_42 (by have h1 := (Option.some.inj hf); subst h1; exact hr.symm)
    · intro z12 hz12
      subst hz12
      simp only [se] at hf
      refine r_iconst (-1 : Int32) dX8_positionOf_49 (by decide) ?_
      exact r_iret rfl dX8_positionOf_50 (by have h1 := (Option.some.inj hf); subst h1; exact hr.symm)
  · refine r_if_ge 8 hf dX8_positionOf_1 (by decide) (fun c2 hf => ?_) (fun c2 hf => ?_)
    · refine r_iload_n 2 dX8_positionOf_8 rfl rfl ?_
      refine r_sub (L' := [(0, _), (1, _), (4, _)]) [0, 1, 3] rfl ?_
      cases (Option.some.inj hf)
      exact kq1
    · refine r_iconst (0 : Int32) dX8_positionOf_4 (by decide) ?_
      refine r_goto 9 dX8_positionOf_5 (by decide) ?_
      refine r_sub (L' := [(0, _), (1, _), (4, _)]) [0, 1, 3] rfl ?_
      cases (Option.some.inj hf)
      exact kq1
/-! SearchEngine$Part.occursAt -/
noncomputable def Pa_occursAt_l51 (σ : Mem) (th : Nat) (x1 : Option Nat) (x3 : Int32) (x4 : Int32) (x5 : Int32) : Option ((Int32 × Int32) ⊕ Int32) :=
  (ldI σ 4 9 (some th)).bind fun v11 =>
  if v11 ≤ x5 then
    some (Sum.inr x4)
  else
    if x4 < 0 then
      some (Sum.inr x4)
    else
      (ldR σ 4 7 (some th)).bind fun v14 =>
      (raL σ 1 v14 x5).bind fun v15 =>
      (ldR σ 4 8 (some th)).bind fun v16 =>
      (raI σ 0 v16 x5).bind fun v17 =>
      (ldR σ 4 8 (some th)).bind fun v18 =>
      (raI σ 0 v18 (x5 - (1 : Int32))).bind fun v19 =>
      (chk σ 8 x1).bind fun a20 =>
      (Te_positionOf σ a20 v15 ((x4 + v17) - v19) x3).bind fun v21 =>
      some (Sum.inl (v21, (x5 + (1 : Int32))))
noncomputable def Pa_occursAt (σ : Mem) (th : Nat) (x1 : Option Nat) (x2 : Int32) : Option Bool :=
  (ldI σ 4 9 (some th)).bind fun v1 =>
  if v1 < (1 : Int32) then
    some false
  else
    (ldI σ 4 9 (some th)).bind fun v3 =>
    if v3 ≤ (8 : Int32) then
      (ldR σ 4 8 (some th)).bind fun v5 =>
      (ldI σ 4 9 (some th)).bind fun v6 =>
      (raI σ 0 v5 (v6 - (1 : Int32))).bind fun v7 =>
      (ldR σ 4 8 (some th)).bind fun v8 =>
      (raI σ 0 v8 (0 : Int32)).bind fun v9 =>
      (ldI σ 4 10 (some th)).bind fun v10 =>
      (lp (fun q => Pa_occursAt_l51 σ th x1 (((x2 + v7) - v9) + v10) q.1 q.2) (x2, (1 : Int32))).bind fun z23 =>
      if z23 < 0 then
        some false
      else
        some true
    else
      some false
set_option maxRecDepth 100000 in
set_option maxHeartbeats 4000000 in
theorem x_Pa_occursAt_l51 {Γ : W0} {σ0 : Mem} {r : RT} {σ : Mem} {th : Nat} {x1 : Option Nat} {x3 : Int32} {t : Int32} (hk0 : ∀ z : Int32, z = t → V Γ MD_Pa_occursAt σ0 r σ 105 [(4, .int z)] []) : ∀ q : Int32 × Int32, lp (fun q => Pa_occursAt_l51 σ th x1 x3 q.1 q.2) q = some t → V Γ MD_Pa_occursAt σ0 r σ 51 [(0, va_rf (some th)), (1, va_rf x1), (3, .int x3), (4, .int q.1), (5, .int q.2)] [] := by
  refine lp_ind (fun (q : Int32 × Int32) => V Γ MD_Pa_occursAt σ0 r σ 51 [(0, va_rf (some th)), (1, va_rf x1), (3, .int x3), (4, .int q.1), (5, .int q.2)] []) (fun q x hf ih ho => ?_)
  obtain ⟨x4, x5⟩ := q
  show V Γ MD_Pa_occursAt σ0 r σ 51 [(0, va_rf (some th)), (1, va_rf x1), (3, .int x3), (4, .int x4), (5, .int x5)] []
  replace hf : Pa_occursAt_l51 σ th x1 x3 x4 x5 = some x := hf
  unfold Pa_occursAt_l51 at hf
  refine r_iload 4 dX4_occursAt_51 rfl ?_
  refine r_aload_n 0 dX4_occursAt_53 rfl rfl ?_
  refine r_ldI hf dX4_occursAt_54 fl_RX4_45 rfl (fun v11 ev11 hf => ?_)
  refine r_icmp_ge 105 hf dX4_occursAt_57 (by decide) (fun c12 hf => ?_) (fun c12 hf => ?_)
  · refine r_sub (L' := [(4, _)]) [3] rfl ?_
    exact hk0 _ (ho _ (Option.some.inj hf).symm)
  · refine r_iload 3 dX4_occursAt_60 rfl ?_
    refine r_if_lt 105 hf dX4_occursAt_62 (by decide) (fun c13 hf => ?_) (fun c13 hf => ?_)
    · refine r_sub (L' := [(4, _)]) [3] rfl ?_
      exact hk0 _ (ho _ (Option.some.inj hf).symm)
    · refine r_aload_n 1 dX4_occursAt_65 rfl rfl ?_
      refine r_aload_n 0 dX4_occursAt_66 rfl rfl ?_
      refine r_ldR hf dX4_occursAt_67 fl_RX4_9 rfl (fun v14 ev14 hf => ?_)
      refine r_iload 4 dX4_occursAt_70 rfl ?_
      refine r_raL hf dX4_occursAt_72 (fun v15 ev15 hf => ?_)
      refine r_iload 3 dX4_occursAt_73 rfl ?_
      refine r_aload_n 0 dX4_occursAt_75 rfl rfl ?_
      refine r_ldR hf dX4_occursAt_76 fl_RX4_15 rfl (fun v16 ev16 hf => ?_)
      refine r_iload 4 dX4_occursAt_79 rfl ?_
      refine r_raI hf dX4_occursAt_81 (fun v17 ev17 hf => ?_)
      refine r_iadd dX4_occursAt_82 ?_
      refine r_aload_n 0 dX4_occursAt_83 rfl rfl ?_
      refine r_ldR hf dX4_occursAt_84 fl_RX4_15 rfl (fun v18 ev18 hf => ?_)
      refine r_iload 4 dX4_occursAt_87 rfl ?_
      refine r_iconst (1 : Int32) dX4_occursAt_89 (by decide) ?_
      refine r_isub dX4_occursAt_90 ?_
      refine r_raI hf dX4_occursAt_91 (fun v19 ev19 hf => ?_)
      refine r_isub dX4_occursAt_92 ?_
      refine r_iload_n 2 dX4_occursAt_93 rfl rfl ?_
      refine r_chk hf (fun a20 xa20 ta20 hf => ?_)
      refine bnd hf (fun v21 ev21 hf => ?_)
      refine r_callVr (ci := 8) xa20 dX4_occursAt_94 cs_RX4_125 ww_871 ww_872 (by decide) ta20 (by decide) rfl (rest := []) rfl (Or.inl (Nat.le_of_ble_eq_true rfl)) (t_Te_positionOf ev21) ?_
      refine r_istore (L' := [(4, _), (0, _), (1, _), (3, _), (5, _)]) dX4_occursAt_97 (show 4 < 6 by decide) rfl ?_
      refine r_iinc (1 : Int32) (L' := [(5, _), (4, _), (0, _), (1, _), (3, _)]) 4 dX4_occursAt_99 rfl (by decide) (show 5 < 6 by decide) rfl ?_
      refine r_goto 51 dX4_occursAt_102 (by decide) ?_
      refine r_sub (L' := [(0, _), (1, _), (3, _), (4, _), (5, _)]) [2, 3, 4, 1, 0] rfl ?_
      exact ih _ (Option.some.inj hf).symm
set_option maxRecDepth 100000 in
set_option maxHeartbeats 4000000 in
theorem t_Pa_occursAt {Γ : W0} {σ : Mem} {th : Nat} {x1 : Option Nat} {x2 : Int32} {v : Bool} (hf : Pa_occursAt σ th x1 x2 = some v) : CT Γ MD_Pa_occursAt yX4_occursAt [va_rf (some th), va_rf x1, .int x2] σ (some (.int (b2i v)), σ) := by
  refine CT.of (L := [(0, va_rf (some th)), (1, va_rf x1), (2, .int x2)]) rfl (by decide) (fun h => Bool.noConfusion (show false = true from h)) (by cases x1 <;> exact Nat.le_of_ble_eq_true rfl) (by cases x1 <;> rfl) ?_
  unfold Pa_occursAt at hf
  generalize hr : mkR Γ σ (some (.int (b2i v))) σ = r
  refine r_aload_n 0 dX4_occursAt_0 rfl rfl ?_
  refine r_ldI hf dX4_occursAt_1 fl_RX4_45 rfl (fun v1 ev1 hf => ?_)
  refine r_iconst (1 : Int32) dX4_occursAt_4 (by decide) ?_
  refine r_icmp_lt 17 hf dX4_occursAt_5 (by decide) (fun c2 hf => ?_) (fun c2 hf => ?_)
  · refine r_iconst (b2i false) dX4_occursAt_17 rfl ?_
    exact r_zret rfl dX4_occursAt_18 (by have h1 := (Option.some.inj hf); subst h1; exact hr.symm)
  · refine r_aload_n 0 dX4_occursAt_8 rfl rfl ?_
    refine r_ldI hf dX4_occursAt_9 fl_RX4_45 rfl (fun v3 ev3 hf => ?_)
    refine r_bipush (8 : Int32) dX4_occursAt_12 (by decide) ?_
    refine r_icmp_le 19 hf dX4_occursAt_14 (by decide) (fun c4 hf => ?_) (fun c4 hf => ?_)
    · refine r_iload_n 2 dX4_occursAt_19 rfl rfl ?_
      refine r_aload_n 0 dX4_occursAt_20 rfl rfl ?_
      refine r_ldR hf dX4_occursAt_21 fl_RX4_15 rfl (fun v5 ev5 hf => ?_)
      refine r_aload_n 0 dX4_occursAt_24 rfl rfl ?_
      refine r_ldI hf dX4_occursAt_25 fl_RX4_45 rfl (fun v6 ev6 hf => ?_)
      refine r_iconst (1 : Int32) dX4_occursAt_28 (by decide) ?_
      refine r_isub dX4_occursAt_29 ?_
      refine r_raI hf dX4_occursAt_30 (fun v7 ev7 hf => ?_)
      refine r_iadd dX4_occursAt_31 ?_
      refine r_aload_n 0 dX4_occursAt_32 rfl rfl ?_
      refine r_ldR hf dX4_occursAt_33 fl_RX4_15 rfl (fun v8 ev8 hf => ?_)
      refine r_iconst (0 : Int32) dX4_occursAt_36 (by decide) ?_
      refine r_raI hf dX4_occursAt_37 (fun v9 ev9 hf => ?_)
      refine r_isub dX4_occursAt_38 ?_
      refine r_aload_n 0 dX4_occursAt_39 rfl rfl ?_
      refine r_ldI hf dX4_occursAt_40 fl_RX4_48 rfl (fun v10 ev10 hf => ?_)
      refine r_iadd dX4_occursAt_43 ?_
      refine r_istore_n (L' := [(3, _), (0, _), (1, _), (2, _)]) dX4_occursAt_44 rfl (show 3 < 6 by decide) rfl ?_
      refine r_iload_n 3 dX4_occursAt_45 rfl rfl ?_
      refine r_istore (L' := [(4, _), (3, _), (0, _), (1, _), (2, _)]) dX4_occursAt_46 (show 4 < 6 by decide) rfl ?_
      refine r_iconst (1 : Int32) dX4_occursAt_48 (by decide) ?_
      refine r_istore (L' := [(5, _), (4, _), (3, _), (0, _), (1, _), (2, _)]) dX4_occursAt_49 (show 5 < 6 by decide) rfl ?_
      refine bnd hf (fun t22 et22 hf => ?_)
      refine r_sub (L' := [(0, _), (1, _), (3, _), (4, _), (5, _)]) [3, 4, 2, 1, 0] rfl ?_
      refine x_Pa_occursAt_l51 ?_ _ et22
      · intro z23 hz23
        subst hz23
        refine r_iload 0 dX4_occursAt_105 rfl ?_
        refine r_if_lt 114 hf dX4_occursAt_107 (by decide) (fun c24 hf => ?_) (fun c24 hf => ?_)
        · refine r_iconst (b2i false) dX4_occursAt_114 rfl ?_
          exact r_zret rfl dX4_occursAt_115 (by have h1 := (Option.some.inj hf); subst h1; exact hr.symm)
        · refine r_iconst (b2i true) dX4_occursAt_110 rfl ?_
          refine r_goto 115 dX4_occursAt_111 (by decide) ?_
          exact r_zret rfl dX4_occursAt_115 (by have h1 := (Option.some.inj hf); subst h1; exact hr.symm)
    · refine r_iconst (b2i false) dX4_occursAt_17 rfl ?_
      exact r_zret rfl dX4_occursAt_18 (by have h1 := (Option.some.inj hf); subst h1; exact hr.symm)
/-! SearchEngine$Part.occurrences -/
noncomputable def Pa_occurrences_l4 (σ : Mem) (th : Nat) (x1 : Option Nat) (x2 : Int32) (x3 : Int32) : Option ((Int32 × Int32) ⊕ Int32) :=
  (chk σ 8 x1).bind fun a1 =>
  (Te_tokens σ a1).bind fun v2 =>
  if v2 ≤ x3 then
    some (Sum.inr x2)
  else
    (chk σ 8 x1).bind fun a4 =>
    (Te_termAt σ a4 x3).bind fun v5 =>
    (ldR σ 4 7 (some th)).bind fun v6 =>
    (raL σ 1 v6 (0 : Int32)).bind fun v7 =>
    Option.bind (
      if ¬ v5 = v7 then
        some x2
      else
        (chk σ 4 (some th)).bind fun a10 =>
        (Pa_occursAt σ a10 x1 x3).bind fun v11 =>
        if v11 = true then
          some (x2 + (1 : Int32))
        else
          some x2) fun q8 =>
    some (Sum.inl (q8, (x3 + (1 : Int32))))
noncomputable def Pa_occurrences (σ : Mem) (th : Nat) (x1 : Option Nat) : Option Int32 :=
  (lp (fun q => Pa_occurrences_l4 σ th x1 q.1 q.2) ((0 : Int32), (0 : Int32))).bind fun z14 =>
  some z14
set_option maxRecDepth 100000 in
set_option maxHeartbeats 4000000 in
theorem x_Pa_occurrences_l4 {Γ : W0} {σ0 : Mem} {r : RT} {σ : Mem} {th : Nat} {x1 : Option Nat} {t : Int32} (hk0 : ∀ z : Int32, z = t → V Γ MD_Pa_occurrences σ0 r σ 45 [(2, .int z)] []) : ∀ q : Int32 × Int32, lp (fun q => Pa_occurrences_l4 σ th x1 q.1 q.2) q = some t → V Γ MD_Pa_occurrences σ0 r σ 4 [(0, va_rf (some th)), (1, va_rf x1), (2, .int q.1), (3, .int q.2)] [] := by
  refine lp_ind (fun (q : Int32 × Int32) => V Γ MD_Pa_occurrences σ0 r σ 4 [(0, va_rf (some th)), (1, va_rf x1), (2, .int q.1), (3, .int q.2)] []) (fun q x hf ih ho => ?_)
  obtain ⟨x2, x3⟩ := q
  show V Γ MD_Pa_occurrences σ0 r σ 4 [(0, va_rf (some th)), (1, va_rf x1), (2, .int x2), (3, .int x3)] []
  replace hf : Pa_occurrences_l4 σ th x1 x2 x3 = some x := hf
  unfold Pa_occurrences_l4 at hf
  refine r_iload_n 3 dX4_occurrences_4 rfl rfl ?_
  refine r_aload_n 1 dX4_occurrences_5 rfl rfl ?_
  refine r_chk hf (fun a1 xa1 ta1 hf => ?_)
  refine bnd hf (fun v2 ev2 hf => ?_)
  refine r_callVr (ci := 8) xa1 dX4_occurrences_6 cs_RX4_113 ww_859 ww_860 (by decide) ta1 (by decide) rfl (rest := [_]) rfl (Or.inl (Nat.le_of_ble_eq_true rfl)) (t_Te_tokens ev2) ?_
  refine r_icmp_ge 45 hf dX4_occurrences_9 (by decide) (fun c3 hf => ?_) (fun c3 hf => ?_)
  · refine r_sub (L' := [(2, _)]) [2] rfl ?_
    exact hk0 _ (ho _ (Option.some.inj hf).symm)
  · refine r_aload_n 1 dX4_occurrences_12 rfl rfl ?_
    refine r_iload_n 3 dX4_occurrences_13 rfl rfl ?_
    refine r_chk hf (fun a4 xa4 ta4 hf => ?_)
    refine bnd hf (fun v5 ev5 hf => ?_)
    refine r_callVr (ci := 8) xa4 dX4_occurrences_14 cs_RX4_117 ww_863 ww_864 (by decide) ta4 (by decide) rfl (rest := []) rfl (Or.inl (Nat.le_of_ble_eq_true rfl)) (t_Te_termAt ev5) ?_
    refine r_aload_n 0 dX4_occurrences_17 rfl rfl ?_
    refine r_ldR hf dX4_occurrences_18 fl_RX4_9 rfl (fun v6 ev6 hf => ?_)
    refine r_iconst (0 : Int32) dX4_occurrences_21 (by decide) ?_
    refine r_raL hf dX4_occurrences_22 (fun v7 ev7 hf => ?_)
    refine r_bd (fun (q8 : Int32) => V Γ MD_Pa_occurrences σ0 r σ 39 [(0, va_rf (some th)), (1, va_rf x1), (2, .int q8), (3, .int x3)] []) hf (fun q8 hf => ?_) (fun yq8 hf kq8 => ?_)
    · refine r_iinc (1 : Int32) (L' := [(3, _), (0, _), (1, _), (2, _)]) 3 dX4_occurrences_39 rfl (by decide) (show 3 < 4 by decide) rfl ?_
      refine r_goto 4 dX4_occurrences_42 (by decide) ?_
      refine r_sub (L' := [(0, _), (1, _), (2, _), (3, _)]) [1, 2, 3, 0] rfl ?_
      exact ih _ (Option.some.inj hf).symm
    · refine r_lcmp_ne 39 hf dX4_occurrences_23 dX4_occurrences_24 (by decide) (fun c9 hf => ?_) (fun c9 hf => ?_)
      · refine r_sub (L' := [(0, _), (1, _), (2, _), (3, _)]) [0, 1, 2, 3] rfl ?_
        cases (Option.some.inj hf)
        exact kq8
      · refine r_aload_n 0 dX4_occurrences_27 rfl rfl ?_
        refine r_aload_n 1 dX4_occurrences_28 rfl rfl ?_
        refine r_iload_n 3 dX4_occurrences_29 rfl rfl ?_
        refine r_chk hf (fun a10 xa10 ta10 hf => ?_)
        refine bnd hf (fun v11 ev11 hf => ?_)
        refine r_callVr (ci := 4) xa10 dX4_occurrences_30 cs_RX4_121 ww_868 ww_33 (by decide) ta10 (by decide) rfl (rest := []) rfl (Or.inl (Nat.le_of_ble_eq_true rfl)) (t_Pa_occursAt ev11) ?_
        refine r_ifeqZ 39 hf dX4_occurrences_33 (by decide) (fun c12 hf => ?_) (fun c12 hf => ?_)
        · refine r_iinc (1 : Int32) (L' := [(2, .int (x2 + (1 : Int32))), (0, va_rf (some th)), (1, va_rf x1), (3, .int x3)]) 2 dX4_occurrences_36 rfl (by decide) (show 2 < 4 by decide) (by simp [List.filter, cat_rf, cat_i, cat_l]) ?_
          refine r_sub (L' := [(0, _), (1, _), (2, _), (3, _)]) [1, 2, 0, 3] rfl ?_
          cases (Option.some.inj hf)
          exact kq8
        · refine r_sub (L' := [(0, _), (1, _), (2, _), (3, _)]) [0, 1, 2, 3] rfl ?_
          cases (Option.some.inj hf)
          exact kq8
set_option maxRecDepth 100000 in
set_option maxHeartbeats 4000000 in
theorem t_Pa_occurrences {Γ : W0} {σ : Mem} {th : Nat} {x1 : Option Nat} {v : Int32} (hf : Pa_occurrences σ th x1 = some v) : CT Γ MD_Pa_occurrences yX4_occurrences [va_rf (some th), va_rf x1] σ (some (.int v), σ) := by
  refine CT.of (L := [(0, va_rf (some th)), (1, va_rf x1)]) rfl (by decide) (fun h => Bool.noConfusion (show false = true from h)) (by cases x1 <;> exact Nat.le_of_ble_eq_true rfl) (by cases x1 <;> rfl) ?_
  unfold Pa_occurrences at hf
  generalize hr : mkR Γ σ (some (.int v)) σ = r
  refine r_iconst (0 : Int32) dX4_occurrences_0 (by decide) ?_
  refine r_istore_n (i := 2) (L' := [(2, .int (0 : Int32)), (0, va_rf (some th)), (1, va_rf x1)]) dX4_occurrences_1 rfl (show 2 < 4 by decide) (by simp [List.filter, cat_rf, cat_i, cat_l]) ?_
  refine r_iconst (0 : Int32) dX4_occurrences_2 (by decide) ?_
  refine r_istore_n (L' := [(3, _), (2, _), (0, _), (1, _)]) dX4_occurrences_3 rfl (show 3 < 4 by decide) rfl ?_
  refine bnd hf (fun t13 et13 hf => ?_)
  refine r_sub (L' := [(0, _), (1, _), (2, _), (3, _)]) [2, 3, 1, 0] rfl ?_
  refine x_Pa_occurrences_l4 ?_ _ et13
  · intro z14 hz14
    subst hz14
    refine r_iload_n 0 dX4_occurrences_45 rfl rfl ?_
    exact r_iret rfl dX4_occurrences_46 (by have h1 := (Option.some.inj hf); subst h1; exact hr.symm)
/-! SearchEngine.capped -/
noncomputable def E_capped (x0 : Int64) : Option Int32 :=
  some ((minL x0 (1000000000 : Int64)).toInt32)
set_option maxRecDepth 100000 in
set_option maxHeartbeats 4000000 in
theorem t_E_capped {Γ : W0} {σ : Mem} {x0 : Int64} {v : Int32} (hf : E_capped x0 = some v) : CT Γ MD_E_capped yX11_capped [.long x0] σ (some (.int v), σ) := by
  refine CT.of (L := [(0, .long x0)]) rfl (by decide) (fun h => Bool.noConfusion (show false = true from h)) (Nat.le_of_ble_eq_true rfl) rfl ?_
  unfold E_capped at hf
  generalize hr : mkR Γ σ (some (.int v)) σ = r
  refine r_lload_n 0 dX11_capped_0 rfl rfl ?_
  refine r_ldc2 (1000000000 : Int64) dX11_capped_1 ww_878 ?_
  refine r_mminL dX11_capped_4 ww_879 ww_880 ww_103 ww_881 (by decide) (Nat.le_of_ble_eq_true rfl) ?_
  refine r_l2i dX11_capped_7 ?_
  exact r_iret rfl dX11_capped_8 (by have h1 := (Option.some.inj hf); subst h1; exact hr.symm)
/-! SearchEngine$Part.scoreIn -/
noncomputable def Pa_scoreIn (σ : Mem) (th : Nat) (x1 : Option Nat) (x2 : Int32) : Option Int32 :=
  Option.bind (
    if ¬ x2 = 0 then
      some (1 : Int32)
    else
      some (3 : Int32)) fun q1 =>
  (ldI σ 4 0 (some th)).bind fun v3 =>
  if ¬ v3 = (2 : Int32) then
    (ldI σ 4 9 (some th)).bind fun v5 =>
    Option.bind (
      if ¬ v5 = (1 : Int32) then
        (chk σ 4 (some th)).bind fun a8 =>
        (Pa_occurrences σ a8 x1).bind fun v9 =>
        some v9
      else
        (ldR σ 8 3 x1).bind fun v10 =>
        (ldR σ 4 7 (some th)).bind fun v11 =>
        (raL σ 1 v11 (0 : Int32)).bind fun v12 =>
        (chk σ 10 v10).bind fun a13 =>
        (Vo_countOf σ a13 v12).bind fun v14 =>
        some v14) fun q6 =>
    if ¬ q6 = 0 then
      (ldR σ 4 14 (some th)).bind fun v16 =>
      (raI σ 0 v16 x2).bind fun v17 =>
      (E_capped ((((64 : Int64) * q6.toInt64) * v17.toInt64) * q1.toInt64)).bind fun v18 =>
      (chk σ 8 x1).bind fun a19 =>
      (Te_tokens σ a19).bind fun v20 =>
      (divI v18 ((8 : Int32) + v20)).bind fun v21 =>
      some v21
    else
      some (-1 : Int32)
  else
    (ldR σ 8 3 x1).bind fun v22 =>
    (ldL σ 4 12 (some th)).bind fun v23 =>
    (ldL σ 4 13 (some th)).bind fun v24 =>
    (chk σ 10 v22).bind fun a25 =>
    (Vo_hasBetween σ a25 v23 v24).bind fun v26 =>
    if v26 = true then
      some ((16 : Int32) * q1)
    else
      some (-1 : Int32)
set_option maxRecDepth 100000 in
set_option maxHeartbeats 4000000 in
theorem t_Pa_scoreIn {Γ : W0} {σ : Mem} {th : Nat} {x1 : Option Nat} {x2 : Int32} {v : Int32} (hf : Pa_scoreIn σ th x1 x2 = some v) : CT Γ MD_Pa_scoreIn yX4_scoreIn [va_rf (some th), va_rf x1, .int x2] σ (some (.int v), σ) := by
  refine CT.of (L := [(0, va_rf (some th)), (1, va_rf x1), (2, .int x2)]) rfl (by decide) (fun h => Bool.noConfusion (show false = true from h)) (by cases x1 <;> exact Nat.le_of_ble_eq_true rfl) (by cases x1 <;> rfl) ?_
  unfold Pa_scoreIn at hf
  generalize hr : mkR Γ σ (some (.int v)) σ = r
  refine r_iload_n 2 dX4_scoreIn_0 rfl rfl ?_
  refine r_bd (fun (q1 : Int32) => V Γ MD_Pa_scoreIn σ r σ 9 [(0, va_rf (some th)), (1, va_rf x1), (2, .int x2)] [.int q1]) hf (fun q1 hf => ?_) (fun yq1 hf kq1 => ?_)
  · refine r_istore_n (L' := [(3, _), (0, _), (1, _), (2, _)]) dX4_scoreIn_9 rfl (show 3 < 5 by decide) rfl ?_
    refine r_aload_n 1 dX4_scoreIn_10 rfl rfl ?_
    refine r_ldI hf dX4_scoreIn_11 fl_RX4_22 rfl (fun v3 ev3 hf => ?_)
    refine r_iconst (2 : Int32) dX4_scoreIn_14 (by decide) ?_
    refine r_icmp_ne 45 hf dX4_scoreIn_15 (by decide) (fun c4 hf => ?_) (fun c4 hf => ?_)
    · refine r_aload_n 1 dX4_scoreIn_45 rfl rfl ?_
      refine r_ldI hf dX4_scoreIn_46 fl_RX4_45 rfl (fun v5 ev5 hf => ?_)
      refine r_iconst (1 : Int32) dX4_scoreIn_49 (by decide) ?_
      refine r_bd (fun (q6 : Int32) => V Γ MD_Pa_scoreIn σ r σ 74 [(0, va_rf (some th)), (1, va_rf x1), (2, .int x2), (3, .int q1)] [.int q6]) hf (fun q6 hf => ?_) (fun yq6 hf kq6 => ?_)
      · refine r_istore (L' := [(4, _), (0, _), (1, _), (2, _), (3, _)]) dX4_scoreIn_74 (show 4 < 5 by decide) rfl ?_
        refine r_iload 0 dX4_scoreIn_76 rfl ?_
        refine r_if_ne 83 hf dX4_scoreIn_78 (by decide) (fun c15 hf => ?_) (fun c15 hf => ?_)
        · refine r_ldc2 (64 : Int64) dX4_scoreIn_83 ww_874 ?_
          refine r_iload 0 dX4_scoreIn_86 rfl ?_
          refine r_i2l dX4_scoreIn_88 ?_
          refine r_lmul dX4_scoreIn_89 ?_
          refine r_aload_n 1 dX4_scoreIn_90 rfl rfl ?_
          refine r_ldR hf dX4_scoreIn_91 fl_RX4_19 rfl (fun v16 ev16 hf => ?_)
          refine r_iload_n 3 dX4_scoreIn_94 rfl rfl ?_
          refine r_raI hf dX4_scoreIn_95 (fun v17 ev17 hf => ?_)
          refine r_i2l dX4_scoreIn_96 ?_
          refine r_lmul dX4_scoreIn_97 ?_
          refine r_iload_n 4 dX4_scoreIn_98 rfl rfl ?_
          refine r_i2l dX4_scoreIn_99 ?_
          refine r_lmul dX4_scoreIn_100 ?_
          refine bnd hf (fun v18 ev18 hf => ?_)
          refine r_callNr dX4_scoreIn_101 (show (RX4, 110, yX11_capped) ∈ nwM by decide +kernel) cs_RX4_110 ww_876 (by decide) rfl (rest := []) rfl (Or.inl (Nat.le_of_ble_eq_true rfl)) (t_E_capped ev18) ?_
          refine r_bipush (8 : Int32) dX4_scoreIn_104 (by decide) ?_
          refine r_aload_n 2 dX4_scoreIn_106 rfl rfl ?_
          refine r_chk hf (fun a19 xa19 ta19 hf => ?_)
          refine bnd hf (fun v20 ev20 hf => ?_)
          refine r_callVr (ci := 8) xa19 dX4_scoreIn_107 cs_RX4_113 ww_859 ww_860 (by decide) ta19 (by decide) rfl (rest := [_, _]) rfl (Or.inl (Nat.le_of_ble_eq_true rfl)) (t_Te_tokens ev20) ?_
          refine r_iadd dX4_scoreIn_110 ?_
          refine r_divI hf dX4_scoreIn_111 (fun v21 ev21 hf => ?_)
          exact r_iret rfl dX4_scoreIn_112 (by have h1 := (Option.some.inj hf); subst h1; exact hr.symm)
        · refine r_iconst (-1 : Int32) dX4_scoreIn_81 (by decide) ?_
          exact r_iret rfl dX4_scoreIn_82 (by have h1 := (Option.some.inj hf); subst h1; exact hr.symm)
      · refine r_icmp_ne 69 hf dX4_scoreIn_50 (by decide) (fun c7 hf => ?_) (fun c7 hf => ?_)
        · refine r_aload_n 1 dX4_scoreIn_69 rfl rfl ?_
          refine r_aload_n 2 dX4_scoreIn_70 rfl rfl ?_
          refine r_chk hf (fun a8 xa8 ta8 hf => ?_)
          refine bnd hf (fun v9 ev9 hf => ?_)
          refine r_callVr (ci := 4) xa8 dX4_scoreIn_71 cs_RX4_104 ww_856 ww_32 (by decide) ta8 (by decide) rfl (rest := []) rfl (Or.inl (Nat.le_of_ble_eq_true rfl)) (t_Pa_occurrences ev9) ?_
          refine r_sub (L' := [(0, _), (1, _), (2, _), (3, _)]) [1, 2, 3, 0] rfl ?_
          cases (Option.some.inj hf)
          exact kq6
        · refine r_aload_n 2 dX4_scoreIn_53 rfl rfl ?_
          refine r_ldR hf dX4_scoreIn_54 fl_RX4_88 rfl (fun v10 ev10 hf => ?_)
          refine r_aload_n 1 dX4_scoreIn_57 rfl rfl ?_
          refine r_ldR hf dX4_scoreIn_58 fl_RX4_9 rfl (fun v11 ev11 hf => ?_)
          refine r_iconst (0 : Int32) dX4_scoreIn_61 (by decide) ?_
          refine r_raL hf dX4_scoreIn_62 (fun v12 ev12 hf => ?_)
          refine r_chk hf (fun a13 xa13 ta13 hf => ?_)
          refine bnd hf (fun v14 ev14 hf => ?_)
          refine r_callVr (ci := 10) xa13 dX4_scoreIn_63 cs_RX4_100 ww_806 ww_807 (by decide) ta13 (by decide) rfl (rest := []) rfl (Or.inl (Nat.le_of_ble_eq_true rfl)) (t_Vo_countOf ev14) ?_
          refine r_goto 74 dX4_scoreIn_66 (by decide) ?_
          refine r_sub (L' := [(0, _), (1, _), (2, _), (3, _)]) [1, 2, 3, 0] rfl ?_
          cases (Option.some.inj hf)
          exact kq6
    · refine r_aload_n 2 dX4_scoreIn_18 rfl rfl ?_
      refine r_ldR hf dX4_scoreIn_19 fl_RX4_88 rfl (fun v22 ev22 hf => ?_)
      refine r_aload_n 1 dX4_scoreIn_22 rfl rfl ?_
      refine r_ldL hf dX4_scoreIn_23 fl_RX4_63 rfl (fun v23 ev23 hf => ?_)
      refine r_aload_n 1 dX4_scoreIn_26 rfl rfl ?_
      refine r_ldL hf dX4_scoreIn_27 fl_RX4_67 rfl (fun v24 ev24 hf => ?_)
      refine r_chk hf (fun a25 xa25 ta25 hf => ?_)
      refine bnd hf (fun v26 ev26 hf => ?_)
      refine r_callVr (ci := 10) xa25 dX4_scoreIn_30 cs_RX4_94 ww_850 ww_851 (by decide) ta25 (by decide) rfl (rest := []) rfl (Or.inl (Nat.le_of_ble_eq_true rfl)) (t_Vo_hasBetween ev26) ?_
      refine r_ifeqZ 43 hf dX4_scoreIn_33 (by decide) (fun c27 hf => ?_) (fun c27 hf => ?_)
      · refine r_bipush (16 : Int32) dX4_scoreIn_36 (by decide) ?_
        refine r_iload_n 0 dX4_scoreIn_38 rfl rfl ?_
        refine r_imul dX4_scoreIn_39 ?_
        refine r_goto 44 dX4_scoreIn_40 (by decide) ?_
        exact r_iret rfl dX4_scoreIn_44 (by have h1 := (Option.some.inj hf); subst h1; exact hr.symm)
      · refine r_iconst (-1 : Int32) dX4_scoreIn_43 (by decide) ?_
        exact r_iret rfl dX4_scoreIn_44 (by have h1 := (Option.some.inj hf); subst h1; exact hr.symm)
  · refine r_if_ne 8 hf dX4_scoreIn_1 (by decide) (fun c2 hf => ?_) (fun c2 hf => ?_)
    · refine r_iconst (1 : Int32) dX4_scoreIn_8 (by decide) ?_
      refine r_sub (L' := [(0, _), (1, _), (2, _)]) [0, 1, 2] rfl ?_
      cases (Option.some.inj hf)
      exact kq1
    · refine r_iconst (3 : Int32) dX4_scoreIn_4 (by decide) ?_
      refine r_goto 9 dX4_scoreIn_5 (by decide) ?_
      refine r_sub (L' := [(0, _), (1, _), (2, _)]) [0, 1, 2] rfl ?_
      cases (Option.some.inj hf)
      exact kq1
/-! SearchEngine.eitherScore -/
noncomputable def E_eitherScore (x0 : Int32) (x1 : Int32) : Option Int32 :=
  if ¬ x0 = (-1 : Int32) then
    if ¬ x1 = (-1 : Int32) then
      (E_capped (x0.toInt64 + x1.toInt64)).bind fun v3 =>
      some v3
    else
      some x0
  else
    some x1
set_option maxRecDepth 100000 in
set_option maxHeartbeats 4000000 in
theorem t_E_eitherScore {Γ : W0} {σ : Mem} {x0 : Int32} {x1 : Int32} {v : Int32} (hf : E_eitherScore x0 x1 = some v) : CT Γ MD_E_eitherScore yX11_eitherScore [.int x0, .int x1] σ (some (.int v), σ) := by
  refine CT.of (L := [(0, .int x0), (1, .int x1)]) rfl (by decide) (fun h => Bool.noConfusion (show false = true from h)) (Nat.le_of_ble_eq_true rfl) rfl ?_
  unfold E_eitherScore at hf
  generalize hr : mkR Γ σ (some (.int v)) σ = r
  refine r_iload_n 0 dX11_eitherScore_0 rfl rfl ?_
  refine r_iconst (-1 : Int32) dX11_eitherScore_1 (by decide) ?_
  refine r_icmp_ne 7 hf dX11_eitherScore_2 (by decide) (fun c1 hf => ?_) (fun c1 hf => ?_)
  · refine r_iload_n 1 dX11_eitherScore_7 rfl rfl ?_
    refine r_iconst (-1 : Int32) dX11_eitherScore_8 (by decide) ?_
    refine r_icmp_ne 16 hf dX11_eitherScore_9 (by decide) (fun c2 hf => ?_) (fun c2 hf => ?_)
    · refine r_iload_n 0 dX11_eitherScore_16 rfl rfl ?_
      refine r_i2l dX11_eitherScore_17 ?_
      refine r_iload_n 1 dX11_eitherScore_18 rfl rfl ?_
      refine r_i2l dX11_eitherScore_19 ?_
      refine r_ladd dX11_eitherScore_20 ?_
      refine bnd hf (fun v3 ev3 hf => ?_)
      refine r_callSr dX11_eitherScore_21 cs_RX11_313 ww_876 (by decide) rfl (rest := []) rfl (Or.inl (Nat.le_of_ble_eq_true rfl)) (t_E_capped ev3) ?_
      exact r_iret rfl dX11_eitherScore_24 (by have h1 := (Option.some.inj hf); subst h1; exact hr.symm)
    · refine r_iload_n 0 dX11_eitherScore_12 rfl rfl ?_
      refine r_goto 24 dX11_eitherScore_13 (by decide) ?_
      exact r_iret rfl dX11_eitherScore_24 (by have h1 := (Option.some.inj hf); subst h1; exact hr.symm)
  · refine r_iload_n 1 dX11_eitherScore_5 rfl rfl ?_
    exact r_iret rfl dX11_eitherScore_6 (by have h1 := (Option.some.inj hf); subst h1; exact hr.symm)
/-! SearchEngine$Part.scoreOf -/
noncomputable def Pa_scoreOf_l54 (σ : Mem) (th : Nat) (x1 : Option Nat) (x2 : Int32) (x3 : Int32) : Option ((Int32 × Int32) ⊕ Int32) :=
  if (2 : Int32) ≤ x3 then
    some (Sum.inr x2)
  else
    (chk σ 4 (some th)).bind fun a9 =>
    (Pa_isFor σ a9 x3).bind fun v10 =>
    Option.bind (
      if v10 = true then
        (chk σ 1 x1).bind fun a13 =>
        (Do_textOf σ a13 x3).bind fun v14 =>
        (chk σ 4 (some th)).bind fun a15 =>
        (Pa_scoreIn σ a15 v14 x3).bind fun v16 =>
        (E_eitherScore x2 v16).bind fun v17 =>
        some v17
      else
        some x2) fun q11 =>
    some (Sum.inl (q11, (x3 + (1 : Int32))))
noncomputable def Pa_scoreOf (σ : Mem) (th : Nat) (x1 : Option Nat) : Option Int32 :=
  (ldI σ 4 0 (some th)).bind fun v1 =>
  if ¬ v1 = (3 : Int32) then
    (ldI σ 4 0 (some th)).bind fun v3 =>
    jn (
      if ¬ v3 = (1 : Int32) then
        some (Sum.inr ())
      else
        (ldI σ 4 9 (some th)).bind fun v6 =>
        if ¬ v6 = 0 then
          some (Sum.inr ())
        else
          some (Sum.inl (0 : Int32))) fun q4 =>
    (lp (fun q => Pa_scoreOf_l54 σ th x1 q.1 q.2) ((-1 : Int32), (0 : Int32))).bind fun z19 =>
    some z19
  else
    (ldI σ 4 11 (some th)).bind fun v20 =>
    (ldL σ 4 12 (some th)).bind fun v21 =>
    (ldL σ 4 13 (some th)).bind fun v22 =>
    (chk σ 1 x1).bind fun a23 =>
    (Do_isBetween σ a23 v20 v21 v22).bind fun v24 =>
    if v24 = true then
      some (0 : Int32)
    else
      some (-1 : Int32)
set_option maxRecDepth 100000 in
set_option maxHeartbeats 4000000 in
theorem x_Pa_scoreOf_l54 {Γ : W0} {σ0 : Mem} {r : RT} {σ : Mem} {th : Nat} {x1 : Option Nat} {t : Int32} (hk0 : ∀ z : Int32, z = t → V Γ MD_Pa_scoreOf σ0 r σ 88 [(2, .int z)] []) : ∀ q : Int32 × Int32, lp (fun q => Pa_scoreOf_l54 σ th x1 q.1 q.2) q = some t → V Γ MD_Pa_scoreOf σ0 r σ 54 [(0, va_rf (some th)), (1, va_rf x1), (2, .int q.1), (3, .int q.2)] [] := by
  refine lp_ind (fun (q : Int32 × Int32) => V Γ MD_Pa_scoreOf σ0 r σ 54 [(0, va_rf (some th)), (1, va_rf x1), (2, .int q.1), (3, .int q.2)] []) (fun q x hf ih ho => ?_)
  obtain ⟨x2, x3⟩ := q
  show V Γ MD_Pa_scoreOf σ0 r σ 54 [(0, va_rf (some th)), (1, va_rf x1), (2, .int x2), (3, .int x3)] []
  replace hf : Pa_scoreOf_l54 σ th x1 x2 x3 = some x := hf
  unfold Pa_scoreOf_l54 at hf
  refine r_iload_n 3 dX4_scoreOf_54 rfl rfl ?_
  refine r_iconst (2 : Int32) dX4_scoreOf_55 (by decide) ?_
  refine r_icmp_ge 88 hf dX4_scoreOf_56 (by decide) (fun c8 hf => ?_) (fun c8 hf => ?_)
  · refine r_sub (L' := [(2, _)]) [2] rfl ?_
    exact hk0 _ (ho _ (Option.some.inj hf).symm)
  · refine r_aload_n 0 dX4_scoreOf_59 rfl rfl ?_
    refine r_iload_n 3 dX4_scoreOf_60 rfl rfl ?_
    refine r_chk hf (fun a9 xa9 ta9 hf => ?_)
    refine bnd hf (fun v10 ev10 hf => ?_)
    refine r_callVr (ci := 4) xa9 dX4_scoreOf_61 cs_RX4_51 ww_787 ww_27 (by decide) ta9 (by decide) rfl (rest := []) rfl (Or.inl (Nat.le_of_ble_eq_true rfl)) (t_Pa_isFor ev10) ?_
    refine r_bd (fun (q11 : Int32) => V Γ MD_Pa_scoreOf σ0 r σ 82 [(0, va_rf (some th)), (1, va_rf x1), (2, .int q11), (3, .int x3)] []) hf (fun q11 hf => ?_) (fun yq11 hf kq11 => ?_)
    · refine r_iinc (1 : Int32) (L' := [(3, _), (0, _), (1, _), (2, _)]) 3 dX4_scoreOf_82 rfl (by decide) (show 3 < 4 by decide) rfl ?_
      refine r_goto 54 dX4_scoreOf_85 (by decide) ?_
      refine r_sub (L' := [(0, _), (1, _), (2, _), (3, _)]) [1, 2, 3, 0] rfl ?_
      exact ih _ (Option.some.inj hf).symm
    · refine r_ifeqZ 82 hf dX4_scoreOf_64 (by decide) (fun c12 hf => ?_) (fun c12 hf => ?_)
      · refine r_iload_n 2 dX4_scoreOf_67 rfl rfl ?_
        refine r_aload_n 0 dX4_scoreOf_68 rfl rfl ?_
        refine r_aload_n 1 dX4_scoreOf_69 rfl rfl ?_
        refine r_iload_n 3 dX4_scoreOf_70 rfl rfl ?_
        refine r_chk hf (fun a13 xa13 ta13 hf => ?_)
        refine bnd hf (fun v14 ev14 hf => ?_)
        refine r_callVr (ci := 1) xa13 dX4_scoreOf_71 cs_RX4_76 ww_587 ww_588 (by decide) ta13 (by decide) rfl (rest := [_, _]) rfl (Or.inl (Nat.le_of_ble_eq_true rfl)) (t_Do_textOf ev14) ?_
        refine r_iload_n 3 dX4_scoreOf_74 rfl rfl ?_
        refine r_chk hf (fun a15 xa15 ta15 hf => ?_)
        refine bnd hf (fun v16 ev16 hf => ?_)
        refine r_callVr (ci := 4) xa15 dX4_scoreOf_75 cs_RX4_80 ww_847 ww_31 (by decide) ta15 (by decide) rfl (rest := [_]) rfl (Or.inl (Nat.le_of_ble_eq_true rfl)) (t_Pa_scoreIn ev16) ?_
        refine bnd hf (fun v17 ev17 hf => ?_)
        refine r_callNr dX4_scoreOf_78 (show (RX4, 84, yX11_eitherScore) ∈ nwM by decide +kernel) cs_RX4_84 ww_883 (by decide) rfl (rest := []) rfl (Or.inl (Nat.le_of_ble_eq_true rfl)) (t_E_eitherScore ev17) ?_
        refine r_istore_n (i := 2) (L' := [(2, .int v17), (0, va_rf (some th)), (1, va_rf x1), (3, .int x3)]) dX4_scoreOf_81 rfl (show 2 < 4 by decide) (by simp [List.filter, cat_rf, cat_i, cat_l]) ?_
        refine r_sub (L' := [(0, _), (1, _), (2, _), (3, _)]) [1, 2, 0, 3] rfl ?_
        cases (Option.some.inj hf)
        exact kq11
      · refine r_sub (L' := [(0, _), (1, _), (2, _), (3, _)]) [0, 1, 2, 3] rfl ?_
        cases (Option.some.inj hf)
        exact kq11
set_option maxRecDepth 100000 in
set_option maxHeartbeats 4000000 in
theorem t_Pa_scoreOf {Γ : W0} {σ : Mem} {th : Nat} {x1 : Option Nat} {v : Int32} (hf : Pa_scoreOf σ th x1 = some v) : CT Γ MD_Pa_scoreOf yX4_scoreOf [va_rf (some th), va_rf x1] σ (some (.int v), σ) := by
  refine CT.of (L := [(0, va_rf (some th)), (1, va_rf x1)]) rfl (by decide) (fun h => Bool.noConfusion (show false = true from h)) (by cases x1 <;> exact Nat.le_of_ble_eq_true rfl) (by cases x1 <;> rfl) ?_
  unfold Pa_scoreOf at hf
  generalize hr : mkR Γ σ (some (.int v)) σ = r
  refine r_aload_n 0 dX4_scoreOf_0 rfl rfl ?_
  refine r_ldI hf dX4_scoreOf_1 fl_RX4_22 rfl (fun v1 ev1 hf => ?_)
  refine r_iconst (3 : Int32) dX4_scoreOf_4 (by decide) ?_
  refine r_icmp_ne 33 hf dX4_scoreOf_5 (by decide) (fun c2 hf => ?_) (fun c2 hf => ?_)
  · refine r_aload_n 0 dX4_scoreOf_33 rfl rfl ?_
    refine r_ldI hf dX4_scoreOf_34 fl_RX4_22 rfl (fun v3 ev3 hf => ?_)
    refine r_iconst (1 : Int32) dX4_scoreOf_37 (by decide) ?_
    refine r_jn (fun (q4 : Unit) => V Γ MD_Pa_scoreOf σ r σ 50 [(0, va_rf (some th)), (1, va_rf x1)] []) hf (fun q4 hf => ?_) (fun yq4 hf oq4 kq4 => ?_)
    · refine r_iconst (-1 : Int32) dX4_scoreOf_50 (by decide) ?_
      refine r_istore_n (i := 2) (L' := [(2, .int (-1 : Int32)), (0, va_rf (some th)), (1, va_rf x1)]) dX4_scoreOf_51 rfl (show 2 < 4 by decide) (by simp [List.filter, cat_rf, cat_i, cat_l]) ?_
      refine r_iconst (0 : Int32) dX4_scoreOf_52 (by decide) ?_
      refine r_istore_n (L' := [(3, _), (2, _), (0, _), (1, _)]) dX4_scoreOf_53 rfl (show 3 < 4 by decide) rfl ?_
      refine bnd hf (fun t18 et18 hf => ?_)
      refine r_sub (L' := [(0, _), (1, _), (2, _), (3, _)]) [2, 3, 1, 0] rfl ?_
      refine x_Pa_scoreOf_l54 ?_ _ et18
      · intro z19 hz19
        subst hz19
        refine r_iload_n 0 dX4_scoreOf_88 rfl rfl ?_
        exact r_iret rfl dX4_scoreOf_89 (by have h1 := (Option.some.inj hf); subst h1; exact hr.symm)
    · refine r_icmp_ne 50 hf dX4_scoreOf_38 (by decide) (fun c5 hf => ?_) (fun c5 hf => ?_)
      · refine r_sub (L' := [(0, _), (1, _)]) [0, 1] rfl ?_
        exact kq4 _ (Option.some.inj hf).symm
      · refine r_aload_n 0 dX4_scoreOf_41 rfl rfl ?_
        refine r_ldI hf dX4_scoreOf_42 fl_RX4_45 rfl (fun v6 ev6 hf => ?_)
        refine r_if_ne 50 hf dX4_scoreOf_45 (by decide) (fun c7 hf => ?_) (fun c7 hf => ?_)
        · refine r_sub (L' := [(0, _), (1, _)]) [0, 1] rfl ?_
          exact kq4 _ (Option.some.inj hf).symm
        · refine r_iconst (0 : Int32) dX4_scoreOf_48 (by decide) ?_
          exact r_iret rfl dX4_scoreOf_49 (by have h1 := (oq4 _ (Option.some.inj hf).symm); subst h1; exact hr.symm)
  · refine r_aload_n 1 dX4_scoreOf_8 rfl rfl ?_
    refine r_aload_n 0 dX4_scoreOf_9 rfl rfl ?_
    refine r_ldI hf dX4_scoreOf_10 fl_RX4_60 rfl (fun v20 ev20 hf => ?_)
    refine r_aload_n 0 dX4_scoreOf_13 rfl rfl ?_
    refine r_ldL hf dX4_scoreOf_14 fl_RX4_63 rfl (fun v21 ev21 hf => ?_)
    refine r_aload_n 0 dX4_scoreOf_17 rfl rfl ?_
    refine r_ldL hf dX4_scoreOf_18 fl_RX4_67 rfl (fun v22 ev22 hf => ?_)
    refine r_chk hf (fun a23 xa23 ta23 hf => ?_)
    refine bnd hf (fun v24 ev24 hf => ?_)
    refine r_callVr (ci := 1) xa23 dX4_scoreOf_21 cs_RX4_70 ww_837 ww_838 (by decide) ta23 (by decide) rfl (rest := []) rfl (Or.inl (Nat.le_of_ble_eq_true rfl)) (t_Do_isBetween ev24) ?_
    refine r_ifeqZ 31 hf dX4_scoreOf_24 (by decide) (fun c25 hf => ?_) (fun c25 hf => ?_)
    · refine r_iconst (0 : Int32) dX4_scoreOf_27 (by decide) ?_
      refine r_goto 32 dX4_scoreOf_28 (by decide) ?_
      exact r_iret rfl dX4_scoreOf_32 (by have h1 := (Option.some.inj hf); subst h1; exact hr.symm)
    · refine r_iconst (-1 : Int32) dX4_scoreOf_31 (by decide) ?_
      exact r_iret rfl dX4_scoreOf_32 (by have h1 := (Option.some.inj hf); subst h1; exact hr.symm)
/-! SearchEngine$Part.names -/
noncomputable def Pa_names_l60 (σ : Mem) (th : Nat) (x1 : Int64) (x4 : Int32) : Option (Int32 ⊕ (Unit ⊕ Unit)) :=
  (ldI σ 4 9 (some th)).bind fun v10 =>
  if v10 ≤ x4 then
    some (Sum.inr (Sum.inr ()))
  else
    (ldR σ 4 7 (some th)).bind fun v12 =>
    (raL σ 1 v12 x4).bind fun v13 =>
    if ¬ v13 = x1 then
      some (Sum.inl (x4 + (1 : Int32)))
    else
      some (Sum.inr (Sum.inl ()))
noncomputable def Pa_names (σ : Mem) (th : Nat) (x1 : Int64) (x3 : Int32) : Option Bool :=
  (ldB σ 4 3 (some th)).bind fun v1 =>
  if v1 = true then
    some false
  else
    (chk σ 4 (some th)).bind fun a3 =>
    (Pa_isFor σ a3 x3).bind fun v4 =>
    if v4 = true then
      (ldI σ 4 0 (some th)).bind fun v6 =>
      if ¬ v6 = (2 : Int32) then
        (ldI σ 4 0 (some th)).bind fun v8 =>
        if ¬ v8 = (1 : Int32) then
          some false
        else
          (lp (fun q => Pa_names_l60 σ th x1 q) (0 : Int32)).bind 
            (se (fun z16 =>
              some true)
              (fun z17 =>
                some false))
      else
        (ldL σ 4 12 (some th)).bind fun v18 =>
        if x1 < v18 then
          some false
        else
          (ldL σ 4 13 (some th)).bind fun v20 =>
          if v20 < x1 then
            some false
          else
            some true
    else
      some false
set_option maxRecDepth 100000 in
set_option maxHeartbeats 4000000 in
theorem x_Pa_names_l60 {Γ : W0} {σ0 : Mem} {r : RT} {σ : Mem} {th : Nat} {x1 : Int64} {t : Unit ⊕ Unit} (hk0 : ∀ z : Unit, (Sum.inl z) = t → V Γ MD_Pa_names σ0 r σ 81 [] []) (hk1 : ∀ z : Unit, (Sum.inr z) = t → V Γ MD_Pa_names σ0 r σ 89 [] []) : ∀ q : Int32, lp (fun q => Pa_names_l60 σ th x1 q) q = some t → V Γ MD_Pa_names σ0 r σ 60 [(0, va_rf (some th)), (1, .long x1), (4, .int q)] [] := by
  refine lp_ind (fun (q : Int32) => V Γ MD_Pa_names σ0 r σ 60 [(0, va_rf (some th)), (1, .long x1), (4, .int q)] []) (fun q x hf ih ho => ?_)
  revert hf ih
  generalize q = x4
  intro hf ih
  show V Γ MD_Pa_names σ0 r σ 60 [(0, va_rf (some th)), (1, .long x1), (4, .int x4)] []
  replace hf : Pa_names_l60 σ th x1 x4 = some x := hf
  unfold Pa_names_l60 at hf
  refine r_iload 2 dX4_names_60 rfl ?_
  refine r_aload_n 0 dX4_names_62 rfl rfl ?_
  refine r_ldI hf dX4_names_63 fl_RX4_45 rfl (fun v10 ev10 hf => ?_)
  refine r_icmp_ge 89 hf dX4_names_66 (by decide) (fun c11 hf => ?_) (fun c11 hf => ?_)
  · refine r_sub (L' := []) [] rfl ?_
    exact hk1 _ (ho _ (Option.some.inj hf).symm)
  · refine r_aload_n 0 dX4_names_69 rfl rfl ?_
    refine r_ldR hf dX4_names_70 fl_RX4_9 rfl (fun v12 ev12 hf => ?_)
    refine r_iload 2 dX4_names_73 rfl ?_
    refine r_raL hf dX4_names_75 (fun v13 ev13 hf => ?_)
    refine r_lload_n 1 dX4_names_76 rfl rfl ?_
    refine r_lcmp_ne 83 hf dX4_names_77 dX4_names_78 (by decide) (fun c14 hf => ?_) (fun c14 hf => ?_)
    · refine r_iinc (1 : Int32) (L' := [(4, _), (0, _), (1, _)]) 2 dX4_names_83 rfl (by decide) (show 4 < 5 by decide) rfl ?_
      refine r_goto 60 dX4_names_86 (by decide) ?_
      refine r_sub (L' := [(0, _), (1, _), (4, _)]) [1, 2, 0] rfl ?_
      exact ih _ (Option.some.inj hf).symm
    · refine r_sub (L' := []) [] rfl ?_
      exact hk0 _ (ho _ (Option.some.inj hf).symm)
set_option maxRecDepth 100000 in
set_option maxHeartbeats 4000000 in
theorem t_Pa_names {Γ : W0} {σ : Mem} {th : Nat} {x1 : Int64} {x3 : Int32} {v : Bool} (hf : Pa_names σ th x1 x3 = some v) : CT Γ MD_Pa_names yX4_names [va_rf (some th), .long x1, .int x3] σ (some (.int (b2i v)), σ) := by
  refine CT.of (L := [(0, va_rf (some th)), (1, .long x1), (3, .int x3)]) rfl (by decide) (fun h => Bool.noConfusion (show false = true from h)) (Nat.le_of_ble_eq_true rfl) rfl ?_
  unfold Pa_names at hf
  generalize hr : mkR Γ σ (some (.int (b2i v))) σ = r
  refine r_aload_n 0 dX4_names_0 rfl rfl ?_
  refine r_ldB hf dX4_names_1 fl_RX4_33 rfl (fun v1 ev1 hf => ?_)
  refine r_ifneZ 15 hf dX4_names_4 (by decide) (fun c2 hf => ?_) (fun c2 hf => ?_)
  · refine r_iconst (b2i false) dX4_names_15 rfl ?_
    exact r_zret rfl dX4_names_16 (by have h1 := (Option.some.inj hf); subst h1; exact hr.symm)
  · refine r_aload_n 0 dX4_names_7 rfl rfl ?_
    refine r_iload_n 2 dX4_names_8 rfl rfl ?_
    refine r_chk hf (fun a3 xa3 ta3 hf => ?_)
    refine bnd hf (fun v4 ev4 hf => ?_)
    refine r_callVr (ci := 4) xa3 dX4_names_9 cs_RX4_51 ww_787 ww_27 (by decide) ta3 (by decide) rfl (rest := []) rfl (Or.inl (Nat.le_of_ble_eq_true rfl)) (t_Pa_isFor ev4) ?_
    refine r_ifneZ 17 hf dX4_names_12 (by decide) (fun c5 hf => ?_) (fun c5 hf => ?_)
    · refine r_aload_n 0 dX4_names_17 rfl rfl ?_
      refine r_ldI hf dX4_names_18 fl_RX4_22 rfl (fun v6 ev6 hf => ?_)
      refine r_iconst (2 : Int32) dX4_names_21 (by decide) ?_
      refine r_icmp_ne 49 hf dX4_names_22 (by decide) (fun c7 hf => ?_) (fun c7 hf => ?_)
      · refine r_aload_n 0 dX4_names_49 rfl rfl ?_
        refine r_ldI hf dX4_names_50 fl_RX4_22 rfl (fun v8 ev8 hf => ?_)
        refine r_iconst (1 : Int32) dX4_names_53 (by decide) ?_
        refine r_icmp_ne 89 hf dX4_names_54 (by decide) (fun c9 hf => ?_) (fun c9 hf => ?_)
        · refine r_iconst (b2i false) dX4_names_89 rfl ?_
          exact r_zret rfl dX4_names_90 (by have h1 := (Option.some.inj hf); subst h1; exact hr.symm)
        · refine r_iconst (0 : Int32) dX4_names_57 (by decide) ?_
          refine r_istore (L' := [(4, _), (0, _), (1, _), (3, _)]) dX4_names_58 (show 4 < 5 by decide) rfl ?_
          refine bnd hf (fun t15 et15 hf => ?_)
          refine r_sub (L' := [(0, _), (1, _), (4, _)]) [1, 2, 0] rfl ?_
          refine x_Pa_names_l60 ?_ ?_ _ et15
          · intro z16 hz16
            subst hz16
            simp only [se] at hf
            refine r_iconst (b2i true) dX4_names_81 rfl ?_
            exact r_zret rfl dX4_names_82 (by have h1 := (Option.some.inj hf); subst h1; exact hr.symm)
          · intro z17 hz17
            subst hz17
            simp only [se] at hf
            refine r_iconst (b2i false) dX4_names_89 rfl ?_
            exact r_zret rfl dX4_names_90 (by have h1 := (Option.some.inj hf); subst h1; exact hr.symm)
      · refine r_lload_n 1 dX4_names_25 rfl rfl ?_
        refine r_aload_n 0 dX4_names_26 rfl rfl ?_
        refine r_ldL hf dX4_names_27 fl_RX4_63 rfl (fun v18 ev18 hf => ?_)
        refine r_lcmp_lt 47 hf dX4_names_30 dX4_names_31 (by decide) (fun c19 hf => ?_) (fun c19 hf => ?_)
        · refine r_iconst (b2i false) dX4_names_47 rfl ?_
          exact r_zret rfl dX4_names_48 (by have h1 := (Option.some.inj hf); subst h1; exact hr.symm)
        · refine r_lload_n 1 dX4_names_34 rfl rfl ?_
          refine r_aload_n 0 dX4_names_35 rfl rfl ?_
          refine r_ldL hf dX4_names_36 fl_RX4_67 rfl (fun v20 ev20 hf => ?_)
          refine r_lcmp_gt 47 hf dX4_names_39 dX4_names_40 (by decide) (fun c21 hf => ?_) (fun c21 hf => ?_)
          · refine r_iconst (b2i false) dX4_names_47 rfl ?_
            exact r_zret rfl dX4_names_48 (by have h1 := (Option.some.inj hf); subst h1; exact hr.symm)
          · refine r_iconst (b2i true) dX4_names_43 rfl ?_
            refine r_goto 48 dX4_names_44 (by decide) ?_
            exact r_zret rfl dX4_names_48 (by have h1 := (Option.some.inj hf); subst h1; exact hr.symm)
    · refine r_iconst (b2i false) dX4_names_15 rfl ?_
      exact r_zret rfl dX4_names_16 (by have h1 := (Option.some.inj hf); subst h1; exact hr.symm)
/-! SearchEngine$Query.weigh -/
noncomputable def Qu_weigh_l2 (σ : Mem) (th : Nat) (x1 : Option Nat) (x2 : Int32) : Option ((Int32 × Mem) ⊕ Mem) :=
  (ldI σ 5 1 (some th)).bind fun v1 =>
  if v1 ≤ x2 then
    some (Sum.inr σ)
  else
    (ldR σ 5 0 (some th)).bind fun v3 =>
    (raR σ 7 v3 x2).bind fun v4 =>
    (chk σ 4 v4).bind fun a5 =>
    (Pa_weigh σ a5 x1).bind fun v6 =>
    some (Sum.inl ((x2 + (1 : Int32)), v6))
noncomputable def Qu_weigh (σ : Mem) (th : Nat) (x1 : Option Nat) : Option Mem :=
  (lp (fun q => Qu_weigh_l2 q.2 th x1 q.1) ((0 : Int32), σ)).bind fun z8 =>
  some z8
set_option maxRecDepth 100000 in
set_option maxHeartbeats 4000000 in
theorem x_Qu_weigh_l2 {Γ : W0} {σ0 : Mem} {r : RT} {th : Nat} {x1 : Option Nat} {t : Mem} (hk0 : ∀ z : Mem, z = t → V Γ MD_Qu_weigh σ0 r z 26 [] []) : ∀ q : Int32 × Mem, lp (fun q => Qu_weigh_l2 q.2 th x1 q.1) q = some t → V Γ MD_Qu_weigh σ0 r q.2 2 [(0, va_rf (some th)), (1, va_rf x1), (2, .int q.1)] [] := by
  refine lp_ind (fun (q : Int32 × Mem) => V Γ MD_Qu_weigh σ0 r q.2 2 [(0, va_rf (some th)), (1, va_rf x1), (2, .int q.1)] []) (fun q x hf ih ho => ?_)
  obtain ⟨x2, σ⟩ := q
  show V Γ MD_Qu_weigh σ0 r σ 2 [(0, va_rf (some th)), (1, va_rf x1), (2, .int x2)] []
  replace hf : Qu_weigh_l2 σ th x1 x2 = some x := hf
  unfold Qu_weigh_l2 at hf
  refine r_iload_n 2 dX5_weigh_2 rfl rfl ?_
  refine r_aload_n 0 dX5_weigh_3 rfl rfl ?_
  refine r_ldI hf dX5_weigh_4 fl_RX5_18 rfl (fun v1 ev1 hf => ?_)
  refine r_icmp_ge 26 hf dX5_weigh_7 (by decide) (fun c2 hf => ?_) (fun c2 hf => ?_)
  · refine r_sub (L' := []) [] rfl ?_
    exact hk0 _ (ho _ (Option.some.inj hf).symm)
  · refine r_aload_n 0 dX5_weigh_10 rfl rfl ?_
    refine r_ldR hf dX5_weigh_11 fl_RX5_11 rfl (fun v3 ev3 hf => ?_)
    refine r_iload_n 2 dX5_weigh_14 rfl rfl ?_
    refine r_raR hf dX5_weigh_15 (by decide) (by decide) (fun v4 ev4 hf => ?_)
    refine r_aload_n 1 dX5_weigh_16 rfl rfl ?_
    refine r_chk hf (fun a5 xa5 ta5 hf => ?_)
    refine bnd hf (fun v6 ev6 hf => ?_)
    refine r_callVv (ci := 4) xa5 dX5_weigh_17 cs_RX5_25 ww_782 ww_783 (by decide) ta5 (by decide) rfl (rest := []) rfl (Or.inl (Nat.le_of_ble_eq_true rfl)) (t_Pa_weigh ev6) ?_
    refine r_iinc (1 : Int32) (L' := [(2, .int (x2 + (1 : Int32))), (0, va_rf (some th)), (1, va_rf x1)]) 2 dX5_weigh_20 rfl (by decide) (show 2 < 3 by decide) (by simp [List.filter, cat_rf, cat_i, cat_l]) ?_
    refine r_goto 2 dX5_weigh_23 (by decide) ?_
    refine r_sub (L' := [(0, _), (1, _), (2, _)]) [1, 2, 0] rfl ?_
    exact ih _ (Option.some.inj hf).symm
set_option maxRecDepth 100000 in
set_option maxHeartbeats 4000000 in
theorem t_Qu_weigh {Γ : W0} {σ : Mem} {th : Nat} {x1 : Option Nat} {σ' : Mem} (hf : Qu_weigh σ th x1 = some σ') : CT Γ MD_Qu_weigh yX5_weigh [va_rf (some th), va_rf x1] σ (none, σ') := by
  refine CT.of (L := [(0, va_rf (some th)), (1, va_rf x1)]) rfl (by decide) (fun h => Bool.noConfusion (show false = true from h)) (by cases x1 <;> exact Nat.le_of_ble_eq_true rfl) (by cases x1 <;> rfl) ?_
  unfold Qu_weigh at hf
  generalize hr : mkR Γ σ (none) σ' = r
  refine r_iconst (0 : Int32) dX5_weigh_0 (by decide) ?_
  refine r_istore_n (i := 2) (L' := [(2, .int (0 : Int32)), (0, va_rf (some th)), (1, va_rf x1)]) dX5_weigh_1 rfl (show 2 < 3 by decide) (by simp [List.filter, cat_rf, cat_i, cat_l]) ?_
  refine bnd hf (fun t7 et7 hf => ?_)
  refine r_sub (L' := [(0, _), (1, _), (2, _)]) [1, 2, 0] rfl ?_
  refine x_Qu_weigh_l2 ?_ _ et7
  · intro z8 hz8
    subst hz8
    exact r_vret rfl dX5_weigh_26 (by have h1 := (Option.some.inj hf); subst h1; exact hr.symm)
/-! SearchEngine$Query.scoreOfPart -/
noncomputable def Qu_scoreOfPart (rec : Mem → Nat → Int32 → Int32 → Option Nat → Int32 → Option Int32) (σ : Mem) (th : Nat) (x1 : Int32) (x2 : Option Nat) (x3 : Int32) : Option Int32 :=
  if x1 < 0 then
    some (-1 : Int32)
  else
    (ldI σ 5 1 (some th)).bind fun v2 =>
    if x1 < v2 then
      (ldR σ 5 0 (some th)).bind fun v4 =>
      (raR σ 7 v4 x1).bind fun v5 =>
      (ldI σ 4 0 v5).bind fun v6 =>
      Option.bind (
        if ¬ v6 = 0 then
          (chk σ 4 v5).bind fun a9 =>
          (Pa_scoreOf σ a9 x2).bind fun v10 =>
          some v10
        else
          (ldI σ 4 6 v5).bind fun v11 =>
          (chk σ 5 (some th)).bind fun a12 =>
          (rec σ a12 (x1 + (1 : Int32)) v11 x2 (x3 + (1 : Int32))).bind fun v13 =>
          some v13) fun q7 =>
      (ldB σ 4 2 v5).bind fun v14 =>
      Option.bind (
        if v14 = true then
          Option.bind (
            if ¬ q7 = (-1 : Int32) then
              some (-1 : Int32)
            else
              some (0 : Int32)) fun q17 =>
          some q17
        else
          some q7) fun q15 =>
      if ¬ q15 = (-1 : Int32) then
        (ldI σ 4 5 v5).bind fun v20 =>
        (E_capped (q15.toInt64 * v20.toInt64)).bind fun v21 =>
        some v21
      else
        some (-1 : Int32)
    else
      some (-1 : Int32)
set_option maxRecDepth 100000 in
set_option maxHeartbeats 4000000 in
theorem t_Qu_scoreOfPart {Γ : W0} {σ : Mem} {th : Nat} {x1 : Int32} {x2 : Option Nat} {x3 : Int32} {v : Int32} {d : Nat} {rec : Mem → Nat → Int32 → Int32 → Option Nat → Int32 → Option Int32} (hrec : ∀ {Γ : W0} {σ : Mem} {th : Nat} {y1 : Int32} {y2 : Int32} {y3 : Option Nat} {y4 : Int32} {v : Int32}, rec σ th y1 y2 y3 y4 = some v → CT Γ (MD_Qu_scoreOfAny d) yX5_scoreOfAny [va_rf (some th), .int y1, .int y2, va_rf y3, .int y4] σ (some (.int v), σ)) (hf : Qu_scoreOfPart rec σ th x1 x2 x3 = some v) : CT Γ (MD_Qu_scoreOfPart d) yX5_scoreOfPart [va_rf (some th), .int x1, va_rf x2, .int x3] σ (some (.int v), σ) := by
  refine CT.of (L := [(0, va_rf (some th)), (1, .int x1), (2, va_rf x2), (3, .int x3)]) rfl (by decide) (fun h => Bool.noConfusion (show false = true from h)) (by cases x2 <;> exact Nat.le_of_ble_eq_true rfl) (by cases x2 <;> rfl) ?_
  unfold Qu_scoreOfPart at hf
  generalize hr : mkR Γ σ (some (.int v)) σ = r
  refine r_iload_n 1 dX5_scoreOfPart_0 rfl rfl ?_
  refine r_if_lt 12 hf dX5_scoreOfPart_1 (by decide) (fun c1 hf => ?_) (fun c1 hf => ?_)
  · refine r_iconst (-1 : Int32) dX5_scoreOfPart_12 (by decide) ?_
    exact r_iret rfl dX5_scoreOfPart_13 (by have h1 := (Option.some.inj hf); subst h1; exact hr.symm)
  · refine r_iload_n 1 dX5_scoreOfPart_4 rfl rfl ?_
    refine r_aload_n 0 dX5_scoreOfPart_5 rfl rfl ?_
    refine r_ldI hf dX5_scoreOfPart_6 fl_RX5_18 rfl (fun v2 ev2 hf => ?_)
    refine r_icmp_lt 14 hf dX5_scoreOfPart_9 (by decide) (fun c3 hf => ?_) (fun c3 hf => ?_)
    · refine r_aload_n 0 dX5_scoreOfPart_14 rfl rfl ?_
      refine r_ldR hf dX5_scoreOfPart_15 fl_RX5_11 rfl (fun v4 ev4 hf => ?_)
      refine r_iload_n 1 dX5_scoreOfPart_18 rfl rfl ?_
      refine r_raR hf dX5_scoreOfPart_19 (by decide) (by decide) (fun v5 ev5 hf => ?_)
      refine r_astore (L' := [(4, _), (0, _), (1, _), (2, _), (3, _)]) dX5_scoreOfPart_20 (show 4 < 6 by decide) rfl ?_
      refine r_aload 0 dX5_scoreOfPart_22 rfl ?_
      refine r_ldI hf dX5_scoreOfPart_24 fl_RX5_52 rfl (fun v6 ev6 hf => ?_)
      refine r_bd (fun (q7 : Int32) => V Γ (MD_Qu_scoreOfPart d) σ r σ 55 [(4, va_rf v5)] [.int q7]) hf (fun q7 hf => ?_) (fun yq7 hf kq7 => ?_)
      · refine r_istore (i := 5) (L' := [(5, .int q7), (4, va_rf v5)]) dX5_scoreOfPart_55 (show 5 < 6 by decide) (by simp [List.filter, cat_rf, cat_i, cat_l]) ?_
        refine r_aload 1 dX5_scoreOfPart_57 rfl ?_
        refine r_ldB hf dX5_scoreOfPart_59 fl_RX5_63 rfl (fun v14 ev14 hf => ?_)
        refine r_bd (fun (q15 : Int32) => V Γ (MD_Qu_scoreOfPart d) σ r σ 78 [(4, va_rf v5), (5, .int q15)] []) hf (fun q15 hf => ?_) (fun yq15 hf kq15 => ?_)
        · refine r_iload 1 dX5_scoreOfPart_78 rfl ?_
          refine r_iconst (-1 : Int32) dX5_scoreOfPart_80 (by decide) ?_
          refine r_icmp_ne 88 hf dX5_scoreOfPart_81 (by decide) (fun c19 hf => ?_) (fun c19 hf => ?_)
          · refine r_iload 1 dX5_scoreOfPart_88 rfl ?_
            refine r_i2l dX5_scoreOfPart_90 ?_
            refine r_aload 0 dX5_scoreOfPart_91 rfl ?_
            refine r_ldI hf dX5_scoreOfPart_93 fl_RX5_66 rfl (fun v20 ev20 hf => ?_)
            refine r_i2l dX5_scoreOfPart_96 ?_
            refine r_lmul dX5_scoreOfPart_97 ?_
            refine bnd hf (fun v21 ev21 hf => ?_)
            refine r_callNr dX5_scoreOfPart_98 (show (RX5, 69, yX11_capped) ∈ nwM by decide +kernel) cs_RX5_69 ww_876 ⟨(show 2 + 1 ≤ 10 + 2 * (d) by omega), (show 8 + (2 + 11) + (30) ≤ 267 + 80 * (d) by omega)⟩ rfl (rest := []) rfl (Or.inl (Nat.le_of_ble_eq_true rfl)) (t_E_capped ev21) ?_
            exact r_iret rfl dX5_scoreOfPart_101 (by have h1 := (Option.some.inj hf); subst h1; exact hr.symm)
          · refine r_iconst (-1 : Int32) dX5_scoreOfPart_84 (by decide) ?_
            refine r_goto 101 dX5_scoreOfPart_85 (by decide) ?_
            exact r_iret rfl dX5_scoreOfPart_101 (by have h1 := (Option.some.inj hf); subst h1; exact hr.symm)
        · refine r_ifeqZ 78 hf dX5_scoreOfPart_62 (by decide) (fun c16 hf => ?_) (fun c16 hf => ?_)
          · refine r_iload 0 dX5_scoreOfPart_65 rfl ?_
            refine r_iconst (-1 : Int32) dX5_scoreOfPart_67 (by decide) ?_
            refine r_bd (fun (q17 : Int32) => V Γ (MD_Qu_scoreOfPart d) σ r σ 76 [(4, va_rf v5)] [.int q17]) hf (fun q17 hf => ?_) (fun yq17 hf kq17 => ?_)
            · refine r_istore (i := 5) (L' := [(5, .int q17), (4, va_rf v5)]) dX5_scoreOfPart_76 (show 5 < 6 by decide) (by simp [List.filter, cat_rf, cat_i, cat_l]) ?_
              refine r_sub (L' := [(4, _), (5, _)]) [1, 0] rfl ?_
              cases (Option.some.inj hf)
              exact kq15
            · refine r_icmp_ne 75 hf dX5_scoreOfPart_68 (by decide) (fun c18 hf => ?_) (fun c18 hf => ?_)
              · refine r_iconst (-1 : Int32) dX5_scoreOfPart_75 (by decide) ?_
                refine r_sub (L' := [(4, _)]) [1] rfl ?_
                cases (Option.some.inj hf)
                exact kq17
              · refine r_iconst (0 : Int32) dX5_scoreOfPart_71 (by decide) ?_
                refine r_goto 76 dX5_scoreOfPart_72 (by decide) ?_
                refine r_sub (L' := [(4, _)]) [1] rfl ?_
                cases (Option.some.inj hf)
                exact kq17
          · refine r_sub (L' := [(4, _), (5, _)]) [1, 0] rfl ?_
            cases (Option.some.inj hf)
            exact kq15
      · refine r_if_ne 49 hf dX5_scoreOfPart_27 (by decide) (fun c8 hf => ?_) (fun c8 hf => ?_)
        · refine r_aload 0 dX5_scoreOfPart_49 rfl ?_
          refine r_aload_n 3 dX5_scoreOfPart_51 rfl rfl ?_
          refine r_chk hf (fun a9 xa9 ta9 hf => ?_)
          refine bnd hf (fun v10 ev10 hf => ?_)
          refine r_callVr (ci := 4) xa9 dX5_scoreOfPart_52 cs_RX5_59 ww_833 ww_834 (by decide) ta9 ⟨(show 5 + 1 ≤ 10 + 2 * (d) by omega), (show 8 + (4 + 11) + (119) ≤ 267 + 80 * (d) by omega)⟩ rfl (rest := []) rfl (Or.inl (Nat.le_of_ble_eq_true rfl)) (t_Pa_scoreOf ev10) ?_
          refine r_sub (L' := [(4, _)]) [0] rfl ?_
          cases (Option.some.inj hf)
          exact kq7
        · refine r_aload_n 1 dX5_scoreOfPart_30 rfl rfl ?_
          refine r_iload_n 2 dX5_scoreOfPart_31 rfl rfl ?_
          refine r_iconst (1 : Int32) dX5_scoreOfPart_32 (by decide) ?_
          refine r_iadd dX5_scoreOfPart_33 ?_
          refine r_aload 0 dX5_scoreOfPart_34 rfl ?_
          refine r_ldI hf dX5_scoreOfPart_36 fl_RX5_49 rfl (fun v11 ev11 hf => ?_)
          refine r_aload_n 3 dX5_scoreOfPart_39 rfl rfl ?_
          refine r_iload_n 4 dX5_scoreOfPart_40 rfl rfl ?_
          refine r_iconst (1 : Int32) dX5_scoreOfPart_41 (by decide) ?_
          refine r_iadd dX5_scoreOfPart_42 ?_
          refine r_chk hf (fun a12 xa12 ta12 hf => ?_)
          refine bnd hf (fun v13 ev13 hf => ?_)
          refine r_callVr (ci := 5) xa12 dX5_scoreOfPart_43 (cs_RX5_55 _) ww_824 ww_29 (by decide) ta12 ⟨(show 9 + 2 * (d) + 1 ≤ 10 + 2 * (d) by omega), (show 8 + (10 + 11) + (227 + 80 * (d)) ≤ 267 + 80 * (d) by omega)⟩ rfl (rest := []) rfl (Or.inl (Nat.le_of_ble_eq_true rfl)) (hrec ev13) ?_
          refine r_goto 55 dX5_scoreOfPart_46 (by decide) ?_
          refine r_sub (L' := [(4, _)]) [0] rfl ?_
          cases (Option.some.inj hf)
          exact kq7
    · refine r_iconst (-1 : Int32) dX5_scoreOfPart_12 (by decide) ?_
      exact r_iret rfl dX5_scoreOfPart_13 (by have h1 := (Option.some.inj hf); subst h1; exact hr.symm)
/-! SearchEngine.bothScore -/
noncomputable def E_bothScore (x0 : Int32) (x1 : Int32) : Option Int32 :=
  if x0 = (-1 : Int32) then
    some (-1 : Int32)
  else
    if ¬ x1 = (-1 : Int32) then
      (E_capped (x0.toInt64 + x1.toInt64)).bind fun v3 =>
      some v3
    else
      some (-1 : Int32)
set_option maxRecDepth 100000 in
set_option maxHeartbeats 4000000 in
theorem t_E_bothScore {Γ : W0} {σ : Mem} {x0 : Int32} {x1 : Int32} {v : Int32} (hf : E_bothScore x0 x1 = some v) : CT Γ MD_E_bothScore yX11_bothScore [.int x0, .int x1] σ (some (.int v), σ) := by
  refine CT.of (L := [(0, .int x0), (1, .int x1)]) rfl (by decide) (fun h => Bool.noConfusion (show false = true from h)) (Nat.le_of_ble_eq_true rfl) rfl ?_
  unfold E_bothScore at hf
  generalize hr : mkR Γ σ (some (.int v)) σ = r
  refine r_iload_n 0 dX11_bothScore_0 rfl rfl ?_
  refine r_iconst (-1 : Int32) dX11_bothScore_1 (by decide) ?_
  refine r_icmp_eq 10 hf dX11_bothScore_2 (by decide) (fun c1 hf => ?_) (fun c1 hf => ?_)
  · refine r_iconst (-1 : Int32) dX11_bothScore_10 (by decide) ?_
    exact r_iret rfl dX11_bothScore_11 (by have h1 := (Option.some.inj hf); subst h1; exact hr.symm)
  · refine r_iload_n 1 dX11_bothScore_5 rfl rfl ?_
    refine r_iconst (-1 : Int32) dX11_bothScore_6 (by decide) ?_
    refine r_icmp_ne 12 hf dX11_bothScore_7 (by decide) (fun c2 hf => ?_) (fun c2 hf => ?_)
    · refine r_iload_n 0 dX11_bothScore_12 rfl rfl ?_
      refine r_i2l dX11_bothScore_13 ?_
      refine r_iload_n 1 dX11_bothScore_14 rfl rfl ?_
      refine r_i2l dX11_bothScore_15 ?_
      refine r_ladd dX11_bothScore_16 ?_
      refine bnd hf (fun v3 ev3 hf => ?_)
      refine r_callSr dX11_bothScore_17 cs_RX11_313 ww_876 (by decide) rfl (rest := []) rfl (Or.inl (Nat.le_of_ble_eq_true rfl)) (t_E_capped ev3) ?_
      exact r_iret rfl dX11_bothScore_20 (by have h1 := (Option.some.inj hf); subst h1; exact hr.symm)
    · refine r_iconst (-1 : Int32) dX11_bothScore_10 (by decide) ?_
      exact r_iret rfl dX11_bothScore_11 (by have h1 := (Option.some.inj hf); subst h1; exact hr.symm)
