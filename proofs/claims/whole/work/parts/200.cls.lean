/-! methods as functions, with their walks (by program) -/
/-! SearchEngine$Part.<init> -/
noncomputable def Pa_init (σ : Mem) (th : Nat) : Option Mem :=
  (nwA σ 1 (8 : Int32)).bind fun m1 =>
  (stR m1 4 7 (some th) (some (gN σ))).bind fun m2 =>
  (nwA m2 0 (8 : Int32)).bind fun m3 =>
  (stR m3 4 8 (some th) (some (gN m2))).bind fun m4 =>
  (nwA m4 0 (2 : Int32)).bind fun m5 =>
  (stR m5 4 14 (some th) (some (gN m4))).bind fun m6 =>
  some m6
set_option maxRecDepth 100000 in
set_option maxHeartbeats 4000000 in
theorem t_Pa_init {Γ : W0} {σ : Mem} {th : Nat} {σ' : Mem} (hf : Pa_init σ th = some σ') : CT Γ MD_Pa_init yX4_init [va_rf (some th)] σ (none, σ') := by
  refine CT.of (L := [(0, va_rf (some th))]) rfl (by decide) (fun _ => rfl) (Nat.le_of_ble_eq_true rfl) rfl ?_
  unfold Pa_init at hf
  generalize hr : mkR Γ σ (none) σ' = r
  refine r_aload_n 0 dX4_init_0 rfl rfl ?_
  refine r_objInit dX4_init_1 ww_250 ww_115 ww_116 (by decide) (Nat.le_of_ble_eq_true rfl) ?_
  refine r_aload_n 0 dX4_init_4 rfl rfl ?_
  refine r_bipush (8 : Int32) dX4_init_5 (by decide) ?_
  refine r_newL hf dX4_init_7 ww_189 (fun m1 em1 hf => ?_)
  refine r_stRF hf dX4_init_9 fl_RX4_9 rfl rfl rfl rfl (fun m2 em2 hf => ?_)
  refine r_aload_n 0 dX4_init_12 rfl rfl ?_
  refine r_bipush (8 : Int32) dX4_init_13 (by decide) ?_
  refine r_newI hf dX4_init_15 ww_313 (fun m3 em3 hf => ?_)
  refine r_stRF hf dX4_init_17 fl_RX4_15 rfl rfl rfl rfl (fun m4 em4 hf => ?_)
  refine r_aload_n 0 dX4_init_20 rfl rfl ?_
  refine r_iconst (2 : Int32) dX4_init_21 (by decide) ?_
  refine r_newI hf dX4_init_22 ww_313 (fun m5 em5 hf => ?_)
  refine r_stRF hf dX4_init_24 fl_RX4_19 rfl rfl rfl rfl (fun m6 em6 hf => ?_)
  exact r_vret rfl dX4_init_27 (by have h1 := (Option.some.inj hf); subst h1; exact hr.symm)
/-! SearchEngine$Query.<init> -/
noncomputable def Qu_init_l15 (σ : Mem) (th : Nat) (x1 : Int32) : Option ((Int32 × Mem) ⊕ Mem) :=
  if (40 : Int32) ≤ x1 then
    some (Sum.inr σ)
  else
    (ldR σ 5 0 (some th)).bind fun v4 =>
    (some (nwO σ 4)).bind fun m5 =>
    (Pa_init m5 (gN σ)).bind fun v6 =>
    (waR v6 7 4 v4 x1 (some (gN σ))).bind fun m7 =>
    some (Sum.inl ((x1 + (1 : Int32)), m7))
noncomputable def Qu_init (σ : Mem) (th : Nat) : Option Mem :=
  (nwA σ 7 (40 : Int32)).bind fun m1 =>
  (stR m1 5 0 (some th) (some (gN σ))).bind fun m2 =>
  (lp (fun q => Qu_init_l15 q.2 th q.1) ((0 : Int32), m2)).bind fun z9 =>
  some z9
set_option maxRecDepth 100000 in
set_option maxHeartbeats 4000000 in
theorem x_Qu_init_l15 {Γ : W0} {σ0 : Mem} {r : RT} {th : Nat} {t : Mem} (hk0 : ∀ z : Mem, z = t → V Γ MD_Qu_init σ0 r z 40 [] []) : ∀ q : Int32 × Mem, lp (fun q => Qu_init_l15 q.2 th q.1) q = some t → V Γ MD_Qu_init σ0 r q.2 15 [(0, va_rf (some th)), (1, .int q.1)] [] := by
  refine lp_ind (fun (q : Int32 × Mem) => V Γ MD_Qu_init σ0 r q.2 15 [(0, va_rf (some th)), (1, .int q.1)] []) (fun q x hf ih ho => ?_)
  obtain ⟨x1, σ⟩ := q
  show V Γ MD_Qu_init σ0 r σ 15 [(0, va_rf (some th)), (1, .int x1)] []
  replace hf : Qu_init_l15 σ th x1 = some x := hf
  unfold Qu_init_l15 at hf
  refine r_iload_n 1 dX5_init_15 rfl rfl ?_
  refine r_bipush (40 : Int32) dX5_init_16 (by decide) ?_
  refine r_icmp_ge 40 hf dX5_init_18 (by decide) (fun c3 hf => ?_) (fun c3 hf => ?_)
  · refine r_sub (L' := []) [] rfl ?_
    exact hk0 _ (ho _ (Option.some.inj hf).symm)
  · refine r_aload_n 0 dX5_init_21 rfl rfl ?_
    refine r_ldR hf dX5_init_22 fl_RX5_11 rfl (fun v4 ev4 hf => ?_)
    refine r_iload_n 1 dX5_init_25 rfl rfl ?_
    refine r_newX hf dX5_init_26 (by decide) ww_244 ww_246 ww_100 (fun m5 em5 hf => ?_)
    refine r_dup dX5_init_29 (cat_rf _) ?_
    refine bnd hf (fun v6 ev6 hf => ?_)
    refine r_callIv dX5_init_30 cs_RX5_17 rfl rfl ww_248 (by decide) rfl (rest := [_, _, _]) rfl (Or.inl (Nat.le_of_ble_eq_true rfl)) (t_Pa_init ev6) ?_
    refine r_waR hf dX5_init_33 (by decide) (by decide) (by decide) rfl (fun m7 em7 hf => ?_)
    refine r_iinc (1 : Int32) (L' := [(1, _), (0, _)]) 1 dX5_init_34 rfl (by decide) (show 1 < 2 by decide) rfl ?_
    refine r_goto 15 dX5_init_37 (by decide) ?_
    refine r_sub (L' := [(0, _), (1, _)]) [1, 0] rfl ?_
    exact ih _ (Option.some.inj hf).symm
set_option maxRecDepth 100000 in
set_option maxHeartbeats 4000000 in
theorem t_Qu_init {Γ : W0} {σ : Mem} {th : Nat} {σ' : Mem} (hf : Qu_init σ th = some σ') : CT Γ MD_Qu_init yX5_init [va_rf (some th)] σ (none, σ') := by
  refine CT.of (L := [(0, va_rf (some th))]) rfl (by decide) (fun _ => rfl) (Nat.le_of_ble_eq_true rfl) rfl ?_
  unfold Qu_init at hf
  generalize hr : mkR Γ σ (none) σ' = r
  refine r_aload_n 0 dX5_init_0 rfl rfl ?_
  refine r_objInit dX5_init_1 ww_243 ww_115 ww_116 (by decide) (Nat.le_of_ble_eq_true rfl) ?_
  refine r_aload_n 0 dX5_init_4 rfl rfl ?_
  refine r_bipush (40 : Int32) dX5_init_5 (by decide) ?_
  refine r_newR hf dX5_init_7 (by decide) (by decide) rfl ww_244 (fun m1 em1 hf => ?_)
  refine r_stRF hf dX5_init_10 fl_RX5_11 rfl rfl rfl rfl (fun m2 em2 hf => ?_)
  refine r_iconst (0 : Int32) dX5_init_13 (by decide) ?_
  refine r_istore_n (L' := [(1, _), (0, _)]) dX5_init_14 rfl (show 1 < 2 by decide) rfl ?_
  refine bnd hf (fun t8 et8 hf => ?_)
  refine r_sub (L' := [(0, _), (1, _)]) [1, 0] rfl ?_
  refine x_Qu_init_l15 ?_ _ et8
  · intro z9 hz9
    subst hz9
    exact r_vret rfl dX5_init_40 (by have h1 := (Option.some.inj hf); subst h1; exact hr.symm)
/-! SearchEngine$Answer.<init> -/
noncomputable def An_init (σ : Mem) (th : Nat) : Option Mem :=
  (some (nwO σ 5)).bind fun m1 =>
  (Qu_init m1 (gN σ)).bind fun v2 =>
  (stR v2 0 0 (some th) (some (gN σ))).bind fun m3 =>
  (stI m3 0 1 (some th) (-1 : Int32)).bind fun m4 =>
  (nwA m4 4 (400 : Int32)).bind fun m5 =>
  (stR m5 0 2 (some th) (some (gN m4))).bind fun m6 =>
  (nwA m6 0 (400 : Int32)).bind fun m7 =>
  (stR m7 0 3 (some th) (some (gN m6))).bind fun m8 =>
  some m8
set_option maxRecDepth 100000 in
set_option maxHeartbeats 4000000 in
theorem t_An_init {Γ : W0} {σ : Mem} {th : Nat} {σ' : Mem} (hf : An_init σ th = some σ') : CT Γ MD_An_init yX0_init [va_rf (some th)] σ (none, σ') := by
  refine CT.of (L := [(0, va_rf (some th))]) rfl (by decide) (fun _ => rfl) (Nat.le_of_ble_eq_true rfl) rfl ?_
  unfold An_init at hf
  generalize hr : mkR Γ σ (none) σ' = r
  refine r_aload_n 0 dX0_init_0 rfl rfl ?_
  refine r_objInit dX0_init_1 ww_237 ww_115 ww_116 (by decide) (Nat.le_of_ble_eq_true rfl) ?_
  refine r_aload_n 0 dX0_init_4 rfl rfl ?_
  refine r_newX hf dX0_init_5 (by decide) ww_238 ww_239 ww_99 (fun m1 em1 hf => ?_)
  refine r_dup dX0_init_8 (cat_rf _) ?_
  refine bnd hf (fun v2 ev2 hf => ?_)
  refine r_callIv dX0_init_9 cs_RX0_11 rfl rfl ww_241 (by decide) rfl (rest := [_, _]) rfl (Or.inl (Nat.le_of_ble_eq_true rfl)) (t_Qu_init ev2) ?_
  refine r_stR hf dX0_init_12 fl_RX0_12 rfl rfl (fun m3 em3 hf => ?_)
  refine r_aload_n 0 dX0_init_15 rfl rfl ?_
  refine r_iconst (-1 : Int32) dX0_init_16 (by decide) ?_
  refine r_stI hf dX0_init_17 fl_RX0_18 rfl rfl rfl (fun m4 em4 hf => ?_)
  refine r_aload_n 0 dX0_init_20 rfl rfl ?_
  refine r_sipush (400 : Int32) dX0_init_21 (by decide) ?_
  refine r_newR hf dX0_init_24 (by decide) (by decide) rfl ww_323 (fun m5 em5 hf => ?_)
  refine r_stRF hf dX0_init_27 fl_RX0_24 rfl rfl rfl rfl (fun m6 em6 hf => ?_)
  refine r_aload_n 0 dX0_init_30 rfl rfl ?_
  refine r_sipush (400 : Int32) dX0_init_31 (by decide) ?_
  refine r_newI hf dX0_init_34 ww_313 (fun m7 em7 hf => ?_)
  refine r_stRF hf dX0_init_36 fl_RX0_28 rfl rfl rfl rfl (fun m8 em8 hf => ?_)
  exact r_vret rfl dX0_init_39 (by have h1 := (Option.some.inj hf); subst h1; exact hr.symm)
/-! SearchEngine$Answer.begin -/
noncomputable def An_begin (σ : Mem) (th : Nat) (x1 : Int32) (x2 : Option Nat) : Option Mem :=
  (stI σ 0 1 (some th) x1).bind fun m1 =>
  (stR m1 0 0 (some th) x2).bind fun m2 =>
  (stI m2 0 4 (some th) (0 : Int32)).bind fun m3 =>
  some m3
set_option maxRecDepth 100000 in
set_option maxHeartbeats 4000000 in
theorem t_An_begin {Γ : W0} {σ : Mem} {th : Nat} {x1 : Int32} {x2 : Option Nat} {σ' : Mem} (hf : An_begin σ th x1 x2 = some σ') : CT Γ MD_An_begin yX0_begin [va_rf (some th), .int x1, va_rf x2] σ (none, σ') := by
  refine CT.of (L := [(0, va_rf (some th)), (1, .int x1), (2, va_rf x2)]) rfl (by decide) (fun h => Bool.noConfusion (show false = true from h)) (by cases x2 <;> exact Nat.le_of_ble_eq_true rfl) (by cases x2 <;> rfl) ?_
  unfold An_begin at hf
  generalize hr : mkR Γ σ (none) σ' = r
  refine r_aload_n 0 dX0_begin_0 rfl rfl ?_
  refine r_iload_n 1 dX0_begin_1 rfl rfl ?_
  refine r_stI hf dX0_begin_2 fl_RX0_18 rfl rfl rfl (fun m1 em1 hf => ?_)
  refine r_aload_n 0 dX0_begin_5 rfl rfl ?_
  refine r_aload_n 2 dX0_begin_6 rfl rfl ?_
  refine r_stR hf dX0_begin_7 fl_RX0_12 rfl rfl (fun m2 em2 hf => ?_)
  refine r_aload_n 0 dX0_begin_10 rfl rfl ?_
  refine r_iconst (0 : Int32) dX0_begin_11 (by decide) ?_
  refine r_stI hf dX0_begin_12 fl_RX0_32 rfl rfl rfl (fun m3 em3 hf => ?_)
  exact r_vret rfl dX0_begin_15 (by have h1 := (Option.some.inj hf); subst h1; exact hr.symm)
/-! SearchEngine$Answer.take -/
noncomputable def An_take (σ : Mem) (th : Nat) (x1 : Option Nat) (x2 : Int32) : Option Mem :=
  if x2 = (-1 : Int32) then
    some σ
  else
    (ldI σ 0 4 (some th)).bind fun v2 =>
    if (400 : Int32) ≤ v2 then
      some σ
    else
      (ldR σ 0 2 (some th)).bind fun v4 =>
      (ldI σ 0 4 (some th)).bind fun v5 =>
      (waR σ 4 1 v4 v5 x1).bind fun m6 =>
      (ldR m6 0 3 (some th)).bind fun v7 =>
      (ldI m6 0 4 (some th)).bind fun v8 =>
      (waI m6 0 v7 v8 x2).bind fun m9 =>
      (ldI m9 0 4 (some th)).bind fun v10 =>
      (stI m9 0 4 (some th) (v10 + (1 : Int32))).bind fun m11 =>
      some m11
set_option maxRecDepth 100000 in
set_option maxHeartbeats 4000000 in
theorem t_An_take {Γ : W0} {σ : Mem} {th : Nat} {x1 : Option Nat} {x2 : Int32} {σ' : Mem} (hf : An_take σ th x1 x2 = some σ') : CT Γ MD_An_take yX0_take [va_rf (some th), va_rf x1, .int x2] σ (none, σ') := by
  refine CT.of (L := [(0, va_rf (some th)), (1, va_rf x1), (2, .int x2)]) rfl (by decide) (fun h => Bool.noConfusion (show false = true from h)) (by cases x1 <;> exact Nat.le_of_ble_eq_true rfl) (by cases x1 <;> rfl) ?_
  unfold An_take at hf
  generalize hr : mkR Γ σ (none) σ' = r
  refine r_iload_n 2 dX0_take_0 rfl rfl ?_
  refine r_iconst (-1 : Int32) dX0_take_1 (by decide) ?_
  refine r_icmp_eq 45 hf dX0_take_2 (by decide) (fun c1 hf => ?_) (fun c1 hf => ?_)
  · exact r_vret rfl dX0_take_45 (by have h1 := (Option.some.inj hf); subst h1; exact hr.symm)
  · refine r_aload_n 0 dX0_take_5 rfl rfl ?_
    refine r_ldI hf dX0_take_6 fl_RX0_32 rfl (fun v2 ev2 hf => ?_)
    refine r_sipush (400 : Int32) dX0_take_9 (by decide) ?_
    refine r_icmp_ge 45 hf dX0_take_12 (by decide) (fun c3 hf => ?_) (fun c3 hf => ?_)
    · exact r_vret rfl dX0_take_45 (by have h1 := (Option.some.inj hf); subst h1; exact hr.symm)
    · refine r_aload_n 0 dX0_take_15 rfl rfl ?_
      refine r_ldR hf dX0_take_16 fl_RX0_24 rfl (fun v4 ev4 hf => ?_)
      refine r_aload_n 0 dX0_take_19 rfl rfl ?_
      refine r_ldI hf dX0_take_20 fl_RX0_32 rfl (fun v5 ev5 hf => ?_)
      refine r_aload_n 1 dX0_take_23 rfl rfl ?_
      refine r_waR hf dX0_take_24 (by decide) (by decide) (by decide) rfl (fun m6 em6 hf => ?_)
      refine r_aload_n 0 dX0_take_25 rfl rfl ?_
      refine r_ldR hf dX0_take_26 fl_RX0_28 rfl (fun v7 ev7 hf => ?_)
      refine r_aload_n 0 dX0_take_29 rfl rfl ?_
      refine r_ldI hf dX0_take_30 fl_RX0_32 rfl (fun v8 ev8 hf => ?_)
      refine r_iload_n 2 dX0_take_33 rfl rfl ?_
      refine r_waI hf dX0_take_34 (fun m9 em9 hf => ?_)
      refine r_aload_n 0 dX0_take_35 rfl rfl ?_
      refine r_dup dX0_take_36 (cat_rf _) ?_
      refine r_ldI hf dX0_take_37 fl_RX0_32 rfl (fun v10 ev10 hf => ?_)
      refine r_iconst (1 : Int32) dX0_take_40 (by decide) ?_
      refine r_iadd dX0_take_41 ?_
      refine r_stI hf dX0_take_42 fl_RX0_32 rfl rfl rfl (fun m11 em11 hf => ?_)
      exact r_vret rfl dX0_take_45 (by have h1 := (Option.some.inj hf); subst h1; exact hr.symm)
/-! SearchEngine$Answer.isBefore -/
noncomputable def An_isBefore (σ : Mem) (th : Nat) (x1 : Option Nat) (x2 : Int32) (x3 : Int32) : Option Bool :=
  (ldR σ 0 3 (some th)).bind fun v1 =>
  (raI σ 0 v1 x3).bind fun v2 =>
  if x2 = v2 then
    (ldR σ 0 2 (some th)).bind fun v4 =>
    (raR σ 4 v4 x3).bind fun v5 =>
    if x1 = none then
      some false
    else
      if v5 = none then
        some false
      else
        (ldL σ 1 0 x1).bind fun v8 =>
        (ldL σ 1 0 v5).bind fun v9 =>
        if v8 = v9 then
          (ldI σ 1 3 x1).bind fun v11 =>
          (ldI σ 1 3 v5).bind fun v12 =>
          if v12 ≤ v11 then
            some false
          else
            some true
        else
          (ldL σ 1 0 x1).bind fun v14 =>
          (ldL σ 1 0 v5).bind fun v15 =>
          if v15 ≤ v14 then
            some false
          else
            some true
  else
    (ldR σ 0 3 (some th)).bind fun v17 =>
    (raI σ 0 v17 x3).bind fun v18 =>
    if x2 ≤ v18 then
      some false
    else
      some true
set_option maxRecDepth 100000 in
set_option maxHeartbeats 4000000 in
theorem t_An_isBefore {Γ : W0} {σ : Mem} {th : Nat} {x1 : Option Nat} {x2 : Int32} {x3 : Int32} {v : Bool} (hf : An_isBefore σ th x1 x2 x3 = some v) : CT Γ MD_An_isBefore yX0_isBefore [va_rf (some th), va_rf x1, .int x2, .int x3] σ (some (.int (b2i v)), σ) := by
  refine CT.of (L := [(0, va_rf (some th)), (1, va_rf x1), (2, .int x2), (3, .int x3)]) rfl (by decide) (fun h => Bool.noConfusion (show false = true from h)) (by cases x1 <;> exact Nat.le_of_ble_eq_true rfl) (by cases x1 <;> rfl) ?_
  unfold An_isBefore at hf
  generalize hr : mkR Γ σ (some (.int (b2i v))) σ = r
  refine r_iload_n 2 dX0_isBefore_0 rfl rfl ?_
  refine r_aload_n 0 dX0_isBefore_1 rfl rfl ?_
  refine r_ldR hf dX0_isBefore_2 fl_RX0_28 rfl (fun v1 ev1 hf => ?_)
  refine r_iload_n 3 dX0_isBefore_5 rfl rfl ?_
  refine r_raI hf dX0_isBefore_6 (fun v2 ev2 hf => ?_)
  refine r_icmp_eq 26 hf dX0_isBefore_7 (by decide) (fun c3 hf => ?_) (fun c3 hf => ?_)
  · refine r_aload_n 0 dX0_isBefore_26 rfl rfl ?_
    refine r_ldR hf dX0_isBefore_27 fl_RX0_24 rfl (fun v4 ev4 hf => ?_)
    refine r_iload_n 3 dX0_isBefore_30 rfl rfl ?_
    refine r_raR hf dX0_isBefore_31 (by decide) (by decide) (fun v5 ev5 hf => ?_)
    refine r_astore (L' := [(4, _), (0, _), (1, _), (2, _), (3, _)]) dX0_isBefore_32 (show 4 < 5 by decide) rfl ?_
    refine r_aload_n 2 dX0_isBefore_34 rfl rfl ?_
    refine r_ifnull 43 hf dX0_isBefore_35 (by decide) (fun c6 hf => ?_) (fun c6 hf => ?_)
    · refine r_iconst (b2i false) dX0_isBefore_43 rfl ?_
      exact r_zret rfl dX0_isBefore_44 (by have h1 := (Option.some.inj hf); subst h1; exact hr.symm)
    · refine r_aload 0 dX0_isBefore_38 rfl ?_
      refine r_ifnonnull 45 hf dX0_isBefore_40 (by decide) (fun c7 hf => ?_) (fun c7 hf => ?_)
      · refine r_iconst (b2i false) dX0_isBefore_43 rfl ?_
        exact r_zret rfl dX0_isBefore_44 (by have h1 := (Option.some.inj hf); subst h1; exact hr.symm)
      · refine r_aload_n 2 dX0_isBefore_45 rfl rfl ?_
        refine r_ldL hf dX0_isBefore_46 fl_RX0_39 rfl (fun v8 ev8 hf => ?_)
        refine r_aload 0 dX0_isBefore_49 rfl ?_
        refine r_ldL hf dX0_isBefore_51 fl_RX0_39 rfl (fun v9 ev9 hf => ?_)
        refine r_lcmp_eq 77 hf dX0_isBefore_54 dX0_isBefore_55 (by decide) (fun c10 hf => ?_) (fun c10 hf => ?_)
        · refine r_aload_n 2 dX0_isBefore_77 rfl rfl ?_
          refine r_ldI hf dX0_isBefore_78 fl_RX0_43 rfl (fun v11 ev11 hf => ?_)
          refine r_aload 0 dX0_isBefore_81 rfl ?_
          refine r_ldI hf dX0_isBefore_83 fl_RX0_43 rfl (fun v12 ev12 hf => ?_)
          refine r_icmp_ge 93 hf dX0_isBefore_86 (by decide) (fun c13 hf => ?_) (fun c13 hf => ?_)
          · refine r_iconst (b2i false) dX0_isBefore_93 rfl ?_
            exact r_zret rfl dX0_isBefore_94 (by have h1 := (Option.some.inj hf); subst h1; exact hr.symm)
          · refine r_iconst (b2i true) dX0_isBefore_89 rfl ?_
            refine r_goto 94 dX0_isBefore_90 (by decide) ?_
            exact r_zret rfl dX0_isBefore_94 (by have h1 := (Option.some.inj hf); subst h1; exact hr.symm)
        · refine r_aload_n 2 dX0_isBefore_58 rfl rfl ?_
          refine r_ldL hf dX0_isBefore_59 fl_RX0_39 rfl (fun v14 ev14 hf => ?_)
          refine r_aload 0 dX0_isBefore_62 rfl ?_
          refine r_ldL hf dX0_isBefore_64 fl_RX0_39 rfl (fun v15 ev15 hf => ?_)
          refine r_lcmp_ge 75 hf dX0_isBefore_67 dX0_isBefore_68 (by decide) (fun c16 hf => ?_) (fun c16 hf => ?_)
          · refine r_iconst (b2i false) dX0_isBefore_75 rfl ?_
            exact r_zret rfl dX0_isBefore_76 (by have h1 := (Option.some.inj hf); subst h1; exact hr.symm)
          · refine r_iconst (b2i true) dX0_isBefore_71 rfl ?_
            refine r_goto 76 dX0_isBefore_72 (by decide) ?_
            exact r_zret rfl dX0_isBefore_76 (by have h1 := (Option.some.inj hf); subst h1; exact hr.symm)
  · refine r_iload_n 2 dX0_isBefore_10 rfl rfl ?_
    refine r_aload_n 0 dX0_isBefore_11 rfl rfl ?_
    refine r_ldR hf dX0_isBefore_12 fl_RX0_28 rfl (fun v17 ev17 hf => ?_)
    refine r_iload_n 3 dX0_isBefore_15 rfl rfl ?_
    refine r_raI hf dX0_isBefore_16 (fun v18 ev18 hf => ?_)
    refine r_icmp_le 24 hf dX0_isBefore_17 (by decide) (fun c19 hf => ?_) (fun c19 hf => ?_)
    · refine r_iconst (b2i false) dX0_isBefore_24 rfl ?_
      exact r_zret rfl dX0_isBefore_25 (by have h1 := (Option.some.inj hf); subst h1; exact hr.symm)
    · refine r_iconst (b2i true) dX0_isBefore_20 rfl ?_
      refine r_goto 25 dX0_isBefore_21 (by decide) ?_
      exact r_zret rfl dX0_isBefore_25 (by have h1 := (Option.some.inj hf); subst h1; exact hr.symm)
/-! SearchEngine$Answer.sort -/
noncomputable def An_sort_l39 (σ : Mem) (th : Nat) (x1 : Int32) (x2 : Int32) (x3 : Option Nat) (x4 : Int32) (x5 : Int32) : Option ((Int32 × Mem) ⊕ (Int32 × Mem)) :=
  if x5 < x1 then
    some (Sum.inr (x5, σ))
  else
    (chk σ 0 (some th)).bind fun a10 =>
    (An_isBefore σ a10 x3 x4 (x5 - x1)).bind fun v11 =>
    if v11 = true then
      (ldR σ 0 2 (some th)).bind fun v13 =>
      (ldR σ 0 2 (some th)).bind fun v14 =>
      (raR σ 4 v14 (x5 - x1)).bind fun v15 =>
      (waR σ 4 1 v13 x5 v15).bind fun m16 =>
      (ldR m16 0 3 (some th)).bind fun v17 =>
      (ldR m16 0 3 (some th)).bind fun v18 =>
      (raI m16 0 v18 (x5 - x1)).bind fun v19 =>
      (waI m16 0 v17 x5 v19).bind fun m20 =>
      some (Sum.inl ((x5 - x1), m20))
    else
      some (Sum.inr (x5, σ))
noncomputable def An_sort_l13 (σ : Mem) (th : Nat) (x1 : Int32) (x2 : Int32) : Option ((Int32 × Mem) ⊕ Mem) :=
  (ldI σ 0 4 (some th)).bind fun v3 =>
  if v3 ≤ x2 then
    some (Sum.inr σ)
  else
    (ldR σ 0 2 (some th)).bind fun v5 =>
    (raR σ 4 v5 x2).bind fun v6 =>
    (ldR σ 0 3 (some th)).bind fun v7 =>
    (raI σ 0 v7 x2).bind fun v8 =>
    (lp (fun q => An_sort_l39 q.2 th x1 x2 v6 v8 q.1) (x2, σ)).bind fun z22 =>
    (ldR z22.2 0 2 (some th)).bind fun v23 =>
    (waR z22.2 4 1 v23 z22.1 v6).bind fun m24 =>
    (ldR m24 0 3 (some th)).bind fun v25 =>
    (waI m24 0 v25 z22.1 v8).bind fun m26 =>
    some (Sum.inl ((x2 + (1 : Int32)), m26))
noncomputable def An_sort_l7 (σ : Mem) (th : Nat) (x1 : Int32) : Option ((Int32 × Mem) ⊕ Mem) :=
  if x1 ≤ 0 then
    some (Sum.inr σ)
  else
    (lp (fun q => An_sort_l13 q.2 th x1 q.1) (x1, σ)).bind fun z28 =>
    some (Sum.inl ((x1 / (2 : Int32)), z28))
noncomputable def An_sort (σ : Mem) (th : Nat) : Option Mem :=
  (ldI σ 0 4 (some th)).bind fun v1 =>
  (lp (fun q => An_sort_l7 q.2 th q.1) ((v1 / (2 : Int32)), σ)).bind fun z30 =>
  some z30
set_option maxRecDepth 100000 in
set_option maxHeartbeats 4000000 in
theorem x_An_sort_l39 {Γ : W0} {σ0 : Mem} {r : RT} {th : Nat} {x1 : Int32} {x2 : Int32} {x3 : Option Nat} {x4 : Int32} {t : Int32 × Mem} (hk0 : ∀ z : Int32 × Mem, z = t → V Γ MD_An_sort σ0 r z.2 100 [(0, va_rf (some th)), (1, .int x1), (2, .int x2), (3, va_rf x3), (4, .int x4), (5, .int z.1)] []) : ∀ q : Int32 × Mem, lp (fun q => An_sort_l39 q.2 th x1 x2 x3 x4 q.1) q = some t → V Γ MD_An_sort σ0 r q.2 39 [(0, va_rf (some th)), (1, .int x1), (2, .int x2), (3, va_rf x3), (4, .int x4), (5, .int q.1)] [] := by
  refine lp_ind (fun (q : Int32 × Mem) => V Γ MD_An_sort σ0 r q.2 39 [(0, va_rf (some th)), (1, .int x1), (2, .int x2), (3, va_rf x3), (4, .int x4), (5, .int q.1)] []) (fun q x hf ih ho => ?_)
  obtain ⟨x5, σ⟩ := q
  show V Γ MD_An_sort σ0 r σ 39 [(0, va_rf (some th)), (1, .int x1), (2, .int x2), (3, va_rf x3), (4, .int x4), (5, .int x5)] []
  replace hf : An_sort_l39 σ th x1 x2 x3 x4 x5 = some x := hf
  unfold An_sort_l39 at hf
  refine r_iload 5 dX0_sort_39 rfl ?_
  refine r_iload_n 1 dX0_sort_41 rfl rfl ?_
  refine r_icmp_lt 100 hf dX0_sort_42 (by decide) (fun c9 hf => ?_) (fun c9 hf => ?_)
  · refine r_sub (L' := [(0, _), (1, _), (2, _), (3, _), (4, _), (5, _)]) [0, 1, 2, 3, 4, 5] rfl ?_
    exact hk0 _ (ho _ (Option.some.inj hf).symm)
  · refine r_aload_n 0 dX0_sort_45 rfl rfl ?_
    refine r_aload_n 3 dX0_sort_46 rfl rfl ?_
    refine r_iload 4 dX0_sort_47 rfl ?_
    refine r_iload 5 dX0_sort_49 rfl ?_
    refine r_iload_n 1 dX0_sort_51 rfl rfl ?_
    refine r_isub dX0_sort_52 ?_
    refine r_chk hf (fun a10 xa10 ta10 hf => ?_)
    refine bnd hf (fun v11 ev11 hf => ?_)
    refine r_callVr (ci := 0) xa10 dX0_sort_53 cs_RX0_35 ww_901 ww_34 (by decide) ta10 (by decide) rfl (rest := []) rfl (Or.inl (Nat.le_of_ble_eq_true rfl)) (t_An_isBefore ev11) ?_
    refine r_ifeqZ 100 hf dX0_sort_56 (by decide) (fun c12 hf => ?_) (fun c12 hf => ?_)
    · refine r_aload_n 0 dX0_sort_59 rfl rfl ?_
      refine r_ldR hf dX0_sort_60 fl_RX0_24 rfl (fun v13 ev13 hf => ?_)
      refine r_iload 5 dX0_sort_63 rfl ?_
      refine r_aload_n 0 dX0_sort_65 rfl rfl ?_
      refine r_ldR hf dX0_sort_66 fl_RX0_24 rfl (fun v14 ev14 hf => ?_)
      refine r_iload 5 dX0_sort_69 rfl ?_
      refine r_iload_n 1 dX0_sort_71 rfl rfl ?_
      refine r_isub dX0_sort_72 ?_
      refine r_raR hf dX0_sort_73 (by decide) (by decide) (fun v15 ev15 hf => ?_)
      refine r_waR hf dX0_sort_74 (by decide) (by decide) (by decide) rfl (fun m16 em16 hf => ?_)
      refine r_aload_n 0 dX0_sort_75 rfl rfl ?_
      refine r_ldR hf dX0_sort_76 fl_RX0_28 rfl (fun v17 ev17 hf => ?_)
      refine r_iload 5 dX0_sort_79 rfl ?_
      refine r_aload_n 0 dX0_sort_81 rfl rfl ?_
      refine r_ldR hf dX0_sort_82 fl_RX0_28 rfl (fun v18 ev18 hf => ?_)
      refine r_iload 5 dX0_sort_85 rfl ?_
      refine r_iload_n 1 dX0_sort_87 rfl rfl ?_
      refine r_isub dX0_sort_88 ?_
      refine r_raI hf dX0_sort_89 (fun v19 ev19 hf => ?_)
      refine r_waI hf dX0_sort_90 (fun m20 em20 hf => ?_)
      refine r_iload 5 dX0_sort_91 rfl ?_
      refine r_iload_n 1 dX0_sort_93 rfl rfl ?_
      refine r_isub dX0_sort_94 ?_
      refine r_istore (L' := [(5, _), (0, _), (1, _), (2, _), (3, _), (4, _)]) dX0_sort_95 (show 5 < 6 by decide) rfl ?_
      refine r_goto 39 dX0_sort_97 (by decide) ?_
      refine r_sub (L' := [(0, _), (1, _), (2, _), (3, _), (4, _), (5, _)]) [1, 2, 3, 4, 5, 0] rfl ?_
      exact ih _ (Option.some.inj hf).symm
    · refine r_sub (L' := [(0, _), (1, _), (2, _), (3, _), (4, _), (5, _)]) [0, 1, 2, 3, 4, 5] rfl ?_
      exact hk0 _ (ho _ (Option.some.inj hf).symm)
set_option maxRecDepth 100000 in
set_option maxHeartbeats 4000000 in
theorem x_An_sort_l13 {Γ : W0} {σ0 : Mem} {r : RT} {th : Nat} {x1 : Int32} {t : Mem} (hk0 : ∀ z : Mem, z = t → V Γ MD_An_sort σ0 r z 123 [(0, va_rf (some th)), (1, .int x1)] []) : ∀ q : Int32 × Mem, lp (fun q => An_sort_l13 q.2 th x1 q.1) q = some t → V Γ MD_An_sort σ0 r q.2 13 [(0, va_rf (some th)), (1, .int x1), (2, .int q.1)] [] := by
  refine lp_ind (fun (q : Int32 × Mem) => V Γ MD_An_sort σ0 r q.2 13 [(0, va_rf (some th)), (1, .int x1), (2, .int q.1)] []) (fun q x hf ih ho => ?_)
  obtain ⟨x2, σ⟩ := q
  show V Γ MD_An_sort σ0 r σ 13 [(0, va_rf (some th)), (1, .int x1), (2, .int x2)] []
  replace hf : An_sort_l13 σ th x1 x2 = some x := hf
  unfold An_sort_l13 at hf
  refine r_iload_n 2 dX0_sort_13 rfl rfl ?_
  refine r_aload_n 0 dX0_sort_14 rfl rfl ?_
  refine r_ldI hf dX0_sort_15 fl_RX0_32 rfl (fun v3 ev3 hf => ?_)
  refine r_icmp_ge 123 hf dX0_sort_18 (by decide) (fun c4 hf => ?_) (fun c4 hf => ?_)
  · refine r_sub (L' := [(0, _), (1, _)]) [0, 1] rfl ?_
    exact hk0 _ (ho _ (Option.some.inj hf).symm)
  · refine r_aload_n 0 dX0_sort_21 rfl rfl ?_
    refine r_ldR hf dX0_sort_22 fl_RX0_24 rfl (fun v5 ev5 hf => ?_)
    refine r_iload_n 2 dX0_sort_25 rfl rfl ?_
    refine r_raR hf dX0_sort_26 (by decide) (by decide) (fun v6 ev6 hf => ?_)
    refine r_astore_n (L' := [(3, _), (0, _), (1, _), (2, _)]) dX0_sort_27 rfl (show 3 < 6 by decide) rfl ?_
    refine r_aload_n 1 dX0_sort_28 rfl rfl ?_
    refine r_ldR hf dX0_sort_29 fl_RX0_28 rfl (fun v7 ev7 hf => ?_)
    refine r_iload_n 3 dX0_sort_32 rfl rfl ?_
    refine r_raI hf dX0_sort_33 (fun v8 ev8 hf => ?_)
    refine r_istore (i := 4) (L' := [(4, .int v8), (3, va_rf v6), (0, va_rf (some th)), (1, .int x1), (2, .int x2)]) dX0_sort_34 (show 4 < 6 by decide) (by simp [List.filter, cat_rf, cat_i, cat_l]) ?_
    refine r_iload_n 4 dX0_sort_36 rfl rfl ?_
    refine r_istore (L' := [(5, _), (4, _), (3, _), (0, _), (1, _), (2, _)]) dX0_sort_37 (show 5 < 6 by decide) rfl ?_
    refine bnd hf (fun t21 et21 hf => ?_)
    refine r_sub (L' := [(0, _), (1, _), (2, _), (3, _), (4, _), (5, _)]) [3, 4, 5, 2, 1, 0] rfl ?_
    refine x_An_sort_l39 ?_ _ et21
    · intro z22 hz22
      subst hz22
      refine r_aload_n 0 dX0_sort_100 rfl rfl ?_
      refine r_ldR hf dX0_sort_101 fl_RX0_24 rfl (fun v23 ev23 hf => ?_)
      refine r_iload 5 dX0_sort_104 rfl ?_
      refine r_aload_n 3 dX0_sort_106 rfl rfl ?_
      refine r_waR hf dX0_sort_107 (by decide) (by decide) (by decide) rfl (fun m24 em24 hf => ?_)
      refine r_aload_n 0 dX0_sort_108 rfl rfl ?_
      refine r_ldR hf dX0_sort_109 fl_RX0_28 rfl (fun v25 ev25 hf => ?_)
      refine r_iload 5 dX0_sort_112 rfl ?_
      refine r_iload 4 dX0_sort_114 rfl ?_
      refine r_waI hf dX0_sort_116 (fun m26 em26 hf => ?_)
      refine r_iinc (1 : Int32) (L' := [(2, _), (0, _), (1, _), (3, _), (4, _), (5, _)]) 2 dX0_sort_117 rfl (by decide) (show 2 < 6 by decide) rfl ?_
      refine r_goto 13 dX0_sort_120 (by decide) ?_
      refine r_sub (L' := [(0, _), (1, _), (2, _)]) [1, 2, 0] rfl ?_
      exact ih _ (Option.some.inj hf).symm
set_option maxRecDepth 100000 in
set_option maxHeartbeats 4000000 in
theorem x_An_sort_l7 {Γ : W0} {σ0 : Mem} {r : RT} {th : Nat} {t : Mem} (hk0 : ∀ z : Mem, z = t → V Γ MD_An_sort σ0 r z 130 [] []) : ∀ q : Int32 × Mem, lp (fun q => An_sort_l7 q.2 th q.1) q = some t → V Γ MD_An_sort σ0 r q.2 7 [(0, va_rf (some th)), (1, .int q.1)] [] := by
  refine lp_ind (fun (q : Int32 × Mem) => V Γ MD_An_sort σ0 r q.2 7 [(0, va_rf (some th)), (1, .int q.1)] []) (fun q x hf ih ho => ?_)
  obtain ⟨x1, σ⟩ := q
  show V Γ MD_An_sort σ0 r σ 7 [(0, va_rf (some th)), (1, .int x1)] []
  replace hf : An_sort_l7 σ th x1 = some x := hf
  unfold An_sort_l7 at hf
  refine r_iload_n 1 dX0_sort_7 rfl rfl ?_
  refine r_if_le 130 hf dX0_sort_8 (by decide) (fun c2 hf => ?_) (fun c2 hf => ?_)
  · refine r_sub (L' := []) [] rfl ?_
    exact hk0 _ (ho _ (Option.some.inj hf).symm)
  · refine r_iload_n 1 dX0_sort_11 rfl rfl ?_
    refine r_istore_n (L' := [(2, _), (0, _), (1, _)]) dX0_sort_12 rfl (show 2 < 6 by decide) rfl ?_
    refine bnd hf (fun t27 et27 hf => ?_)
    refine r_sub (L' := [(0, _), (1, _), (2, _)]) [1, 2, 0] rfl ?_
    refine x_An_sort_l13 ?_ _ et27
    · intro z28 hz28
      subst hz28
      refine r_iload_n 1 dX0_sort_123 rfl rfl ?_
      refine r_iconst (2 : Int32) dX0_sort_124 (by decide) ?_
      refine r_idiv dX0_sort_125 (by decide) ?_
      refine r_istore_n (L' := [(1, _), (0, _)]) dX0_sort_126 rfl (show 1 < 6 by decide) rfl ?_
      refine r_goto 7 dX0_sort_127 (by decide) ?_
      refine r_sub (L' := [(0, _), (1, _)]) [1, 0] rfl ?_
      exact ih _ (Option.some.inj hf).symm
set_option maxRecDepth 100000 in
set_option maxHeartbeats 4000000 in
theorem t_An_sort {Γ : W0} {σ : Mem} {th : Nat} {σ' : Mem} (hf : An_sort σ th = some σ') : CT Γ MD_An_sort yX0_sort [va_rf (some th)] σ (none, σ') := by
  refine CT.of (L := [(0, va_rf (some th))]) rfl (by decide) (fun h => Bool.noConfusion (show false = true from h)) (Nat.le_of_ble_eq_true rfl) rfl ?_
  unfold An_sort at hf
  generalize hr : mkR Γ σ (none) σ' = r
  refine r_aload_n 0 dX0_sort_0 rfl rfl ?_
  refine r_ldI hf dX0_sort_1 fl_RX0_32 rfl (fun v1 ev1 hf => ?_)
  refine r_iconst (2 : Int32) dX0_sort_4 (by decide) ?_
  refine r_idiv dX0_sort_5 (by decide) ?_
  refine r_istore_n (L' := [(1, _), (0, _)]) dX0_sort_6 rfl (show 1 < 6 by decide) rfl ?_
  refine bnd hf (fun t29 et29 hf => ?_)
  refine r_sub (L' := [(0, _), (1, _)]) [1, 0] rfl ?_
  refine x_An_sort_l7 ?_ _ et29
  · intro z30 hz30
    subst hz30
    exact r_vret rfl dX0_sort_130 (by have h1 := (Option.some.inj hf); subst h1; exact hr.symm)
/-! SearchEngine$Answer.documentAt -/
noncomputable def An_documentAt (σ : Mem) (th : Nat) (x1 : Int32) : Option (Option Nat) :=
  if x1 < 0 then
    some none
  else
    (ldI σ 0 4 (some th)).bind fun v2 =>
    if v2 ≤ x1 then
      some none
    else
      (ldR σ 0 2 (some th)).bind fun v4 =>
      (raR σ 4 v4 x1).bind fun v5 =>
      some v5
set_option maxRecDepth 100000 in
set_option maxHeartbeats 4000000 in
theorem t_An_documentAt {Γ : W0} {σ : Mem} {th : Nat} {x1 : Int32} {v : Option Nat} (hf : An_documentAt σ th x1 = some v) : CT Γ MD_An_documentAt yX0_documentAt [va_rf (some th), .int x1] σ (some (va_rf v), σ) := by
  refine CT.of (L := [(0, va_rf (some th)), (1, .int x1)]) rfl (by decide) (fun h => Bool.noConfusion (show false = true from h)) (Nat.le_of_ble_eq_true rfl) rfl ?_
  unfold An_documentAt at hf
  generalize hr : mkR Γ σ (some (va_rf v)) σ = r
  refine r_iload_n 1 dX0_documentAt_0 rfl rfl ?_
  refine r_if_lt 21 hf dX0_documentAt_1 (by decide) (fun c1 hf => ?_) (fun c1 hf => ?_)
  · refine r_null dX0_documentAt_21 ?_
    exact r_aret rfl (Or.inl ⟨_, rfl⟩) dX0_documentAt_22 (by have h1 := (Option.some.inj hf); subst h1; exact hr.symm)
  · refine r_iload_n 1 dX0_documentAt_4 rfl rfl ?_
    refine r_aload_n 0 dX0_documentAt_5 rfl rfl ?_
    refine r_ldI hf dX0_documentAt_6 fl_RX0_32 rfl (fun v2 ev2 hf => ?_)
    refine r_icmp_ge 21 hf dX0_documentAt_9 (by decide) (fun c3 hf => ?_) (fun c3 hf => ?_)
    · refine r_null dX0_documentAt_21 ?_
      exact r_aret rfl (Or.inl ⟨_, rfl⟩) dX0_documentAt_22 (by have h1 := (Option.some.inj hf); subst h1; exact hr.symm)
    · refine r_aload_n 0 dX0_documentAt_12 rfl rfl ?_
      refine r_ldR hf dX0_documentAt_13 fl_RX0_24 rfl (fun v4 ev4 hf => ?_)
      refine r_iload_n 1 dX0_documentAt_16 rfl rfl ?_
      refine r_raR hf dX0_documentAt_17 (by decide) (by decide) (fun v5 ev5 hf => ?_)
      refine r_goto 22 dX0_documentAt_18 (by decide) ?_
      exact r_aret rfl (Or.inl ⟨_, rfl⟩) dX0_documentAt_22 (by have h1 := (Option.some.inj hf); subst h1; exact hr.symm)
/-! SearchEngine$Answer.scoreAt -/
noncomputable def An_scoreAt (σ : Mem) (th : Nat) (x1 : Int32) : Option Int32 :=
  if x1 < 0 then
    some (-1 : Int32)
  else
    (ldI σ 0 4 (some th)).bind fun v2 =>
    if v2 ≤ x1 then
      some (-1 : Int32)
    else
      (ldR σ 0 3 (some th)).bind fun v4 =>
      (raI σ 0 v4 x1).bind fun v5 =>
      some v5
set_option maxRecDepth 100000 in
set_option maxHeartbeats 4000000 in
theorem t_An_scoreAt {Γ : W0} {σ : Mem} {th : Nat} {x1 : Int32} {v : Int32} (hf : An_scoreAt σ th x1 = some v) : CT Γ MD_An_scoreAt yX0_scoreAt [va_rf (some th), .int x1] σ (some (.int v), σ) := by
  refine CT.of (L := [(0, va_rf (some th)), (1, .int x1)]) rfl (by decide) (fun h => Bool.noConfusion (show false = true from h)) (Nat.le_of_ble_eq_true rfl) rfl ?_
  unfold An_scoreAt at hf
  generalize hr : mkR Γ σ (some (.int v)) σ = r
  refine r_iload_n 1 dX0_scoreAt_0 rfl rfl ?_
  refine r_if_lt 21 hf dX0_scoreAt_1 (by decide) (fun c1 hf => ?_) (fun c1 hf => ?_)
  · refine r_iconst (-1 : Int32) dX0_scoreAt_21 (by decide) ?_
    exact r_iret rfl dX0_scoreAt_22 (by have h1 := (Option.some.inj hf); subst h1; exact hr.symm)
  · refine r_iload_n 1 dX0_scoreAt_4 rfl rfl ?_
    refine r_aload_n 0 dX0_scoreAt_5 rfl rfl ?_
    refine r_ldI hf dX0_scoreAt_6 fl_RX0_32 rfl (fun v2 ev2 hf => ?_)
    refine r_icmp_ge 21 hf dX0_scoreAt_9 (by decide) (fun c3 hf => ?_) (fun c3 hf => ?_)
    · refine r_iconst (-1 : Int32) dX0_scoreAt_21 (by decide) ?_
      exact r_iret rfl dX0_scoreAt_22 (by have h1 := (Option.some.inj hf); subst h1; exact hr.symm)
    · refine r_aload_n 0 dX0_scoreAt_12 rfl rfl ?_
      refine r_ldR hf dX0_scoreAt_13 fl_RX0_28 rfl (fun v4 ev4 hf => ?_)
      refine r_iload_n 1 dX0_scoreAt_16 rfl rfl ?_
      refine r_raI hf dX0_scoreAt_17 (fun v5 ev5 hf => ?_)
      refine r_goto 22 dX0_scoreAt_18 (by decide) ?_
      exact r_iret rfl dX0_scoreAt_22 (by have h1 := (Option.some.inj hf); subst h1; exact hr.symm)
/-! SearchEngine$Document.<init> -/
noncomputable def Do_init (σ : Mem) (th : Nat) (x1 : Int64) (x3 : Int32) (x4 : Int32) (x5 : Int32) (x6 : Option Nat) (x7 : Option Nat) : Option Mem :=
  (stL σ 1 0 (some th) x1).bind fun m1 =>
  (stI m1 1 1 (some th) x3).bind fun m2 =>
  (stI m2 1 2 (some th) x4).bind fun m3 =>
  (stI m3 1 3 (some th) x5).bind fun m4 =>
  (stR m4 1 4 (some th) x6).bind fun m5 =>
  (stR m5 1 5 (some th) x7).bind fun m6 =>
  some m6
set_option maxRecDepth 100000 in
set_option maxHeartbeats 4000000 in
theorem t_Do_init {Γ : W0} {σ : Mem} {th : Nat} {x1 : Int64} {x3 : Int32} {x4 : Int32} {x5 : Int32} {x6 : Option Nat} {x7 : Option Nat} {σ' : Mem} (hf : Do_init σ th x1 x3 x4 x5 x6 x7 = some σ') : CT Γ MD_Do_init yX1_init [va_rf (some th), .long x1, .int x3, .int x4, .int x5, va_rf x6, va_rf x7] σ (none, σ') := by
  refine CT.of (L := [(0, va_rf (some th)), (1, .long x1), (3, .int x3), (4, .int x4), (5, .int x5), (6, va_rf x6), (7, va_rf x7)]) rfl (by decide) (fun _ => rfl) (by cases x6 <;> cases x7 <;> exact Nat.le_of_ble_eq_true rfl) (by cases x6 <;> cases x7 <;> rfl) ?_
  unfold Do_init at hf
  generalize hr : mkR Γ σ (none) σ' = r
  refine r_aload_n 0 dX1_init_0 rfl rfl ?_
  refine r_objInit dX1_init_1 ww_527 ww_115 ww_116 (by decide) (Nat.le_of_ble_eq_true rfl) ?_
  refine r_aload_n 0 dX1_init_4 rfl rfl ?_
  refine r_lload_n 1 dX1_init_5 rfl rfl ?_
  refine r_stLF hf dX1_init_6 fl_RX1_9 rfl rfl rfl rfl (fun m1 em1 hf => ?_)
  refine r_aload_n 0 dX1_init_9 rfl rfl ?_
  refine r_iload_n 2 dX1_init_10 rfl rfl ?_
  refine r_stIF hf dX1_init_11 fl_RX1_15 rfl rfl rfl rfl rfl (fun m2 em2 hf => ?_)
  refine r_aload_n 0 dX1_init_14 rfl rfl ?_
  refine r_iload 3 dX1_init_15 rfl ?_
  refine r_stIF hf dX1_init_17 fl_RX1_19 rfl rfl rfl rfl rfl (fun m3 em3 hf => ?_)
  refine r_aload_n 0 dX1_init_20 rfl rfl ?_
  refine r_iload 4 dX1_init_21 rfl ?_
  refine r_stIF hf dX1_init_23 fl_RX1_22 rfl rfl rfl rfl rfl (fun m4 em4 hf => ?_)
  refine r_aload_n 0 dX1_init_26 rfl rfl ?_
  refine r_aload 5 dX1_init_27 rfl ?_
  refine r_stRF hf dX1_init_29 fl_RX1_25 rfl rfl rfl rfl (fun m5 em5 hf => ?_)
  refine r_aload_n 0 dX1_init_32 rfl rfl ?_
  refine r_aload 6 dX1_init_33 rfl ?_
  refine r_stRF hf dX1_init_35 fl_RX1_29 rfl rfl rfl rfl (fun m6 em6 hf => ?_)
  exact r_vret rfl dX1_init_38 (by have h1 := (Option.some.inj hf); subst h1; exact hr.symm)
/-! SearchEngine$Document.textOf -/
noncomputable def Do_textOf (σ : Mem) (th : Nat) (x1 : Int32) : Option (Option Nat) :=
  if ¬ x1 = 0 then
    (ldR σ 1 5 (some th)).bind fun v2 =>
    some v2
  else
    (ldR σ 1 4 (some th)).bind fun v3 =>
    some v3
set_option maxRecDepth 100000 in
set_option maxHeartbeats 4000000 in
theorem t_Do_textOf {Γ : W0} {σ : Mem} {th : Nat} {x1 : Int32} {v : Option Nat} (hf : Do_textOf σ th x1 = some v) : CT Γ MD_Do_textOf yX1_textOf [va_rf (some th), .int x1] σ (some (va_rf v), σ) := by
  refine CT.of (L := [(0, va_rf (some th)), (1, .int x1)]) rfl (by decide) (fun h => Bool.noConfusion (show false = true from h)) (Nat.le_of_ble_eq_true rfl) rfl ?_
  unfold Do_textOf at hf
  generalize hr : mkR Γ σ (some (va_rf v)) σ = r
  refine r_iload_n 1 dX1_textOf_0 rfl rfl ?_
  refine r_if_ne 11 hf dX1_textOf_1 (by decide) (fun c1 hf => ?_) (fun c1 hf => ?_)
  · refine r_aload_n 0 dX1_textOf_11 rfl rfl ?_
    refine r_ldR hf dX1_textOf_12 fl_RX1_29 rfl (fun v2 ev2 hf => ?_)
    exact r_aret rfl (Or.inl ⟨_, rfl⟩) dX1_textOf_15 (by have h1 := (Option.some.inj hf); subst h1; exact hr.symm)
  · refine r_aload_n 0 dX1_textOf_4 rfl rfl ?_
    refine r_ldR hf dX1_textOf_5 fl_RX1_25 rfl (fun v3 ev3 hf => ?_)
    refine r_goto 15 dX1_textOf_8 (by decide) ?_
    exact r_aret rfl (Or.inl ⟨_, rfl⟩) dX1_textOf_15 (by have h1 := (Option.some.inj hf); subst h1; exact hr.symm)
/-! SearchEngine$Document.valueOf -/
noncomputable def Do_valueOf (σ : Mem) (th : Nat) (x1 : Int32) : Option Int32 :=
  if ¬ x1 = 0 then
    (ldI σ 1 2 (some th)).bind fun v2 =>
    some v2
  else
    (ldI σ 1 1 (some th)).bind fun v3 =>
    some v3
set_option maxRecDepth 100000 in
set_option maxHeartbeats 4000000 in
theorem t_Do_valueOf {Γ : W0} {σ : Mem} {th : Nat} {x1 : Int32} {v : Int32} (hf : Do_valueOf σ th x1 = some v) : CT Γ MD_Do_valueOf yX1_valueOf [va_rf (some th), .int x1] σ (some (.int v), σ) := by
  refine CT.of (L := [(0, va_rf (some th)), (1, .int x1)]) rfl (by decide) (fun h => Bool.noConfusion (show false = true from h)) (Nat.le_of_ble_eq_true rfl) rfl ?_
  unfold Do_valueOf at hf
  generalize hr : mkR Γ σ (some (.int v)) σ = r
  refine r_iload_n 1 dX1_valueOf_0 rfl rfl ?_
  refine r_if_ne 11 hf dX1_valueOf_1 (by decide) (fun c1 hf => ?_) (fun c1 hf => ?_)
  · refine r_aload_n 0 dX1_valueOf_11 rfl rfl ?_
    refine r_ldI hf dX1_valueOf_12 fl_RX1_19 rfl (fun v2 ev2 hf => ?_)
    exact r_iret rfl dX1_valueOf_15 (by have h1 := (Option.some.inj hf); subst h1; exact hr.symm)
  · refine r_aload_n 0 dX1_valueOf_4 rfl rfl ?_
    refine r_ldI hf dX1_valueOf_5 fl_RX1_15 rfl (fun v3 ev3 hf => ?_)
    refine r_goto 15 dX1_valueOf_8 (by decide) ?_
    exact r_iret rfl dX1_valueOf_15 (by have h1 := (Option.some.inj hf); subst h1; exact hr.symm)
/-! SearchEngine$Document.isBetween -/
noncomputable def Do_isBetween (σ : Mem) (th : Nat) (x1 : Int32) (x2 : Int64) (x4 : Int64) : Option Bool :=
  (chk σ 1 (some th)).bind fun a1 =>
  (Do_valueOf σ a1 x1).bind fun v2 =>
  if v2.toInt64 < x2 then
    some false
  else
    (chk σ 1 (some th)).bind fun a4 =>
    (Do_valueOf σ a4 x1).bind fun v5 =>
    if x4 < v5.toInt64 then
      some false
    else
      some true
set_option maxRecDepth 100000 in
set_option maxHeartbeats 4000000 in
theorem t_Do_isBetween {Γ : W0} {σ : Mem} {th : Nat} {x1 : Int32} {x2 : Int64} {x4 : Int64} {v : Bool} (hf : Do_isBetween σ th x1 x2 x4 = some v) : CT Γ MD_Do_isBetween yX1_isBetween [va_rf (some th), .int x1, .long x2, .long x4] σ (some (.int (b2i v)), σ) := by
  refine CT.of (L := [(0, va_rf (some th)), (1, .int x1), (2, .long x2), (4, .long x4)]) rfl (by decide) (fun h => Bool.noConfusion (show false = true from h)) (Nat.le_of_ble_eq_true rfl) rfl ?_
  unfold Do_isBetween at hf
  generalize hr : mkR Γ σ (some (.int (b2i v))) σ = r
  refine r_aload_n 0 dX1_isBetween_0 rfl rfl ?_
  refine r_iload_n 1 dX1_isBetween_1 rfl rfl ?_
  refine r_chk hf (fun a1 xa1 ta1 hf => ?_)
  refine bnd hf (fun v2 ev2 hf => ?_)
  refine r_callVr (ci := 1) xa1 dX1_isBetween_2 cs_RX1_32 ww_841 ww_842 (by decide) ta1 (by decide) rfl (rest := []) rfl (Or.inl (Nat.le_of_ble_eq_true rfl)) (t_Do_valueOf ev2) ?_
  refine r_i2l dX1_isBetween_5 ?_
  refine r_lload_n 2 dX1_isBetween_6 rfl rfl ?_
  refine r_lcmp_lt 27 hf dX1_isBetween_7 dX1_isBetween_8 (by decide) (fun c3 hf => ?_) (fun c3 hf => ?_)
  · refine r_iconst (b2i false) dX1_isBetween_27 rfl ?_
    exact r_zret rfl dX1_isBetween_28 (by have h1 := (Option.some.inj hf); subst h1; exact hr.symm)
  · refine r_aload_n 0 dX1_isBetween_11 rfl rfl ?_
    refine r_iload_n 1 dX1_isBetween_12 rfl rfl ?_
    refine r_chk hf (fun a4 xa4 ta4 hf => ?_)
    refine bnd hf (fun v5 ev5 hf => ?_)
    refine r_callVr (ci := 1) xa4 dX1_isBetween_13 cs_RX1_32 ww_841 ww_842 (by decide) ta4 (by decide) rfl (rest := []) rfl (Or.inl (Nat.le_of_ble_eq_true rfl)) (t_Do_valueOf ev5) ?_
    refine r_i2l dX1_isBetween_16 ?_
    refine r_lload 3 dX1_isBetween_17 rfl ?_
    refine r_lcmp_gt 27 hf dX1_isBetween_19 dX1_isBetween_20 (by decide) (fun c6 hf => ?_) (fun c6 hf => ?_)
    · refine r_iconst (b2i false) dX1_isBetween_27 rfl ?_
      exact r_zret rfl dX1_isBetween_28 (by have h1 := (Option.some.inj hf); subst h1; exact hr.symm)
    · refine r_iconst (b2i true) dX1_isBetween_23 rfl ?_
      refine r_goto 28 dX1_isBetween_24 (by decide) ?_
      exact r_zret rfl dX1_isBetween_28 (by have h1 := (Option.some.inj hf); subst h1; exact hr.symm)
/-! SearchEngine$Neighbour.<init> -/
noncomputable def Ne_init (σ : Mem) (th : Nat) : Option Mem :=
  (nwA σ 0 (12 : Int32)).bind fun m1 =>
  (stR m1 2 4 (some th) (some (gN σ))).bind fun m2 =>
  (nwA m2 0 (12 : Int32)).bind fun m3 =>
  (stR m3 2 6 (some th) (some (gN m2))).bind fun m4 =>
  (nwA m4 0 (13 : Int32)).bind fun m5 =>
  (stR m5 2 7 (some th) (some (gN m4))).bind fun m6 =>
  some m6
set_option maxRecDepth 100000 in
set_option maxHeartbeats 4000000 in
theorem t_Ne_init {Γ : W0} {σ : Mem} {th : Nat} {σ' : Mem} (hf : Ne_init σ th = some σ') : CT Γ MD_Ne_init yX2_init [va_rf (some th)] σ (none, σ') := by
  refine CT.of (L := [(0, va_rf (some th))]) rfl (by decide) (fun _ => rfl) (Nat.le_of_ble_eq_true rfl) rfl ?_
  unfold Ne_init at hf
  generalize hr : mkR Γ σ (none) σ' = r
  refine r_aload_n 0 dX2_init_0 rfl rfl ?_
  refine r_objInit dX2_init_1 ww_350 ww_115 ww_116 (by decide) (Nat.le_of_ble_eq_true rfl) ?_
  refine r_aload_n 0 dX2_init_4 rfl rfl ?_
  refine r_bipush (12 : Int32) dX2_init_5 (by decide) ?_
  refine r_newI hf dX2_init_7 ww_313 (fun m1 em1 hf => ?_)
  refine r_stRF hf dX2_init_9 fl_RX2_11 rfl rfl rfl rfl (fun m2 em2 hf => ?_)
  refine r_aload_n 0 dX2_init_12 rfl rfl ?_
  refine r_bipush (12 : Int32) dX2_init_13 (by decide) ?_
  refine r_newI hf dX2_init_15 ww_313 (fun m3 em3 hf => ?_)
  refine r_stRF hf dX2_init_17 fl_RX2_17 rfl rfl rfl rfl (fun m4 em4 hf => ?_)
  refine r_aload_n 0 dX2_init_20 rfl rfl ?_
  refine r_bipush (13 : Int32) dX2_init_21 (by decide) ?_
  refine r_newI hf dX2_init_23 ww_313 (fun m5 em5 hf => ?_)
  refine r_stRF hf dX2_init_25 fl_RX2_20 rfl rfl rfl rfl (fun m6 em6 hf => ?_)
  exact r_vret rfl dX2_init_28 (by have h1 := (Option.some.inj hf); subst h1; exact hr.symm)
