/-! methods as functions, with their walks (by program) -/
/-! SearchEngine$Text.lengthAt -/
noncomputable def Te_lengthAt (σ : Mem) (th : Nat) (x1 : Int32) : Option Int32 :=
  if x1 < 0 then
    some (-1 : Int32)
  else
    (ldR σ 8 1 (some th)).bind fun v2 =>
    (alen σ 0 v2).bind fun v3 =>
    if v3 ≤ x1 then
      some (-1 : Int32)
    else
      (ldR σ 8 1 (some th)).bind fun v5 =>
      (raI σ 0 v5 x1).bind fun v6 =>
      some v6
set_option maxRecDepth 100000 in
set_option maxHeartbeats 4000000 in
theorem t_Te_lengthAt {Γ : W0} {σ : Mem} {th : Nat} {x1 : Int32} {v : Int32} (hf : Te_lengthAt σ th x1 = some v) : CT Γ MD_Te_lengthAt yX8_lengthAt [va_rf (some th), .int x1] σ (some (.int v), σ) := by
  refine CT.of (L := [(0, va_rf (some th)), (1, .int x1)]) rfl (by decide) (fun h => Bool.noConfusion (show false = true from h)) (Nat.le_of_ble_eq_true rfl) rfl ?_
  unfold Te_lengthAt at hf
  generalize hr : mkR Γ σ (some (.int v)) σ = r
  refine r_iload_n 1 dX8_lengthAt_0 rfl rfl ?_
  refine r_if_lt 22 hf dX8_lengthAt_1 (by decide) (fun c1 hf => ?_) (fun c1 hf => ?_)
  · refine r_iconst (-1 : Int32) dX8_lengthAt_22 (by decide) ?_
    exact r_iret rfl dX8_lengthAt_23 (by have h1 := (Option.some.inj hf); subst h1; exact hr.symm)
  · refine r_iload_n 1 dX8_lengthAt_4 rfl rfl ?_
    refine r_aload_n 0 dX8_lengthAt_5 rfl rfl ?_
    refine r_ldR hf dX8_lengthAt_6 fl_RX8_19 rfl (fun v2 ev2 hf => ?_)
    refine r_alen hf dX8_lengthAt_9 (by decide) (fun v3 ev3 hf => ?_)
    refine r_icmp_ge 22 hf dX8_lengthAt_10 (by decide) (fun c4 hf => ?_) (fun c4 hf => ?_)
    · refine r_iconst (-1 : Int32) dX8_lengthAt_22 (by decide) ?_
      exact r_iret rfl dX8_lengthAt_23 (by have h1 := (Option.some.inj hf); subst h1; exact hr.symm)
    · refine r_aload_n 0 dX8_lengthAt_13 rfl rfl ?_
      refine r_ldR hf dX8_lengthAt_14 fl_RX8_19 rfl (fun v5 ev5 hf => ?_)
      refine r_iload_n 1 dX8_lengthAt_17 rfl rfl ?_
      refine r_raI hf dX8_lengthAt_18 (fun v6 ev6 hf => ?_)
      refine r_goto 23 dX8_lengthAt_19 (by decide) ?_
      exact r_iret rfl dX8_lengthAt_23 (by have h1 := (Option.some.inj hf); subst h1; exact hr.symm)
/-! SearchEngine$View.<init> -/
noncomputable def Vi_init (σ : Mem) (th : Nat) : Option Mem :=
  (nwA σ 5 (16 : Int32)).bind fun m1 =>
  (stR m1 9 1 (some th) (some (gN σ))).bind fun m2 =>
  (nwA m2 4 (400 : Int32)).bind fun m3 =>
  (stR m3 9 3 (some th) (some (gN m2))).bind fun m4 =>
  (nwA m4 3 (400 : Int32)).bind fun m5 =>
  (stR m5 9 4 (some th) (some (gN m4))).bind fun m6 =>
  some m6
set_option maxRecDepth 100000 in
set_option maxHeartbeats 4000000 in
theorem t_Vi_init {Γ : W0} {σ : Mem} {th : Nat} {σ' : Mem} (hf : Vi_init σ th = some σ') : CT Γ MD_Vi_init yX9_init [va_rf (some th)] σ (none, σ') := by
  refine CT.of (L := [(0, va_rf (some th))]) rfl (by decide) (fun _ => rfl) (Nat.le_of_ble_eq_true rfl) rfl ?_
  unfold Vi_init at hf
  generalize hr : mkR Γ σ (none) σ' = r
  refine r_aload_n 0 dX9_init_0 rfl rfl ?_
  refine r_objInit dX9_init_1 ww_201 ww_115 ww_116 (by decide) (Nat.le_of_ble_eq_true rfl) ?_
  refine r_aload_n 0 dX9_init_4 rfl rfl ?_
  refine r_bipush (16 : Int32) dX9_init_5 (by decide) ?_
  refine r_newR hf dX9_init_7 (by decide) (by decide) rfl ww_202 (fun m1 em1 hf => ?_)
  refine r_stRF hf dX9_init_10 fl_RX9_11 rfl rfl rfl rfl (fun m2 em2 hf => ?_)
  refine r_aload_n 0 dX9_init_13 rfl rfl ?_
  refine r_sipush (400 : Int32) dX9_init_14 (by decide) ?_
  refine r_newR hf dX9_init_17 (by decide) (by decide) rfl ww_203 (fun m3 em3 hf => ?_)
  refine r_stRF hf dX9_init_20 fl_RX9_19 rfl rfl rfl rfl (fun m4 em4 hf => ?_)
  refine r_aload_n 0 dX9_init_23 rfl rfl ?_
  refine r_sipush (400 : Int32) dX9_init_24 (by decide) ?_
  refine r_newB hf dX9_init_27 ww_231 (fun m5 em5 hf => ?_)
  refine r_stRF hf dX9_init_29 fl_RX9_23 rfl rfl rfl rfl (fun m6 em6 hf => ?_)
  exact r_vret rfl dX9_init_32 (by have h1 := (Option.some.inj hf); subst h1; exact hr.symm)
/-! SearchEngine$View.takeDocuments -/
noncomputable def Vi_takeDocuments_l2 (σ : Mem) (th : Nat) (x1 : Option Nat) (x2 : Int32) : Option ((Int32 × Mem) ⊕ Mem) :=
  (alen σ 4 x1).bind fun v1 =>
  if v1 ≤ x2 then
    some (Sum.inr σ)
  else
    (ldI σ 9 5 (some th)).bind fun v3 =>
    if (400 : Int32) ≤ v3 then
      some (Sum.inr σ)
    else
      (raR σ 4 x1 x2).bind fun v5 =>
      Option.bind (
        if v5 = none then
          some σ
        else
          (ldR σ 9 3 (some th)).bind fun v8 =>
          (ldI σ 9 5 (some th)).bind fun v9 =>
          (waR σ 4 1 v8 v9 v5).bind fun m10 =>
          (ldR m10 9 4 (some th)).bind fun v11 =>
          (ldI m10 9 5 (some th)).bind fun v12 =>
          (ldB m10 1 6 v5).bind fun v13 =>
          (waB m10 3 v11 v12 v13).bind fun m14 =>
          (ldI m14 9 5 (some th)).bind fun v15 =>
          (stI m14 9 5 (some th) (v15 + (1 : Int32))).bind fun m16 =>
          (ldB m16 1 6 v5).bind fun v17 =>
          if v17 = true then
            some m16
          else
            (ldI m16 9 6 (some th)).bind fun v19 =>
            (stI m16 9 6 (some th) (v19 + (1 : Int32))).bind fun m20 =>
            some m20) fun q6 =>
      some (Sum.inl ((x2 + (1 : Int32)), q6))
noncomputable def Vi_takeDocuments (σ : Mem) (th : Nat) (x1 : Option Nat) : Option Mem :=
  (lp (fun q => Vi_takeDocuments_l2 q.2 th x1 q.1) ((0 : Int32), σ)).bind fun z22 =>
  some z22
set_option maxRecDepth 100000 in
set_option maxHeartbeats 4000000 in
theorem x_Vi_takeDocuments_l2 {Γ : W0} {σ0 : Mem} {r : RT} {th : Nat} {x1 : Option Nat} {t : Mem} (hk0 : ∀ z : Mem, z = t → V Γ MD_Vi_takeDocuments σ0 r z 82 [] []) : ∀ q : Int32 × Mem, lp (fun q => Vi_takeDocuments_l2 q.2 th x1 q.1) q = some t → V Γ MD_Vi_takeDocuments σ0 r q.2 2 [(0, va_rf (some th)), (1, va_rf x1), (2, .int q.1)] [] := by
  refine lp_ind (fun (q : Int32 × Mem) => V Γ MD_Vi_takeDocuments σ0 r q.2 2 [(0, va_rf (some th)), (1, va_rf x1), (2, .int q.1)] []) (fun q x hf ih ho => ?_)
  obtain ⟨x2, σ⟩ := q
  show V Γ MD_Vi_takeDocuments σ0 r σ 2 [(0, va_rf (some th)), (1, va_rf x1), (2, .int x2)] []
  replace hf : Vi_takeDocuments_l2 σ th x1 x2 = some x := hf
  unfold Vi_takeDocuments_l2 at hf
  refine r_iload_n 2 dX9_takeDocuments_2 rfl rfl ?_
  refine r_aload_n 1 dX9_takeDocuments_3 rfl rfl ?_
  refine r_alen hf dX9_takeDocuments_4 (by decide) (fun v1 ev1 hf => ?_)
  refine r_icmp_ge 82 hf dX9_takeDocuments_5 (by decide) (fun c2 hf => ?_) (fun c2 hf => ?_)
  · refine r_sub (L' := []) [] rfl ?_
    exact hk0 _ (ho _ (Option.some.inj hf).symm)
  · refine r_aload_n 0 dX9_takeDocuments_8 rfl rfl ?_
    refine r_ldI hf dX9_takeDocuments_9 fl_RX9_35 rfl (fun v3 ev3 hf => ?_)
    refine r_sipush (400 : Int32) dX9_takeDocuments_12 (by decide) ?_
    refine r_icmp_ge 82 hf dX9_takeDocuments_15 (by decide) (fun c4 hf => ?_) (fun c4 hf => ?_)
    · refine r_sub (L' := []) [] rfl ?_
      exact hk0 _ (ho _ (Option.some.inj hf).symm)
    · refine r_aload_n 1 dX9_takeDocuments_18 rfl rfl ?_
      refine r_iload_n 2 dX9_takeDocuments_19 rfl rfl ?_
      refine r_raR hf dX9_takeDocuments_20 (by decide) (by decide) (fun v5 ev5 hf => ?_)
      refine r_astore_n (L' := [(3, _), (0, _), (1, _), (2, _)]) dX9_takeDocuments_21 rfl (show 3 < 4 by decide) rfl ?_
      refine r_aload_n 0 dX9_takeDocuments_22 rfl rfl ?_
      refine r_bd (fun (q6 : Mem) => V Γ MD_Vi_takeDocuments σ0 r q6 76 [(0, va_rf (some th)), (1, va_rf x1), (2, .int x2)] []) hf (fun q6 hf => ?_) (fun yq6 hf kq6 => ?_)
      · refine r_iinc (1 : Int32) (L' := [(2, .int (x2 + (1 : Int32))), (0, va_rf (some th)), (1, va_rf x1)]) 2 dX9_takeDocuments_76 rfl (by decide) (show 2 < 4 by decide) (by simp [List.filter, cat_rf, cat_i, cat_l]) ?_
        refine r_goto 2 dX9_takeDocuments_79 (by decide) ?_
        refine r_sub (L' := [(0, _), (1, _), (2, _)]) [1, 2, 0] rfl ?_
        exact ih _ (Option.some.inj hf).symm
      · refine r_ifnull 76 hf dX9_takeDocuments_23 (by decide) (fun c7 hf => ?_) (fun c7 hf => ?_)
        · refine r_sub (L' := [(0, _), (1, _), (2, _)]) [1, 2, 3] rfl ?_
          cases (Option.some.inj hf)
          exact kq6
        · refine r_aload_n 1 dX9_takeDocuments_26 rfl rfl ?_
          refine r_ldR hf dX9_takeDocuments_27 fl_RX9_19 rfl (fun v8 ev8 hf => ?_)
          refine r_aload_n 1 dX9_takeDocuments_30 rfl rfl ?_
          refine r_ldI hf dX9_takeDocuments_31 fl_RX9_35 rfl (fun v9 ev9 hf => ?_)
          refine r_aload_n 0 dX9_takeDocuments_34 rfl rfl ?_
          refine r_waR hf dX9_takeDocuments_35 (by decide) (by decide) (by decide) rfl (fun m10 em10 hf => ?_)
          refine r_aload_n 1 dX9_takeDocuments_36 rfl rfl ?_
          refine r_ldR hf dX9_takeDocuments_37 fl_RX9_23 rfl (fun v11 ev11 hf => ?_)
          refine r_aload_n 1 dX9_takeDocuments_40 rfl rfl ?_
          refine r_ldI hf dX9_takeDocuments_41 fl_RX9_35 rfl (fun v12 ev12 hf => ?_)
          refine r_aload_n 0 dX9_takeDocuments_44 rfl rfl ?_
          refine r_ldB hf dX9_takeDocuments_45 fl_RX9_46 rfl (fun v13 ev13 hf => ?_)
          refine r_waB hf dX9_takeDocuments_48 (fun m14 em14 hf => ?_)
          refine r_aload_n 1 dX9_takeDocuments_49 rfl rfl ?_
          refine r_dup dX9_takeDocuments_50 (cat_rf _) ?_
          refine r_ldI hf dX9_takeDocuments_51 fl_RX9_35 rfl (fun v15 ev15 hf => ?_)
          refine r_iconst (1 : Int32) dX9_takeDocuments_54 (by decide) ?_
          refine r_iadd dX9_takeDocuments_55 ?_
          refine r_stI hf dX9_takeDocuments_56 fl_RX9_35 rfl rfl rfl (fun m16 em16 hf => ?_)
          refine r_aload_n 0 dX9_takeDocuments_59 rfl rfl ?_
          refine r_ldB hf dX9_takeDocuments_60 fl_RX9_46 rfl (fun v17 ev17 hf => ?_)
          refine r_ifneZ 76 hf dX9_takeDocuments_63 (by decide) (fun c18 hf => ?_) (fun c18 hf => ?_)
          · refine r_sub (L' := [(0, _), (1, _), (2, _)]) [1, 2, 3] rfl ?_
            cases (Option.some.inj hf)
            exact kq6
          · refine r_aload_n 1 dX9_takeDocuments_66 rfl rfl ?_
            refine r_dup dX9_takeDocuments_67 (cat_rf _) ?_
            refine r_ldI hf dX9_takeDocuments_68 fl_RX9_38 rfl (fun v19 ev19 hf => ?_)
            refine r_iconst (1 : Int32) dX9_takeDocuments_71 (by decide) ?_
            refine r_iadd dX9_takeDocuments_72 ?_
            refine r_stI hf dX9_takeDocuments_73 fl_RX9_38 rfl rfl rfl (fun m20 em20 hf => ?_)
            refine r_sub (L' := [(0, _), (1, _), (2, _)]) [1, 2, 3] rfl ?_
            cases (Option.some.inj hf)
            exact kq6
set_option maxRecDepth 100000 in
set_option maxHeartbeats 4000000 in
theorem t_Vi_takeDocuments {Γ : W0} {σ : Mem} {th : Nat} {x1 : Option Nat} {σ' : Mem} (hf : Vi_takeDocuments σ th x1 = some σ') : CT Γ MD_Vi_takeDocuments yX9_takeDocuments [va_rf (some th), va_rf x1] σ (none, σ') := by
  refine CT.of (L := [(0, va_rf (some th)), (1, va_rf x1)]) rfl (by decide) (fun h => Bool.noConfusion (show false = true from h)) (by cases x1 <;> exact Nat.le_of_ble_eq_true rfl) (by cases x1 <;> rfl) ?_
  unfold Vi_takeDocuments at hf
  generalize hr : mkR Γ σ (none) σ' = r
  refine r_iconst (0 : Int32) dX9_takeDocuments_0 (by decide) ?_
  refine r_istore_n (i := 2) (L' := [(2, .int (0 : Int32)), (0, va_rf (some th)), (1, va_rf x1)]) dX9_takeDocuments_1 rfl (show 2 < 4 by decide) (by simp [List.filter, cat_rf, cat_i, cat_l]) ?_
  refine bnd hf (fun t21 et21 hf => ?_)
  refine r_sub (L' := [(0, _), (1, _), (2, _)]) [1, 2, 0] rfl ?_
  refine x_Vi_takeDocuments_l2 ?_ _ et21
  · intro z22 hz22
    subst hz22
    exact r_vret rfl dX9_takeDocuments_82 (by have h1 := (Option.some.inj hf); subst h1; exact hr.symm)
/-! SearchEngine$View.take -/
noncomputable def Vi_take_l22 (σ : Mem) (th : Nat) (x1 : Option Nat) (x2 : Int32) (x3 : Int32) : Option ((Int32 × Mem) ⊕ Mem) :=
  if x2 ≤ x3 then
    some (Sum.inr σ)
  else
    (alen σ 5 x1).bind fun v6 =>
    if v6 ≤ x3 then
      some (Sum.inr σ)
    else
      if (16 : Int32) ≤ x3 then
        some (Sum.inr σ)
      else
        (raR σ 5 x1 x3).bind fun v9 =>
        Option.bind (
          if v9 = none then
            some σ
          else
            (ldR σ 9 1 (some th)).bind fun v12 =>
            (ldI σ 9 2 (some th)).bind fun v13 =>
            (waR σ 5 6 v12 v13 v9).bind fun m14 =>
            (ldI m14 9 2 (some th)).bind fun v15 =>
            (stI m14 9 2 (some th) (v15 + (1 : Int32))).bind fun m16 =>
            (ldR m16 6 1 v9).bind fun v17 =>
            (chk m16 9 (some th)).bind fun a18 =>
            (Vi_takeDocuments m16 a18 v17).bind fun v19 =>
            some v19) fun q10 =>
        some (Sum.inl ((x3 + (1 : Int32)), q10))
noncomputable def Vi_take (σ : Mem) (th : Nat) (x1 : Option Nat) (x2 : Int32) : Option Mem :=
  (stB σ 9 0 (some th) true).bind fun m1 =>
  (stI m1 9 2 (some th) (0 : Int32)).bind fun m2 =>
  (stI m2 9 5 (some th) (0 : Int32)).bind fun m3 =>
  (stI m3 9 6 (some th) (0 : Int32)).bind fun m4 =>
  (lp (fun q => Vi_take_l22 q.2 th x1 x2 q.1) ((0 : Int32), m4)).bind fun z21 =>
  some z21
set_option maxRecDepth 100000 in
set_option maxHeartbeats 4000000 in
theorem x_Vi_take_l22 {Γ : W0} {σ0 : Mem} {r : RT} {th : Nat} {x1 : Option Nat} {x2 : Int32} {t : Mem} (hk0 : ∀ z : Mem, z = t → V Γ MD_Vi_take σ0 r z 85 [] []) : ∀ q : Int32 × Mem, lp (fun q => Vi_take_l22 q.2 th x1 x2 q.1) q = some t → V Γ MD_Vi_take σ0 r q.2 22 [(0, va_rf (some th)), (1, va_rf x1), (2, .int x2), (3, .int q.1)] [] := by
  refine lp_ind (fun (q : Int32 × Mem) => V Γ MD_Vi_take σ0 r q.2 22 [(0, va_rf (some th)), (1, va_rf x1), (2, .int x2), (3, .int q.1)] []) (fun q x hf ih ho => ?_)
  obtain ⟨x3, σ⟩ := q
  show V Γ MD_Vi_take σ0 r σ 22 [(0, va_rf (some th)), (1, va_rf x1), (2, .int x2), (3, .int x3)] []
  replace hf : Vi_take_l22 σ th x1 x2 x3 = some x := hf
  unfold Vi_take_l22 at hf
  refine r_iload_n 3 dX9_take_22 rfl rfl ?_
  refine r_iload_n 2 dX9_take_23 rfl rfl ?_
  refine r_icmp_ge 85 hf dX9_take_24 (by decide) (fun c5 hf => ?_) (fun c5 hf => ?_)
  · refine r_sub (L' := []) [] rfl ?_
    exact hk0 _ (ho _ (Option.some.inj hf).symm)
  · refine r_iload_n 3 dX9_take_27 rfl rfl ?_
    refine r_aload_n 1 dX9_take_28 rfl rfl ?_
    refine r_alen hf dX9_take_29 (by decide) (fun v6 ev6 hf => ?_)
    refine r_icmp_ge 85 hf dX9_take_30 (by decide) (fun c7 hf => ?_) (fun c7 hf => ?_)
    · refine r_sub (L' := []) [] rfl ?_
      exact hk0 _ (ho _ (Option.some.inj hf).symm)
    · refine r_iload_n 3 dX9_take_33 rfl rfl ?_
      refine r_bipush (16 : Int32) dX9_take_34 (by decide) ?_
      refine r_icmp_ge 85 hf dX9_take_36 (by decide) (fun c8 hf => ?_) (fun c8 hf => ?_)
      · refine r_sub (L' := []) [] rfl ?_
        exact hk0 _ (ho _ (Option.some.inj hf).symm)
      · refine r_aload_n 1 dX9_take_39 rfl rfl ?_
        refine r_iload_n 3 dX9_take_40 rfl rfl ?_
        refine r_raR hf dX9_take_41 (by decide) (by decide) (fun v9 ev9 hf => ?_)
        refine r_astore (L' := [(4, _), (0, _), (1, _), (2, _), (3, _)]) dX9_take_42 (show 4 < 5 by decide) rfl ?_
        refine r_aload 0 dX9_take_44 rfl ?_
        refine r_bd (fun (q10 : Mem) => V Γ MD_Vi_take σ0 r q10 79 [(0, va_rf (some th)), (1, va_rf x1), (2, .int x2), (3, .int x3)] []) hf (fun q10 hf => ?_) (fun yq10 hf kq10 => ?_)
        · refine r_iinc (1 : Int32) (L' := [(3, _), (0, _), (1, _), (2, _)]) 3 dX9_take_79 rfl (by decide) (show 3 < 5 by decide) rfl ?_
          refine r_goto 22 dX9_take_82 (by decide) ?_
          refine r_sub (L' := [(0, _), (1, _), (2, _), (3, _)]) [1, 2, 3, 0] rfl ?_
          exact ih _ (Option.some.inj hf).symm
        · refine r_ifnull 79 hf dX9_take_46 (by decide) (fun c11 hf => ?_) (fun c11 hf => ?_)
          · refine r_sub (L' := [(0, _), (1, _), (2, _), (3, _)]) [1, 2, 3, 4] rfl ?_
            cases (Option.some.inj hf)
            exact kq10
          · refine r_aload_n 1 dX9_take_49 rfl rfl ?_
            refine r_ldR hf dX9_take_50 fl_RX9_11 rfl (fun v12 ev12 hf => ?_)
            refine r_aload_n 1 dX9_take_53 rfl rfl ?_
            refine r_ldI hf dX9_take_54 fl_RX9_31 rfl (fun v13 ev13 hf => ?_)
            refine r_aload 0 dX9_take_57 rfl ?_
            refine r_waR hf dX9_take_59 (by decide) (by decide) (by decide) rfl (fun m14 em14 hf => ?_)
            refine r_aload_n 1 dX9_take_60 rfl rfl ?_
            refine r_dup dX9_take_61 (cat_rf _) ?_
            refine r_ldI hf dX9_take_62 fl_RX9_31 rfl (fun v15 ev15 hf => ?_)
            refine r_iconst (1 : Int32) dX9_take_65 (by decide) ?_
            refine r_iadd dX9_take_66 ?_
            refine r_stI hf dX9_take_67 fl_RX9_31 rfl rfl rfl (fun m16 em16 hf => ?_)
            refine r_aload_n 1 dX9_take_70 rfl rfl ?_
            refine r_aload 0 dX9_take_71 rfl ?_
            refine r_ldR hf dX9_take_73 fl_RX9_41 rfl (fun v17 ev17 hf => ?_)
            refine r_chk hf (fun a18 xa18 ta18 hf => ?_)
            refine bnd hf (fun v19 ev19 hf => ?_)
            refine r_callVv (ci := 9) xa18 dX9_take_76 cs_RX9_42 ww_656 ww_13 (by decide) ta18 (by decide) rfl (rest := []) rfl (Or.inl (Nat.le_of_ble_eq_true rfl)) (t_Vi_takeDocuments ev19) ?_
            refine r_sub (L' := [(0, _), (1, _), (2, _), (3, _)]) [1, 2, 3, 4] rfl ?_
            cases (Option.some.inj hf)
            exact kq10
set_option maxRecDepth 100000 in
set_option maxHeartbeats 4000000 in
theorem t_Vi_take {Γ : W0} {σ : Mem} {th : Nat} {x1 : Option Nat} {x2 : Int32} {σ' : Mem} (hf : Vi_take σ th x1 x2 = some σ') : CT Γ MD_Vi_take yX9_take [va_rf (some th), va_rf x1, .int x2] σ (none, σ') := by
  refine CT.of (L := [(0, va_rf (some th)), (1, va_rf x1), (2, .int x2)]) rfl (by decide) (fun h => Bool.noConfusion (show false = true from h)) (by cases x1 <;> exact Nat.le_of_ble_eq_true rfl) (by cases x1 <;> rfl) ?_
  unfold Vi_take at hf
  generalize hr : mkR Γ σ (none) σ' = r
  refine r_aload_n 0 dX9_take_0 rfl rfl ?_
  refine r_iconst (b2i true) dX9_take_1 rfl ?_
  refine r_stB hf dX9_take_2 fl_RX9_27 rfl rfl (fun m1 em1 hf => ?_)
  refine r_aload_n 0 dX9_take_5 rfl rfl ?_
  refine r_iconst (0 : Int32) dX9_take_6 (by decide) ?_
  refine r_stI hf dX9_take_7 fl_RX9_31 rfl rfl rfl (fun m2 em2 hf => ?_)
  refine r_aload_n 0 dX9_take_10 rfl rfl ?_
  refine r_iconst (0 : Int32) dX9_take_11 (by decide) ?_
  refine r_stI hf dX9_take_12 fl_RX9_35 rfl rfl rfl (fun m3 em3 hf => ?_)
  refine r_aload_n 0 dX9_take_15 rfl rfl ?_
  refine r_iconst (0 : Int32) dX9_take_16 (by decide) ?_
  refine r_stI hf dX9_take_17 fl_RX9_38 rfl rfl rfl (fun m4 em4 hf => ?_)
  refine r_iconst (0 : Int32) dX9_take_20 (by decide) ?_
  refine r_istore_n (L' := [(3, _), (0, _), (1, _), (2, _)]) dX9_take_21 rfl (show 3 < 5 by decide) rfl ?_
  refine bnd hf (fun t20 et20 hf => ?_)
  refine r_sub (L' := [(0, _), (1, _), (2, _), (3, _)]) [1, 2, 3, 0] rfl ?_
  refine x_Vi_take_l22 ?_ _ et20
  · intro z21 hz21
    subst hz21
    exact r_vret rfl dX9_take_85 (by have h1 := (Option.some.inj hf); subst h1; exact hr.symm)
/-! SearchEngine$View.liveAt -/
noncomputable def Vi_liveAt (σ : Mem) (th : Nat) (x1 : Int32) : Option (Option Nat) :=
  if x1 < 0 then
    some none
  else
    (ldI σ 9 5 (some th)).bind fun v2 =>
    if v2 ≤ x1 then
      some none
    else
      (ldR σ 9 4 (some th)).bind fun v4 =>
      (raB σ 3 v4 x1).bind fun v5 =>
      if v5 = true then
        some none
      else
        (ldR σ 9 3 (some th)).bind fun v7 =>
        (raR σ 4 v7 x1).bind fun v8 =>
        some v8
set_option maxRecDepth 100000 in
set_option maxHeartbeats 4000000 in
theorem t_Vi_liveAt {Γ : W0} {σ : Mem} {th : Nat} {x1 : Int32} {v : Option Nat} (hf : Vi_liveAt σ th x1 = some v) : CT Γ MD_Vi_liveAt yX9_liveAt [va_rf (some th), .int x1] σ (some (va_rf v), σ) := by
  refine CT.of (L := [(0, va_rf (some th)), (1, .int x1)]) rfl (by decide) (fun h => Bool.noConfusion (show false = true from h)) (Nat.le_of_ble_eq_true rfl) rfl ?_
  unfold Vi_liveAt at hf
  generalize hr : mkR Γ σ (some (va_rf v)) σ = r
  refine r_iload_n 1 dX9_liveAt_0 rfl rfl ?_
  refine r_if_lt 30 hf dX9_liveAt_1 (by decide) (fun c1 hf => ?_) (fun c1 hf => ?_)
  · refine r_null dX9_liveAt_30 ?_
    exact r_aret rfl (Or.inl ⟨_, rfl⟩) dX9_liveAt_31 (by have h1 := (Option.some.inj hf); subst h1; exact hr.symm)
  · refine r_iload_n 1 dX9_liveAt_4 rfl rfl ?_
    refine r_aload_n 0 dX9_liveAt_5 rfl rfl ?_
    refine r_ldI hf dX9_liveAt_6 fl_RX9_35 rfl (fun v2 ev2 hf => ?_)
    refine r_icmp_ge 30 hf dX9_liveAt_9 (by decide) (fun c3 hf => ?_) (fun c3 hf => ?_)
    · refine r_null dX9_liveAt_30 ?_
      exact r_aret rfl (Or.inl ⟨_, rfl⟩) dX9_liveAt_31 (by have h1 := (Option.some.inj hf); subst h1; exact hr.symm)
    · refine r_aload_n 0 dX9_liveAt_12 rfl rfl ?_
      refine r_ldR hf dX9_liveAt_13 fl_RX9_23 rfl (fun v4 ev4 hf => ?_)
      refine r_iload_n 1 dX9_liveAt_16 rfl rfl ?_
      refine r_raB hf dX9_liveAt_17 (fun v5 ev5 hf => ?_)
      refine r_ifneZ 30 hf dX9_liveAt_18 (by decide) (fun c6 hf => ?_) (fun c6 hf => ?_)
      · refine r_null dX9_liveAt_30 ?_
        exact r_aret rfl (Or.inl ⟨_, rfl⟩) dX9_liveAt_31 (by have h1 := (Option.some.inj hf); subst h1; exact hr.symm)
      · refine r_aload_n 0 dX9_liveAt_21 rfl rfl ?_
        refine r_ldR hf dX9_liveAt_22 fl_RX9_19 rfl (fun v7 ev7 hf => ?_)
        refine r_iload_n 1 dX9_liveAt_25 rfl rfl ?_
        refine r_raR hf dX9_liveAt_26 (by decide) (by decide) (fun v8 ev8 hf => ?_)
        refine r_goto 31 dX9_liveAt_27 (by decide) ?_
        exact r_aret rfl (Or.inl ⟨_, rfl⟩) dX9_liveAt_31 (by have h1 := (Option.some.inj hf); subst h1; exact hr.symm)
/-! SearchEngine.<init> -/
noncomputable def E_init_l85 (σ : Mem) (th : Nat) (x2 : Int32) : Option ((Int32 × Mem) ⊕ Mem) :=
  if (4 : Int32) ≤ x2 then
    some (Sum.inr σ)
  else
    (ldR σ 11 11 (some th)).bind fun v19 =>
    (some (nwO σ 9)).bind fun m20 =>
    (Vi_init m20 (gN σ)).bind fun v21 =>
    (waR v21 6 9 v19 x2 (some (gN σ))).bind fun m22 =>
    some (Sum.inl ((x2 + (1 : Int32)), m22))
noncomputable def E_init (σ : Mem) (th : Nat) (x1 : Int32) : Option Mem :=
  (some (nwO σ 7)).bind fun m1 =>
  Option.bind (
    if (x1 &&& (1 : Int32)) = 0 then
      some false
    else
      some true) fun q2 =>
  Option.bind (
    if (x1 &&& (2 : Int32)) = 0 then
      some false
    else
      some true) fun q4 =>
  (Sp_init m1 (gN σ) q2 q4).bind fun v6 =>
  (stR v6 11 0 (some th) (some (gN σ))).bind fun m7 =>
  (nwA m7 2 (600 : Int32)).bind fun m8 =>
  (stR m8 11 1 (some th) (some (gN m7))).bind fun m9 =>
  (nwA m9 4 (400 : Int32)).bind fun m10 =>
  (stR m10 11 3 (some th) (some (gN m9))).bind fun m11 =>
  (nwA m11 5 (16 : Int32)).bind fun m12 =>
  (stR m12 11 6 (some th) (some (gN m11))).bind fun m13 =>
  (nwA m13 4 (400 : Int32)).bind fun m14 =>
  (stR m14 11 9 (some th) (some (gN m13))).bind fun m15 =>
  (nwA m15 6 (4 : Int32)).bind fun m16 =>
  (stR m16 11 11 (some th) (some (gN m15))).bind fun m17 =>
  (lp (fun q => E_init_l85 q.2 th q.1) ((0 : Int32), m17)).bind fun z24 =>
  (some (nwO z24 0)).bind fun m25 =>
  (An_init m25 (gN z24)).bind fun v26 =>
  (stR v26 11 12 (some th) (some (gN z24))).bind fun m27 =>
  (some (nwO m27 5)).bind fun m28 =>
  (Qu_init m28 (gN m27)).bind fun v29 =>
  (stR v29 11 13 (some th) (some (gN m27))).bind fun m30 =>
  (some (nwO m30 2)).bind fun m31 =>
  (Ne_init m31 (gN m30)).bind fun v32 =>
  (stR v32 11 14 (some th) (some (gN m30))).bind fun m33 =>
  some m33
set_option maxRecDepth 100000 in
set_option maxHeartbeats 4000000 in
theorem x_E_init_l85 {Γ : W0} {σ0 : Mem} {r : RT} {th : Nat} {t : Mem} (hk0 : ∀ z : Mem, z = t → V Γ MD_E_init σ0 r z 109 [(0, va_rf (some th))] []) : ∀ q : Int32 × Mem, lp (fun q => E_init_l85 q.2 th q.1) q = some t → V Γ MD_E_init σ0 r q.2 85 [(0, va_rf (some th)), (2, .int q.1)] [] := by
  refine lp_ind (fun (q : Int32 × Mem) => V Γ MD_E_init σ0 r q.2 85 [(0, va_rf (some th)), (2, .int q.1)] []) (fun q x hf ih ho => ?_)
  obtain ⟨x2, σ⟩ := q
  show V Γ MD_E_init σ0 r σ 85 [(0, va_rf (some th)), (2, .int x2)] []
  replace hf : E_init_l85 σ th x2 = some x := hf
  unfold E_init_l85 at hf
  refine r_iload_n 1 dX11_init_85 rfl rfl ?_
  refine r_iconst (4 : Int32) dX11_init_86 (by decide) ?_
  refine r_icmp_ge 109 hf dX11_init_87 (by decide) (fun c18 hf => ?_) (fun c18 hf => ?_)
  · refine r_sub (L' := [(0, _)]) [0] rfl ?_
    exact hk0 _ (ho _ (Option.some.inj hf).symm)
  · refine r_aload_n 0 dX11_init_90 rfl rfl ?_
    refine r_ldR hf dX11_init_91 fl_RX11_39 rfl (fun v19 ev19 hf => ?_)
    refine r_iload_n 1 dX11_init_94 rfl rfl ?_
    refine r_newX hf dX11_init_95 (by decide) ww_195 ww_197 ww_97 (fun m20 em20 hf => ?_)
    refine r_dup dX11_init_98 (cat_rf _) ?_
    refine bnd hf (fun v21 ev21 hf => ?_)
    refine r_callIv dX11_init_99 cs_RX11_43 rfl rfl ww_199 (by decide) rfl (rest := [_, _, _]) rfl (Or.inl (Nat.le_of_ble_eq_true rfl)) (t_Vi_init ev21) ?_
    refine r_waR hf dX11_init_102 (by decide) (by decide) (by decide) rfl (fun m22 em22 hf => ?_)
    refine r_iinc (1 : Int32) (L' := [(2, _), (0, _)]) 1 dX11_init_103 rfl (by decide) (show 2 < 3 by decide) rfl ?_
    refine r_goto 85 dX11_init_106 (by decide) ?_
    refine r_sub (L' := [(0, _), (2, _)]) [1, 0] rfl ?_
    exact ih _ (Option.some.inj hf).symm
set_option maxRecDepth 100000 in
set_option maxHeartbeats 4000000 in
theorem t_E_init {Γ : W0} {σ : Mem} {th : Nat} {x1 : Int32} {σ' : Mem} (hf : E_init σ th x1 = some σ') : CT Γ MD_E_init yX11_init [va_rf (some th), .int x1] σ (none, σ') := by
  refine CT.of (L := [(0, va_rf (some th)), (1, .int x1)]) rfl (by decide) (fun _ => rfl) (Nat.le_of_ble_eq_true rfl) rfl ?_
  unfold E_init at hf
  generalize hr : mkR Γ σ (none) σ' = r
  refine r_aload_n 0 dX11_init_0 rfl rfl ?_
  refine r_objInit dX11_init_1 ww_114 ww_115 ww_116 (by decide) (Nat.le_of_ble_eq_true rfl) ?_
  refine r_aload_n 0 dX11_init_4 rfl rfl ?_
  refine r_newX hf dX11_init_5 (by decide) ww_117 ww_118 ww_92 (fun m1 em1 hf => ?_)
  refine r_dup dX11_init_8 (cat_rf _) ?_
  refine r_iload_n 1 dX11_init_9 rfl rfl ?_
  refine r_iconst (1 : Int32) dX11_init_10 (by decide) ?_
  refine r_iand dX11_init_11 ?_
  refine r_bd (fun (q2 : Bool) => V Γ MD_E_init σ r m1 20 [(0, va_rf (some th)), (1, .int x1)] [.int (b2i q2), va_rf (some (gN σ)), va_rf (some (gN σ)), va_rf (some th)]) hf (fun q2 hf => ?_) (fun yq2 hf kq2 => ?_)
  · refine r_iload_n 1 dX11_init_20 rfl rfl ?_
    refine r_iconst (2 : Int32) dX11_init_21 (by decide) ?_
    refine r_iand dX11_init_22 ?_
    refine r_bd (fun (q4 : Bool) => V Γ MD_E_init σ r m1 31 [(0, va_rf (some th))] [.int (b2i q4), .int (b2i q2), va_rf (some (gN σ)), va_rf (some (gN σ)), va_rf (some th)]) hf (fun q4 hf => ?_) (fun yq4 hf kq4 => ?_)
    · refine bnd hf (fun v6 ev6 hf => ?_)
      refine r_callIv dX11_init_31 cs_RX11_9 rfl rfl ww_120 (by decide) rfl (rest := [_, _]) rfl (Or.inl (Nat.le_of_ble_eq_true rfl)) (t_Sp_init ev6) ?_
      refine r_stRF hf dX11_init_34 fl_RX11_12 rfl rfl rfl rfl (fun m7 em7 hf => ?_)
      refine r_aload_n 0 dX11_init_37 rfl rfl ?_
      refine r_sipush (600 : Int32) dX11_init_38 (by decide) ?_
      refine r_newY hf dX11_init_41 ww_190 (fun m8 em8 hf => ?_)
      refine r_stRF hf dX11_init_43 fl_RX11_18 rfl rfl rfl rfl (fun m9 em9 hf => ?_)
      refine r_aload_n 0 dX11_init_46 rfl rfl ?_
      refine r_sipush (400 : Int32) dX11_init_47 (by decide) ?_
      refine r_newR hf dX11_init_50 (by decide) (by decide) rfl ww_191 (fun m10 em10 hf => ?_)
      refine r_stRF hf dX11_init_53 fl_RX11_24 rfl rfl rfl rfl (fun m11 em11 hf => ?_)
      refine r_aload_n 0 dX11_init_56 rfl rfl ?_
      refine r_bipush (16 : Int32) dX11_init_57 (by decide) ?_
      refine r_newR hf dX11_init_59 (by decide) (by decide) rfl ww_193 (fun m12 em12 hf => ?_)
      refine r_stRF hf dX11_init_62 fl_RX11_30 rfl rfl rfl rfl (fun m13 em13 hf => ?_)
      refine r_aload_n 0 dX11_init_65 rfl rfl ?_
      refine r_sipush (400 : Int32) dX11_init_66 (by decide) ?_
      refine r_newR hf dX11_init_69 (by decide) (by decide) rfl ww_191 (fun m14 em14 hf => ?_)
      refine r_stRF hf dX11_init_72 fl_RX11_34 rfl rfl rfl rfl (fun m15 em15 hf => ?_)
      refine r_aload_n 0 dX11_init_75 rfl rfl ?_
      refine r_iconst (4 : Int32) dX11_init_76 (by decide) ?_
      refine r_newR hf dX11_init_77 (by decide) (by decide) rfl ww_195 (fun m16 em16 hf => ?_)
      refine r_stRF hf dX11_init_80 fl_RX11_39 rfl rfl rfl rfl (fun m17 em17 hf => ?_)
      refine r_iconst (0 : Int32) dX11_init_83 (by decide) ?_
      refine r_istore_n (L' := [(2, _), (0, _)]) dX11_init_84 rfl (show 2 < 3 by decide) rfl ?_
      refine bnd hf (fun t23 et23 hf => ?_)
      refine r_sub (L' := [(0, _), (2, _)]) [1, 0] rfl ?_
      refine x_E_init_l85 ?_ _ et23
      · intro z24 hz24
        subst hz24
        refine r_aload_n 0 dX11_init_109 rfl rfl ?_
        refine r_newX hf dX11_init_110 (by decide) ww_232 ww_233 ww_98 (fun m25 em25 hf => ?_)
        refine r_dup dX11_init_113 (cat_rf _) ?_
        refine bnd hf (fun v26 ev26 hf => ?_)
        refine r_callIv dX11_init_114 cs_RX11_46 rfl rfl ww_235 (by decide) rfl (rest := [_, _]) rfl (Or.inl (Nat.le_of_ble_eq_true rfl)) (t_An_init ev26) ?_
        refine r_stRF hf dX11_init_117 fl_RX11_47 rfl rfl rfl rfl (fun m27 em27 hf => ?_)
        refine r_aload_n 0 dX11_init_120 rfl rfl ?_
        refine r_newX hf dX11_init_121 (by decide) ww_343 ww_239 ww_99 (fun m28 em28 hf => ?_)
        refine r_dup dX11_init_124 (cat_rf _) ?_
        refine bnd hf (fun v29 ev29 hf => ?_)
        refine r_callIv dX11_init_125 cs_RX11_53 rfl rfl ww_241 (by decide) rfl (rest := [_, _]) rfl (Or.inl (Nat.le_of_ble_eq_true rfl)) (t_Qu_init ev29) ?_
        refine r_stR hf dX11_init_128 fl_RX11_54 rfl rfl (fun m30 em30 hf => ?_)
        refine r_aload_n 0 dX11_init_131 rfl rfl ?_
        refine r_newX hf dX11_init_132 (by decide) ww_345 ww_346 ww_101 (fun m31 em31 hf => ?_)
        refine r_dup dX11_init_135 (cat_rf _) ?_
        refine bnd hf (fun v32 ev32 hf => ?_)
        refine r_callIv dX11_init_136 cs_RX11_60 rfl rfl ww_348 (by decide) rfl (rest := [_, _]) rfl (Or.inl (Nat.le_of_ble_eq_true rfl)) (t_Ne_init ev32) ?_
        refine r_stRF hf dX11_init_139 fl_RX11_61 rfl rfl rfl rfl (fun m33 em33 hf => ?_)
        exact r_vret rfl dX11_init_142 (by have h1 := (Option.some.inj hf); subst h1; exact hr.symm)
    · refine r_if_eq 30 hf dX11_init_23 (by decide) (fun c5 hf => ?_) (fun c5 hf => ?_)
      · refine r_iconst (b2i false) dX11_init_30 rfl ?_
        refine r_sub (L' := [(0, _)]) [0] rfl ?_
        cases (Option.some.inj hf)
        exact kq4
      · refine r_iconst (b2i true) dX11_init_26 rfl ?_
        refine r_goto 31 dX11_init_27 (by decide) ?_
        refine r_sub (L' := [(0, _)]) [0] rfl ?_
        cases (Option.some.inj hf)
        exact kq4
  · refine r_if_eq 19 hf dX11_init_12 (by decide) (fun c3 hf => ?_) (fun c3 hf => ?_)
    · refine r_iconst (b2i false) dX11_init_19 rfl ?_
      refine r_sub (L' := [(0, _), (1, _)]) [0, 1] rfl ?_
      cases (Option.some.inj hf)
      exact kq2
    · refine r_iconst (b2i true) dX11_init_15 rfl ?_
      refine r_goto 20 dX11_init_16 (by decide) ?_
      refine r_sub (L' := [(0, _), (1, _)]) [0, 1] rfl ?_
      cases (Option.some.inj hf)
      exact kq2
/-! SearchEngine.feed -/
noncomputable def E_feed_l35 (σ : Mem) (th : Nat) (x1 : Int64) (x3 : Int64) (x5 : Int32) (x6 : Int32) : Option ((Int32 × Mem) ⊕ Mem) :=
  if x5 ≤ x6 then
    some (Sum.inr σ)
  else
    Option.bind (
      if (8 : Int32) ≤ x6 then
        some x3
      else
        some x1) fun q6 =>
    (ldR σ 11 1 (some th)).bind fun v8 =>
    (ldI σ 11 2 (some th)).bind fun v9 =>
    (waI σ 2 v8 v9 ((((ushrL q6 ((56 : Int32) - ((8 : Int32) * (x6 &&& (7 : Int32))))).toInt32).toInt8.toInt32).toInt8.toInt32)).bind fun m10 =>
    (ldI m10 11 2 (some th)).bind fun v11 =>
    (stI m10 11 2 (some th) (v11 + (1 : Int32))).bind fun m12 =>
    some (Sum.inl ((x6 + (1 : Int32)), m12))
noncomputable def E_feed (σ : Mem) (th : Nat) (x1 : Int64) (x3 : Int64) (x5 : Int32) : Option (Int32 × Mem) :=
  if x5 < (1 : Int32) then
    some ((-2 : Int32), σ)
  else
    if x5 ≤ (16 : Int32) then
      (ldI σ 11 2 (some th)).bind fun v3 =>
      if (v3 + x5) ≤ (600 : Int32) then
        (lp (fun q => E_feed_l35 q.2 th x1 x3 x5 q.1) ((0 : Int32), σ)).bind fun z14 =>
        (ldI z14 11 2 (some th)).bind fun v15 =>
        some (v15, z14)
      else
        some ((-3 : Int32), σ)
    else
      some ((-2 : Int32), σ)
set_option maxRecDepth 100000 in
set_option maxHeartbeats 4000000 in
theorem x_E_feed_l35 {Γ : W0} {σ0 : Mem} {r : RT} {th : Nat} {x1 : Int64} {x3 : Int64} {x5 : Int32} {t : Mem} (hk0 : ∀ z : Mem, z = t → V Γ MD_E_feed σ0 r z 97 [(0, va_rf (some th))] []) : ∀ q : Int32 × Mem, lp (fun q => E_feed_l35 q.2 th x1 x3 x5 q.1) q = some t → V Γ MD_E_feed σ0 r q.2 35 [(0, va_rf (some th)), (1, .long x1), (3, .long x3), (5, .int x5), (6, .int q.1)] [] := by
  refine lp_ind (fun (q : Int32 × Mem) => V Γ MD_E_feed σ0 r q.2 35 [(0, va_rf (some th)), (1, .long x1), (3, .long x3), (5, .int x5), (6, .int q.1)] []) (fun q x hf ih ho => ?_)
  obtain ⟨x6, σ⟩ := q
  show V Γ MD_E_feed σ0 r σ 35 [(0, va_rf (some th)), (1, .long x1), (3, .long x3), (5, .int x5), (6, .int x6)] []
  replace hf : E_feed_l35 σ th x1 x3 x5 x6 = some x := hf
  unfold E_feed_l35 at hf
  refine r_iload 4 dX11_feed_35 rfl ?_
  refine r_iload 3 dX11_feed_37 rfl ?_
  refine r_icmp_ge 97 hf dX11_feed_39 (by decide) (fun c5 hf => ?_) (fun c5 hf => ?_)
  · refine r_sub (L' := [(0, _)]) [0] rfl ?_
    exact hk0 _ (ho _ (Option.some.inj hf).symm)
  · refine r_iload 4 dX11_feed_42 rfl ?_
    refine r_bipush (8 : Int32) dX11_feed_44 (by decide) ?_
    refine r_bd (fun (q6 : Int64) => V Γ MD_E_feed σ0 r σ 54 [(0, va_rf (some th)), (1, .long x1), (3, .long x3), (5, .int x5), (6, .int x6)] [.long q6]) hf (fun q6 hf => ?_) (fun yq6 hf kq6 => ?_)
    · refine r_lstore (L' := [(7, _), (0, _), (1, _), (3, _), (5, _), (6, _)]) dX11_feed_54 (show 8 < 9 by decide) rfl ?_
      refine r_aload_n 1 dX11_feed_56 rfl rfl ?_
      refine r_ldR hf dX11_feed_57 fl_RX11_18 rfl (fun v8 ev8 hf => ?_)
      refine r_aload_n 1 dX11_feed_60 rfl rfl ?_
      refine r_ldI hf dX11_feed_61 fl_RX11_65 rfl (fun v9 ev9 hf => ?_)
      refine r_lload 0 dX11_feed_64 rfl ?_
      refine r_bipush (56 : Int32) dX11_feed_66 (by decide) ?_
      refine r_bipush (8 : Int32) dX11_feed_68 (by decide) ?_
      refine r_iload 5 dX11_feed_70 rfl ?_
      refine r_bipush (7 : Int32) dX11_feed_72 (by decide) ?_
      refine r_iand dX11_feed_74 ?_
      refine r_imul dX11_feed_75 ?_
      refine r_isub dX11_feed_76 ?_
      refine r_lushr dX11_feed_77 ?_
      refine r_l2i dX11_feed_78 ?_
      refine r_i2b dX11_feed_79 ?_
      refine r_waY hf dX11_feed_80 (fun m10 em10 hf => ?_)
      refine r_aload_n 1 dX11_feed_81 rfl rfl ?_
      refine r_dup dX11_feed_82 (cat_rf _) ?_
      refine r_ldI hf dX11_feed_83 fl_RX11_65 rfl (fun v11 ev11 hf => ?_)
      refine r_iconst (1 : Int32) dX11_feed_86 (by decide) ?_
      refine r_iadd dX11_feed_87 ?_
      refine r_stI hf dX11_feed_88 fl_RX11_65 rfl rfl rfl (fun m12 em12 hf => ?_)
      refine r_iinc (1 : Int32) (L' := [(6, _), (7, _), (0, _), (1, _), (3, _), (5, _)]) 5 dX11_feed_91 rfl (by decide) (show 6 < 9 by decide) rfl ?_
      refine r_goto 35 dX11_feed_94 (by decide) ?_
      refine r_sub (L' := [(0, _), (1, _), (3, _), (5, _), (6, _)]) [2, 3, 4, 5, 0] rfl ?_
      exact ih _ (Option.some.inj hf).symm
    · refine r_icmp_ge 53 hf dX11_feed_46 (by decide) (fun c7 hf => ?_) (fun c7 hf => ?_)
      · refine r_lload_n 2 dX11_feed_53 rfl rfl ?_
        refine r_sub (L' := [(0, _), (1, _), (3, _), (5, _), (6, _)]) [0, 1, 2, 3, 4] rfl ?_
        cases (Option.some.inj hf)
        exact kq6
      · refine r_lload_n 1 dX11_feed_49 rfl rfl ?_
        refine r_goto 54 dX11_feed_50 (by decide) ?_
        refine r_sub (L' := [(0, _), (1, _), (3, _), (5, _), (6, _)]) [0, 1, 2, 3, 4] rfl ?_
        cases (Option.some.inj hf)
        exact kq6
set_option maxRecDepth 100000 in
set_option maxHeartbeats 4000000 in
theorem t_E_feed {Γ : W0} {σ : Mem} {th : Nat} {x1 : Int64} {x3 : Int64} {x5 : Int32} {v : Int32} {σ' : Mem} (hf : E_feed σ th x1 x3 x5 = some (v, σ')) : CT Γ MD_E_feed yX11_feed [va_rf (some th), .long x1, .long x3, .int x5] σ (some (.int v), σ') := by
  refine CT.of (L := [(0, va_rf (some th)), (1, .long x1), (3, .long x3), (5, .int x5)]) rfl (by decide) (fun h => Bool.noConfusion (show false = true from h)) (Nat.le_of_ble_eq_true rfl) rfl ?_
  unfold E_feed at hf
  generalize hr : mkR Γ σ (some (.int v)) σ' = r
  refine r_iload 3 dX11_feed_0 rfl ?_
  refine r_iconst (1 : Int32) dX11_feed_2 (by decide) ?_
  refine r_icmp_lt 13 hf dX11_feed_3 (by decide) (fun c1 hf => ?_) (fun c1 hf => ?_)
  · refine r_bipush (-2 : Int32) dX11_feed_13 (by decide) ?_
    exact r_iret rfl dX11_feed_15 (by obtain ⟨h1, h2⟩ := Prod.mk.inj (Option.some.inj hf); subst h1; subst h2; exact hr.symm)
  · refine r_iload 3 dX11_feed_6 rfl ?_
    refine r_bipush (16 : Int32) dX11_feed_8 (by decide) ?_
    refine r_icmp_le 16 hf dX11_feed_10 (by decide) (fun c2 hf => ?_) (fun c2 hf => ?_)
    · refine r_aload_n 0 dX11_feed_16 rfl rfl ?_
      refine r_ldI hf dX11_feed_17 fl_RX11_65 rfl (fun v3 ev3 hf => ?_)
      refine r_iload 3 dX11_feed_20 rfl ?_
      refine r_iadd dX11_feed_22 ?_
      refine r_sipush (600 : Int32) dX11_feed_23 (by decide) ?_
      refine r_icmp_le 32 hf dX11_feed_26 (by decide) (fun c4 hf => ?_) (fun c4 hf => ?_)
      · refine r_iconst (0 : Int32) dX11_feed_32 (by decide) ?_
        refine r_istore (L' := [(6, _), (0, _), (1, _), (3, _), (5, _)]) dX11_feed_33 (show 6 < 9 by decide) rfl ?_
        refine bnd hf (fun t13 et13 hf => ?_)
        refine r_sub (L' := [(0, _), (1, _), (3, _), (5, _), (6, _)]) [1, 2, 3, 4, 0] rfl ?_
        refine x_E_feed_l35 ?_ _ et13
        · intro z14 hz14
          subst hz14
          refine r_aload_n 0 dX11_feed_97 rfl rfl ?_
          refine r_ldI hf dX11_feed_98 fl_RX11_65 rfl (fun v15 ev15 hf => ?_)
          exact r_iret rfl dX11_feed_101 (by obtain ⟨h1, h2⟩ := Prod.mk.inj (Option.some.inj hf); subst h1; subst h2; exact hr.symm)
      · refine r_bipush (-3 : Int32) dX11_feed_29 (by decide) ?_
        exact r_iret rfl dX11_feed_31 (by obtain ⟨h1, h2⟩ := Prod.mk.inj (Option.some.inj hf); subst h1; subst h2; exact hr.symm)
    · refine r_bipush (-2 : Int32) dX11_feed_13 (by decide) ?_
      exact r_iret rfl dX11_feed_15 (by obtain ⟨h1, h2⟩ := Prod.mk.inj (Option.some.inj hf); subst h1; subst h2; exact hr.symm)
/-! SearchEngine.takeTape -/
noncomputable def E_takeTape (σ : Mem) (th : Nat) : Option (Int32 × Mem) :=
  (ldI σ 11 2 (some th)).bind fun v1 =>
  (stI σ 11 2 (some th) (0 : Int32)).bind fun m2 =>
  some (v1, m2)
set_option maxRecDepth 100000 in
set_option maxHeartbeats 4000000 in
theorem t_E_takeTape {Γ : W0} {σ : Mem} {th : Nat} {v : Int32} {σ' : Mem} (hf : E_takeTape σ th = some (v, σ')) : CT Γ MD_E_takeTape yX11_takeTape [va_rf (some th)] σ (some (.int v), σ') := by
  refine CT.of (L := [(0, va_rf (some th))]) rfl (by decide) (fun h => Bool.noConfusion (show false = true from h)) (Nat.le_of_ble_eq_true rfl) rfl ?_
  unfold E_takeTape at hf
  generalize hr : mkR Γ σ (some (.int v)) σ' = r
  refine r_aload_n 0 dX11_takeTape_0 rfl rfl ?_
  refine r_ldI hf dX11_takeTape_1 fl_RX11_65 rfl (fun v1 ev1 hf => ?_)
  refine r_istore_n (L' := [(1, _), (0, _)]) dX11_takeTape_4 rfl (show 1 < 2 by decide) rfl ?_
  refine r_aload_n 1 dX11_takeTape_5 rfl rfl ?_
  refine r_iconst (0 : Int32) dX11_takeTape_6 (by decide) ?_
  refine r_stI hf dX11_takeTape_7 fl_RX11_65 rfl rfl rfl (fun m2 em2 hf => ?_)
  refine r_iload_n 0 dX11_takeTape_10 rfl rfl ?_
  exact r_iret rfl dX11_takeTape_11 (by obtain ⟨h1, h2⟩ := Prod.mk.inj (Option.some.inj hf); subst h1; subst h2; exact hr.symm)
/-! SearchEngine.firstZero -/
noncomputable def E_firstZero_l2 (σ : Mem) (th : Nat) (x1 : Int32) (x2 : Int32) : Option (Int32 ⊕ (Int32 ⊕ Unit)) :=
  if x1 ≤ x2 then
    some (Sum.inr (Sum.inr ()))
  else
    if (600 : Int32) ≤ x2 then
      some (Sum.inr (Sum.inr ()))
    else
      (ldR σ 11 1 (some th)).bind fun v3 =>
      (raI σ 2 v3 x2).bind fun v4 =>
      if ¬ v4 = 0 then
        some (Sum.inl (x2 + (1 : Int32)))
      else
        some (Sum.inr (Sum.inl x2))
noncomputable def E_firstZero (σ : Mem) (th : Nat) (x1 : Int32) : Option Int32 :=
  (lp (fun q => E_firstZero_l2 σ th x1 q) (0 : Int32)).bind 
    (se (fun z7 =>
      some z7)
      (fun z8 =>
        some x1))
set_option maxRecDepth 100000 in
set_option maxHeartbeats 4000000 in
theorem x_E_firstZero_l2 {Γ : W0} {σ0 : Mem} {r : RT} {σ : Mem} {th : Nat} {x1 : Int32} {t : Int32 ⊕ Unit} (hk0 : ∀ z : Int32, (Sum.inl z) = t → V Γ MD_E_firstZero σ0 r σ 23 [(2, .int z)] []) (hk1 : ∀ z : Unit, (Sum.inr z) = t → V Γ MD_E_firstZero σ0 r σ 31 [(1, .int x1)] []) : ∀ q : Int32, lp (fun q => E_firstZero_l2 σ th x1 q) q = some t → V Γ MD_E_firstZero σ0 r σ 2 [(0, va_rf (some th)), (1, .int x1), (2, .int q)] [] := by
  refine lp_ind (fun (q : Int32) => V Γ MD_E_firstZero σ0 r σ 2 [(0, va_rf (some th)), (1, .int x1), (2, .int q)] []) (fun q x hf ih ho => ?_)
  revert hf ih
  generalize q = x2
  intro hf ih
  show V Γ MD_E_firstZero σ0 r σ 2 [(0, va_rf (some th)), (1, .int x1), (2, .int x2)] []
  replace hf : E_firstZero_l2 σ th x1 x2 = some x := hf
  unfold E_firstZero_l2 at hf
  refine r_iload_n 2 dX11_firstZero_2 rfl rfl ?_
  refine r_iload_n 1 dX11_firstZero_3 rfl rfl ?_
  refine r_icmp_ge 31 hf dX11_firstZero_4 (by decide) (fun c1 hf => ?_) (fun c1 hf => ?_)
  · refine r_sub (L' := [(1, _)]) [1] rfl ?_
    exact hk1 _ (ho _ (Option.some.inj hf).symm)
  · refine r_iload_n 2 dX11_firstZero_7 rfl rfl ?_
    refine r_sipush (600 : Int32) dX11_firstZero_8 (by decide) ?_
    refine r_icmp_ge 31 hf dX11_firstZero_11 (by decide) (fun c2 hf => ?_) (fun c2 hf => ?_)
    · refine r_sub (L' := [(1, _)]) [1] rfl ?_
      exact hk1 _ (ho _ (Option.some.inj hf).symm)
    · refine r_aload_n 0 dX11_firstZero_14 rfl rfl ?_
      refine r_ldR hf dX11_firstZero_15 fl_RX11_18 rfl (fun v3 ev3 hf => ?_)
      refine r_iload_n 2 dX11_firstZero_18 rfl rfl ?_
      refine r_raY hf dX11_firstZero_19 (fun v4 ev4 hf => ?_)
      refine r_if_ne 25 hf dX11_firstZero_20 (by decide) (fun c5 hf => ?_) (fun c5 hf => ?_)
      · refine r_iinc (1 : Int32) (L' := [(2, _), (0, _), (1, _)]) 2 dX11_firstZero_25 rfl (by decide) (show 2 < 3 by decide) rfl ?_
        refine r_goto 2 dX11_firstZero_28 (by decide) ?_
        refine r_sub (L' := [(0, _), (1, _), (2, _)]) [1, 2, 0] rfl ?_
        exact ih _ (Option.some.inj hf).symm
      · refine r_sub (L' := [(2, _)]) [2] rfl ?_
        exact hk0 _ (ho _ (Option.some.inj hf).symm)
set_option maxRecDepth 100000 in
set_option maxHeartbeats 4000000 in
theorem t_E_firstZero {Γ : W0} {σ : Mem} {th : Nat} {x1 : Int32} {v : Int32} (hf : E_firstZero σ th x1 = some v) : CT Γ MD_E_firstZero yX11_firstZero [va_rf (some th), .int x1] σ (some (.int v), σ) := by
  refine CT.of (L := [(0, va_rf (some th)), (1, .int x1)]) rfl (by decide) (fun h => Bool.noConfusion (show false = true from h)) (Nat.le_of_ble_eq_true rfl) rfl ?_
  unfold E_firstZero at hf
  generalize hr : mkR Γ σ (some (.int v)) σ = r
  refine r_iconst (0 : Int32) dX11_firstZero_0 (by decide) ?_
  refine r_istore_n (L' := [(2, _), (0, _), (1, _)]) dX11_firstZero_1 rfl (show 2 < 3 by decide) rfl ?_
  refine bnd hf (fun t6 et6 hf => ?_)
  refine r_sub (L' := [(0, _), (1, _), (2, _)]) [1, 2, 0] rfl ?_
  refine x_E_firstZero_l2 ?_ ?_ _ et6
  · intro z7 hz7
    subst hz7
    simp only [se] at hf
    refine r_iload_n 0 dX11_firstZero_23 rfl rfl ?_
    exact r_iret rfl dX11_firstZero_24 (by have h1 := (Option.some.inj hf); subst h1; exact hr.symm)
  · intro z8 hz8
    subst hz8
    simp only [se] at hf
    refine r_iload_n 0 dX11_firstZero_31 rfl rfl ?_
    exact r_iret rfl dX11_firstZero_32 (by have h1 := (Option.some.inj hf); subst h1; exact hr.symm)
/-! SearchEngine.documentAt -/
noncomputable def E_documentAt (σ : Mem) (th : Nat) (x1 : Int32) : Option (Option Nat) :=
  if x1 < 0 then
    some none
  else
    (ldI σ 11 4 (some th)).bind fun v2 =>
    if v2 ≤ x1 then
      some none
    else
      if (400 : Int32) ≤ x1 then
        some none
      else
        (ldR σ 11 3 (some th)).bind fun v5 =>
        (raR σ 4 v5 x1).bind fun v6 =>
        some v6
set_option maxRecDepth 100000 in
set_option maxHeartbeats 4000000 in
theorem t_E_documentAt {Γ : W0} {σ : Mem} {th : Nat} {x1 : Int32} {v : Option Nat} (hf : E_documentAt σ th x1 = some v) : CT Γ MD_E_documentAt yX11_documentAt [va_rf (some th), .int x1] σ (some (va_rf v), σ) := by
  refine CT.of (L := [(0, va_rf (some th)), (1, .int x1)]) rfl (by decide) (fun h => Bool.noConfusion (show false = true from h)) (Nat.le_of_ble_eq_true rfl) rfl ?_
  unfold E_documentAt at hf
  generalize hr : mkR Γ σ (some (va_rf v)) σ = r
  refine r_iload_n 1 dX11_documentAt_0 rfl rfl ?_
  refine r_if_lt 28 hf dX11_documentAt_1 (by decide) (fun c1 hf => ?_) (fun c1 hf => ?_)
  · refine r_null dX11_documentAt_28 ?_
    exact r_aret rfl (Or.inl ⟨_, rfl⟩) dX11_documentAt_29 (by have h1 := (Option.some.inj hf); subst h1; exact hr.symm)
  · refine r_iload_n 1 dX11_documentAt_4 rfl rfl ?_
    refine r_aload_n 0 dX11_documentAt_5 rfl rfl ?_
    refine r_ldI hf dX11_documentAt_6 fl_RX11_83 rfl (fun v2 ev2 hf => ?_)
    refine r_icmp_ge 28 hf dX11_documentAt_9 (by decide) (fun c3 hf => ?_) (fun c3 hf => ?_)
    · refine r_null dX11_documentAt_28 ?_
      exact r_aret rfl (Or.inl ⟨_, rfl⟩) dX11_documentAt_29 (by have h1 := (Option.some.inj hf); subst h1; exact hr.symm)
    · refine r_iload_n 1 dX11_documentAt_12 rfl rfl ?_
      refine r_sipush (400 : Int32) dX11_documentAt_13 (by decide) ?_
      refine r_icmp_ge 28 hf dX11_documentAt_16 (by decide) (fun c4 hf => ?_) (fun c4 hf => ?_)
      · refine r_null dX11_documentAt_28 ?_
        exact r_aret rfl (Or.inl ⟨_, rfl⟩) dX11_documentAt_29 (by have h1 := (Option.some.inj hf); subst h1; exact hr.symm)
      · refine r_aload_n 0 dX11_documentAt_19 rfl rfl ?_
        refine r_ldR hf dX11_documentAt_20 fl_RX11_24 rfl (fun v5 ev5 hf => ?_)
        refine r_iload_n 1 dX11_documentAt_23 rfl rfl ?_
        refine r_raR hf dX11_documentAt_24 (by decide) (by decide) (fun v6 ev6 hf => ?_)
        refine r_goto 29 dX11_documentAt_25 (by decide) ?_
        exact r_aret rfl (Or.inl ⟨_, rfl⟩) dX11_documentAt_29 (by have h1 := (Option.some.inj hf); subst h1; exact hr.symm)
/-! SearchEngine.isLive -/
noncomputable def E_isLive (σ : Mem) (x0 : Option Nat) : Option Bool :=
  if x0 = none then
    some false
  else
    (ldB σ 1 6 x0).bind fun v2 =>
    if v2 = true then
      some false
    else
      some true
set_option maxRecDepth 100000 in
set_option maxHeartbeats 4000000 in
theorem t_E_isLive {Γ : W0} {σ : Mem} {x0 : Option Nat} {v : Bool} (hf : E_isLive σ x0 = some v) : CT Γ MD_E_isLive yX11_isLive [va_rf x0] σ (some (.int (b2i v)), σ) := by
  refine CT.of (L := [(0, va_rf x0)]) rfl (by decide) (fun h => Bool.noConfusion (show false = true from h)) (by cases x0 <;> exact Nat.le_of_ble_eq_true rfl) (by cases x0 <;> rfl) ?_
  unfold E_isLive at hf
  generalize hr : mkR Γ σ (some (.int (b2i v))) σ = r
  refine r_aload_n 0 dX11_isLive_0 rfl rfl ?_
  refine r_ifnull 15 hf dX11_isLive_1 (by decide) (fun c1 hf => ?_) (fun c1 hf => ?_)
  · refine r_iconst (b2i false) dX11_isLive_15 rfl ?_
    exact r_zret rfl dX11_isLive_16 (by have h1 := (Option.some.inj hf); subst h1; exact hr.symm)
  · refine r_aload_n 0 dX11_isLive_4 rfl rfl ?_
    refine r_ldB hf dX11_isLive_5 fl_RX11_279 rfl (fun v2 ev2 hf => ?_)
    refine r_ifneZ 15 hf dX11_isLive_8 (by decide) (fun c3 hf => ?_) (fun c3 hf => ?_)
    · refine r_iconst (b2i false) dX11_isLive_15 rfl ?_
      exact r_zret rfl dX11_isLive_16 (by have h1 := (Option.some.inj hf); subst h1; exact hr.symm)
    · refine r_iconst (b2i true) dX11_isLive_11 rfl ?_
      refine r_goto 16 dX11_isLive_12 (by decide) ?_
      exact r_zret rfl dX11_isLive_16 (by have h1 := (Option.some.inj hf); subst h1; exact hr.symm)
/-! SearchEngine.drop -/
noncomputable def E_drop_l2 (σ : Mem) (th : Nat) (x1 : Int64) (x3 : Int32) : Option (Int32 ⊕ ((Option Nat) ⊕ Unit)) :=
  (ldI σ 11 4 (some th)).bind fun v1 =>
  if v1 ≤ x3 then
    some (Sum.inr (Sum.inr ()))
  else
    (chk σ 11 (some th)).bind fun a3 =>
    (E_documentAt σ a3 x3).bind fun v4 =>
    (E_isLive σ v4).bind fun v5 =>
    jn (
      if v5 = true then
        (ldL σ 1 0 v4).bind fun v8 =>
        if ¬ v8 = x1 then
          some (Sum.inr ())
        else
          some (Sum.inl (Sum.inr (Sum.inl v4)))
      else
        some (Sum.inr ())) fun q6 =>
    some (Sum.inl (x3 + (1 : Int32)))
noncomputable def E_drop (σ : Mem) (th : Nat) (x1 : Int64) : Option (Bool × Mem) :=
  (lp (fun q => E_drop_l2 σ th x1 q) (0 : Int32)).bind 
    (se (fun z11 =>
      (stB σ 1 6 z11 true).bind fun m13 =>
      some (true, m13))
      (fun z12 =>
        some (false, σ)))
set_option maxRecDepth 100000 in
set_option maxHeartbeats 4000000 in
theorem x_E_drop_l2 {Γ : W0} {σ0 : Mem} {r : RT} {σ : Mem} {th : Nat} {x1 : Int64} {t : (Option Nat) ⊕ Unit} (hk0 : ∀ z : (Option Nat), (Sum.inl z) = t → V Γ MD_E_drop σ0 r σ 35 [(4, va_rf z)] []) (hk1 : ∀ z : Unit, (Sum.inr z) = t → V Γ MD_E_drop σ0 r σ 49 [] []) : ∀ q : Int32, lp (fun q => E_drop_l2 σ th x1 q) q = some t → V Γ MD_E_drop σ0 r σ 2 [(0, va_rf (some th)), (1, .long x1), (3, .int q)] [] := by
  refine lp_ind (fun (q : Int32) => V Γ MD_E_drop σ0 r σ 2 [(0, va_rf (some th)), (1, .long x1), (3, .int q)] []) (fun q x hf ih ho => ?_)
  revert hf ih
  generalize q = x3
  intro hf ih
  show V Γ MD_E_drop σ0 r σ 2 [(0, va_rf (some th)), (1, .long x1), (3, .int x3)] []
  replace hf : E_drop_l2 σ th x1 x3 = some x := hf
  unfold E_drop_l2 at hf
  refine r_iload_n 2 dX11_drop_2 rfl rfl ?_
  refine r_aload_n 0 dX11_drop_3 rfl rfl ?_
  refine r_ldI hf dX11_drop_4 fl_RX11_83 rfl (fun v1 ev1 hf => ?_)
  refine r_icmp_ge 49 hf dX11_drop_7 (by decide) (fun c2 hf => ?_) (fun c2 hf => ?_)
  · refine r_sub (L' := []) [] rfl ?_
    exact hk1 _ (ho _ (Option.some.inj hf).symm)
  · refine r_aload_n 0 dX11_drop_10 rfl rfl ?_
    refine r_iload_n 2 dX11_drop_11 rfl rfl ?_
    refine r_chk hf (fun a3 xa3 ta3 hf => ?_)
    refine bnd hf (fun v4 ev4 hf => ?_)
    refine r_callVr (ci := 11) xa3 dX11_drop_12 cs_RX11_274 ww_447 ww_3 (by decide) ta3 (by decide) rfl (rest := []) rfl (Or.inl (Nat.le_of_ble_eq_true rfl)) (t_E_documentAt ev4) ?_
    refine r_astore (L' := [(4, _), (0, _), (1, _), (3, _)]) dX11_drop_15 (show 4 < 5 by decide) rfl ?_
    refine r_aload 0 dX11_drop_17 rfl ?_
    refine bnd hf (fun v5 ev5 hf => ?_)
    refine r_callSr dX11_drop_19 cs_RX11_275 ww_450 (by decide) rfl (rest := []) rfl (Or.inl (Nat.le_of_ble_eq_true rfl)) (t_E_isLive ev5) ?_
    refine r_jn (fun (q6 : Unit) => V Γ MD_E_drop σ0 r σ 43 [(0, va_rf (some th)), (1, .long x1), (3, .int x3)] []) hf (fun q6 hf => ?_) (fun yq6 hf oq6 kq6 => ?_)
    · refine r_iinc (1 : Int32) (L' := [(3, _), (0, _), (1, _)]) 2 dX11_drop_43 rfl (by decide) (show 3 < 5 by decide) rfl ?_
      refine r_goto 2 dX11_drop_46 (by decide) ?_
      refine r_sub (L' := [(0, _), (1, _), (3, _)]) [1, 2, 0] rfl ?_
      exact ih _ (Option.some.inj hf).symm
    · refine r_ifeqZ 43 hf dX11_drop_22 (by decide) (fun c7 hf => ?_) (fun c7 hf => ?_)
      · refine r_aload 0 dX11_drop_25 rfl ?_
        refine r_ldL hf dX11_drop_27 fl_RX11_160 rfl (fun v8 ev8 hf => ?_)
        refine r_lload_n 2 dX11_drop_30 rfl rfl ?_
        refine r_lcmp_ne 43 hf dX11_drop_31 dX11_drop_32 (by decide) (fun c9 hf => ?_) (fun c9 hf => ?_)
        · refine r_sub (L' := [(0, _), (1, _), (3, _)]) [1, 2, 3] rfl ?_
          exact kq6 _ (Option.some.inj hf).symm
        · refine r_sub (L' := [(4, _)]) [0] rfl ?_
          exact hk0 _ (ho _ (oq6 _ (Option.some.inj hf).symm).symm)
      · refine r_sub (L' := [(0, _), (1, _), (3, _)]) [1, 2, 3] rfl ?_
        exact kq6 _ (Option.some.inj hf).symm
set_option maxRecDepth 100000 in
set_option maxHeartbeats 4000000 in
theorem t_E_drop {Γ : W0} {σ : Mem} {th : Nat} {x1 : Int64} {v : Bool} {σ' : Mem} (hf : E_drop σ th x1 = some (v, σ')) : CT Γ MD_E_drop yX11_drop [va_rf (some th), .long x1] σ (some (.int (b2i v)), σ') := by
  refine CT.of (L := [(0, va_rf (some th)), (1, .long x1)]) rfl (by decide) (fun h => Bool.noConfusion (show false = true from h)) (Nat.le_of_ble_eq_true rfl) rfl ?_
  unfold E_drop at hf
  generalize hr : mkR Γ σ (some (.int (b2i v))) σ' = r
  refine r_iconst (0 : Int32) dX11_drop_0 (by decide) ?_
  refine r_istore_n (L' := [(3, _), (0, _), (1, _)]) dX11_drop_1 rfl (show 3 < 5 by decide) rfl ?_
  refine bnd hf (fun t10 et10 hf => ?_)
  refine r_sub (L' := [(0, _), (1, _), (3, _)]) [1, 2, 0] rfl ?_
  refine x_E_drop_l2 ?_ ?_ _ et10
  · intro z11 hz11
    subst hz11
    simp only [se] at hf
    refine r_aload 0 dX11_drop_35 rfl ?_
    refine r_iconst (b2i true) dX11_drop_37 rfl ?_
    refine r_stB hf dX11_drop_38 fl_RX11_279 rfl rfl (fun m13 em13 hf => ?_)
    refine r_iconst (b2i true) dX11_drop_41 rfl ?_
    exact r_zret rfl dX11_drop_42 (by obtain ⟨h1, h2⟩ := Prod.mk.inj (Option.some.inj hf); subst h1; subst h2; exact hr.symm)
  · intro z12 hz12
    subst hz12
    simp only [se] at hf
    refine r_iconst (b2i false) dX11_drop_49 rfl ?_
    exact r_zret rfl dX11_drop_50 (by obtain ⟨h1, h2⟩ := Prod.mk.inj (Option.some.inj hf); subst h1; subst h2; exact hr.symm)
/-! SearchEngine.liveInBuffer -/
noncomputable def E_liveInBuffer_l7 (σ : Mem) (th : Nat) (x1 : Int32) (x2 : Int32) : Option ((Int32 × Int32) ⊕ Int32) :=
  (ldI σ 11 4 (some th)).bind fun v2 =>
  if v2 ≤ x2 then
    some (Sum.inr x1)
  else
    (chk σ 11 (some th)).bind fun a4 =>
    (E_documentAt σ a4 x2).bind fun v5 =>
    (E_isLive σ v5).bind fun v6 =>
    Option.bind (
      if v6 = true then
        some (x1 + (1 : Int32))
      else
        some x1) fun q7 =>
    some (Sum.inl (q7, (x2 + (1 : Int32))))
noncomputable def E_liveInBuffer (σ : Mem) (th : Nat) : Option Int32 :=
  (ldI σ 11 5 (some th)).bind fun v1 =>
  (lp (fun q => E_liveInBuffer_l7 σ th q.1 q.2) ((0 : Int32), v1)).bind fun z10 =>
  some z10
set_option maxRecDepth 100000 in
set_option maxHeartbeats 4000000 in
theorem x_E_liveInBuffer_l7 {Γ : W0} {σ0 : Mem} {r : RT} {σ : Mem} {th : Nat} {t : Int32} (hk0 : ∀ z : Int32, z = t → V Γ MD_E_liveInBuffer σ0 r σ 35 [(1, .int z)] []) : ∀ q : Int32 × Int32, lp (fun q => E_liveInBuffer_l7 σ th q.1 q.2) q = some t → V Γ MD_E_liveInBuffer σ0 r σ 7 [(0, va_rf (some th)), (1, .int q.1), (2, .int q.2)] [] := by
  refine lp_ind (fun (q : Int32 × Int32) => V Γ MD_E_liveInBuffer σ0 r σ 7 [(0, va_rf (some th)), (1, .int q.1), (2, .int q.2)] []) (fun q x hf ih ho => ?_)
  obtain ⟨x1, x2⟩ := q
  show V Γ MD_E_liveInBuffer σ0 r σ 7 [(0, va_rf (some th)), (1, .int x1), (2, .int x2)] []
  replace hf : E_liveInBuffer_l7 σ th x1 x2 = some x := hf
  unfold E_liveInBuffer_l7 at hf
  refine r_iload_n 2 dX11_liveInBuffer_7 rfl rfl ?_
  refine r_aload_n 0 dX11_liveInBuffer_8 rfl rfl ?_
  refine r_ldI hf dX11_liveInBuffer_9 fl_RX11_83 rfl (fun v2 ev2 hf => ?_)
  refine r_icmp_ge 35 hf dX11_liveInBuffer_12 (by decide) (fun c3 hf => ?_) (fun c3 hf => ?_)
  · refine r_sub (L' := [(1, _)]) [1] rfl ?_
    exact hk0 _ (ho _ (Option.some.inj hf).symm)
  · refine r_aload_n 0 dX11_liveInBuffer_15 rfl rfl ?_
    refine r_iload_n 2 dX11_liveInBuffer_16 rfl rfl ?_
    refine r_chk hf (fun a4 xa4 ta4 hf => ?_)
    refine bnd hf (fun v5 ev5 hf => ?_)
    refine r_callVr (ci := 11) xa4 dX11_liveInBuffer_17 cs_RX11_274 ww_447 ww_3 (by decide) ta4 (by decide) rfl (rest := []) rfl (Or.inl (Nat.le_of_ble_eq_true rfl)) (t_E_documentAt ev5) ?_
    refine bnd hf (fun v6 ev6 hf => ?_)
    refine r_callSr dX11_liveInBuffer_20 cs_RX11_275 ww_450 (by decide) rfl (rest := []) rfl (Or.inl (Nat.le_of_ble_eq_true rfl)) (t_E_isLive ev6) ?_
    refine r_bd (fun (q7 : Int32) => V Γ MD_E_liveInBuffer σ0 r σ 29 [(0, va_rf (some th)), (1, .int q7), (2, .int x2)] []) hf (fun q7 hf => ?_) (fun yq7 hf kq7 => ?_)
    · refine r_iinc (1 : Int32) (L' := [(2, _), (0, _), (1, _)]) 2 dX11_liveInBuffer_29 rfl (by decide) (show 2 < 3 by decide) rfl ?_
      refine r_goto 7 dX11_liveInBuffer_32 (by decide) ?_
      refine r_sub (L' := [(0, _), (1, _), (2, _)]) [1, 2, 0] rfl ?_
      exact ih _ (Option.some.inj hf).symm
    · refine r_ifeqZ 29 hf dX11_liveInBuffer_23 (by decide) (fun c8 hf => ?_) (fun c8 hf => ?_)
      · refine r_iinc (1 : Int32) (L' := [(1, _), (0, _), (2, _)]) 1 dX11_liveInBuffer_26 rfl (by decide) (show 1 < 3 by decide) rfl ?_
        refine r_sub (L' := [(0, _), (1, _), (2, _)]) [1, 0, 2] rfl ?_
        cases (Option.some.inj hf)
        exact kq7
      · refine r_sub (L' := [(0, _), (1, _), (2, _)]) [0, 1, 2] rfl ?_
        cases (Option.some.inj hf)
        exact kq7
set_option maxRecDepth 100000 in
set_option maxHeartbeats 4000000 in
theorem t_E_liveInBuffer {Γ : W0} {σ : Mem} {th : Nat} {v : Int32} (hf : E_liveInBuffer σ th = some v) : CT Γ MD_E_liveInBuffer yX11_liveInBuffer [va_rf (some th)] σ (some (.int v), σ) := by
  refine CT.of (L := [(0, va_rf (some th))]) rfl (by decide) (fun h => Bool.noConfusion (show false = true from h)) (Nat.le_of_ble_eq_true rfl) rfl ?_
  unfold E_liveInBuffer at hf
  generalize hr : mkR Γ σ (some (.int v)) σ = r
  refine r_iconst (0 : Int32) dX11_liveInBuffer_0 (by decide) ?_
  refine r_istore_n (L' := [(1, _), (0, _)]) dX11_liveInBuffer_1 rfl (show 1 < 3 by decide) rfl ?_
  refine r_aload_n 1 dX11_liveInBuffer_2 rfl rfl ?_
  refine r_ldI hf dX11_liveInBuffer_3 fl_RX11_282 rfl (fun v1 ev1 hf => ?_)
  refine r_istore_n (L' := [(2, _), (1, _), (0, _)]) dX11_liveInBuffer_6 rfl (show 2 < 3 by decide) rfl ?_
  refine bnd hf (fun t9 et9 hf => ?_)
  refine r_sub (L' := [(0, _), (1, _), (2, _)]) [2, 1, 0] rfl ?_
  refine x_E_liveInBuffer_l7 ?_ _ et9
  · intro z10 hz10
    subst hz10
    refine r_iload_n 0 dX11_liveInBuffer_35 rfl rfl ?_
    exact r_iret rfl dX11_liveInBuffer_36 (by have h1 := (Option.some.inj hf); subst h1; exact hr.symm)
/-! SearchEngine.gather -/
noncomputable def E_gather (σ : Mem) (th : Nat) (x1 : Option Nat) : Option Mem :=
  (E_isLive σ x1).bind fun v1 =>
  if v1 = true then
    (ldI σ 11 10 (some th)).bind fun v3 =>
    if (400 : Int32) ≤ v3 then
      some σ
    else
      (ldR σ 11 9 (some th)).bind fun v5 =>
      (ldI σ 11 10 (some th)).bind fun v6 =>
      (waR σ 4 1 v5 v6 x1).bind fun m7 =>
      (ldI m7 11 10 (some th)).bind fun v8 =>
      (stI m7 11 10 (some th) (v8 + (1 : Int32))).bind fun m9 =>
      some m9
  else
    some σ
set_option maxRecDepth 100000 in
set_option maxHeartbeats 4000000 in
theorem t_E_gather {Γ : W0} {σ : Mem} {th : Nat} {x1 : Option Nat} {σ' : Mem} (hf : E_gather σ th x1 = some σ') : CT Γ MD_E_gather yX11_gather [va_rf (some th), va_rf x1] σ (none, σ') := by
  refine CT.of (L := [(0, va_rf (some th)), (1, va_rf x1)]) rfl (by decide) (fun h => Bool.noConfusion (show false = true from h)) (by cases x1 <;> exact Nat.le_of_ble_eq_true rfl) (by cases x1 <;> rfl) ?_
  unfold E_gather at hf
  generalize hr : mkR Γ σ (none) σ' = r
  refine r_aload_n 1 dX11_gather_0 rfl rfl ?_
  refine bnd hf (fun v1 ev1 hf => ?_)
  refine r_callSr dX11_gather_1 cs_RX11_275 ww_450 (by decide) rfl (rest := []) rfl (Or.inl (Nat.le_of_ble_eq_true rfl)) (t_E_isLive ev1) ?_
  refine r_ifeqZ 37 hf dX11_gather_4 (by decide) (fun c2 hf => ?_) (fun c2 hf => ?_)
  · refine r_aload_n 0 dX11_gather_7 rfl rfl ?_
    refine r_ldI hf dX11_gather_8 fl_RX11_285 rfl (fun v3 ev3 hf => ?_)
    refine r_sipush (400 : Int32) dX11_gather_11 (by decide) ?_
    refine r_icmp_ge 37 hf dX11_gather_14 (by decide) (fun c4 hf => ?_) (fun c4 hf => ?_)
    · exact r_vret rfl dX11_gather_37 (by have h1 := (Option.some.inj hf); subst h1; exact hr.symm)
    · refine r_aload_n 0 dX11_gather_17 rfl rfl ?_
      refine r_ldR hf dX11_gather_18 fl_RX11_34 rfl (fun v5 ev5 hf => ?_)
      refine r_aload_n 0 dX11_gather_21 rfl rfl ?_
      refine r_ldI hf dX11_gather_22 fl_RX11_285 rfl (fun v6 ev6 hf => ?_)
      refine r_aload_n 1 dX11_gather_25 rfl rfl ?_
      refine r_waR hf dX11_gather_26 (by decide) (by decide) (by decide) rfl (fun m7 em7 hf => ?_)
      refine r_aload_n 0 dX11_gather_27 rfl rfl ?_
      refine r_dup dX11_gather_28 (cat_rf _) ?_
      refine r_ldI hf dX11_gather_29 fl_RX11_285 rfl (fun v8 ev8 hf => ?_)
      refine r_iconst (1 : Int32) dX11_gather_32 (by decide) ?_
      refine r_iadd dX11_gather_33 ?_
      refine r_stI hf dX11_gather_34 fl_RX11_285 rfl rfl rfl (fun m9 em9 hf => ?_)
      exact r_vret rfl dX11_gather_37 (by have h1 := (Option.some.inj hf); subst h1; exact hr.symm)
  · exact r_vret rfl dX11_gather_37 (by have h1 := (Option.some.inj hf); subst h1; exact hr.symm)
