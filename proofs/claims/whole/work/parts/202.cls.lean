/-! methods as functions, with their walks (by program) -/
/-! SearchEngine$Neighbour.lookIn -/
noncomputable def Ne_lookIn_l46 (σ : Mem) (th : Nat) (x1 : Option Nat) (x4 : Int32) (x5 : Option Nat) (x6 : Int32) : Option ((Int32 × Mem) ⊕ Mem) :=
  if x5 = none then
    some (Sum.inr σ)
  else
    (chk σ 10 x5).bind fun a11 =>
    (Vo_size σ a11).bind fun v12 =>
    if v12 ≤ x6 then
      some (Sum.inr σ)
    else
      (chk σ 10 x5).bind fun a14 =>
      (Vo_termAt σ a14 x6).bind fun v15 =>
      (chk σ 2 (some th)).bind fun a16 =>
      (Ne_compare σ a16 v15 x1).bind fun v17 =>
      some (Sum.inl ((x6 + (1 : Int32)), v17))
noncomputable def Ne_lookIn_l25 (σ : Mem) (th : Nat) (x1 : Option Nat) (x4 : Int32) : Option ((Int32 × Mem) ⊕ Mem) :=
  (ldI σ 9 2 x1).bind fun v6 =>
  if v6 ≤ x4 then
    some (Sum.inr σ)
  else
    (chk σ 9 x1).bind fun a8 =>
    (Vi_termsOf σ a8 x4 (1 : Int32)).bind fun v9 =>
    (lp (fun q => Ne_lookIn_l46 q.2 th x1 x4 v9 q.1) ((0 : Int32), σ)).bind fun z19 =>
    some (Sum.inl ((x4 + (1 : Int32)), z19))
noncomputable def Ne_lookIn (σ : Mem) (th : Nat) (x1 : Option Nat) (x2 : Option Nat) (x3 : Int32) : Option (Int32 × Mem) :=
  (Sp_leastBeginning σ x2 (0 : Int32) x3).bind fun v1 =>
  (ldR σ 2 4 (some th)).bind fun v2 =>
  (Ne_spell σ v1 v2).bind fun v3 =>
  (stI v3.2 2 5 (some th) v3.1).bind fun m4 =>
  (stI m4 2 1 (some th) (3 : Int32)).bind fun m5 =>
  (lp (fun q => Ne_lookIn_l25 q.2 th x1 q.1) ((0 : Int32), m5)).bind fun z21 =>
  (ldI z21 2 1 (some th)).bind fun v22 =>
  if v22 ≤ (2 : Int32) then
    (ldL z21 2 3 (some th)).bind fun v24 =>
    (stL z21 2 0 (some th) v24).bind fun m25 =>
    (ldI m25 2 1 (some th)).bind fun v26 =>
    some (v26, m25)
  else
    some ((-1 : Int32), z21)
set_option maxRecDepth 100000 in
set_option maxHeartbeats 4000000 in
theorem x_Ne_lookIn_l46 {Γ : W0} {σ0 : Mem} {r : RT} {th : Nat} {x1 : Option Nat} {x4 : Int32} {x5 : Option Nat} {t : Mem} (hk0 : ∀ z : Mem, z = t → V Γ MD_Ne_lookIn σ0 r z 79 [(0, va_rf (some th)), (1, va_rf x1), (4, .int x4)] []) : ∀ q : Int32 × Mem, lp (fun q => Ne_lookIn_l46 q.2 th x1 x4 x5 q.1) q = some t → V Γ MD_Ne_lookIn σ0 r q.2 46 [(0, va_rf (some th)), (1, va_rf x1), (4, .int x4), (5, va_rf x5), (6, .int q.1)] [] := by
  refine lp_ind (fun (q : Int32 × Mem) => V Γ MD_Ne_lookIn σ0 r q.2 46 [(0, va_rf (some th)), (1, va_rf x1), (4, .int x4), (5, va_rf x5), (6, .int q.1)] []) (fun q x hf ih ho => ?_)
  obtain ⟨x6, σ⟩ := q
  show V Γ MD_Ne_lookIn σ0 r σ 46 [(0, va_rf (some th)), (1, va_rf x1), (4, .int x4), (5, va_rf x5), (6, .int x6)] []
  replace hf : Ne_lookIn_l46 σ th x1 x4 x5 x6 = some x := hf
  unfold Ne_lookIn_l46 at hf
  refine r_aload 3 dX2_lookIn_46 rfl ?_
  refine r_ifnull 79 hf dX2_lookIn_48 (by decide) (fun c10 hf => ?_) (fun c10 hf => ?_)
  · refine r_sub (L' := [(0, _), (1, _), (4, _)]) [0, 1, 2] rfl ?_
    exact hk0 _ (ho _ (Option.some.inj hf).symm)
  · refine r_iload 4 dX2_lookIn_51 rfl ?_
    refine r_aload 3 dX2_lookIn_53 rfl ?_
    refine r_chk hf (fun a11 xa11 ta11 hf => ?_)
    refine bnd hf (fun v12 ev12 hf => ?_)
    refine r_callVr (ci := 10) xa11 dX2_lookIn_55 cs_RX2_47 ww_591 ww_592 (by decide) ta11 (by decide) rfl (rest := [_]) rfl (Or.inl (Nat.le_of_ble_eq_true rfl)) (t_Vo_size ev12) ?_
    refine r_icmp_ge 79 hf dX2_lookIn_58 (by decide) (fun c13 hf => ?_) (fun c13 hf => ?_)
    · refine r_sub (L' := [(0, _), (1, _), (4, _)]) [0, 1, 2] rfl ?_
      exact hk0 _ (ho _ (Option.some.inj hf).symm)
    · refine r_aload_n 0 dX2_lookIn_61 rfl rfl ?_
      refine r_aload 3 dX2_lookIn_62 rfl ?_
      refine r_iload 4 dX2_lookIn_64 rfl ?_
      refine r_chk hf (fun a14 xa14 ta14 hf => ?_)
      refine bnd hf (fun v15 ev15 hf => ?_)
      refine r_callVr (ci := 10) xa14 dX2_lookIn_66 cs_RX2_53 ww_595 ww_596 (by decide) ta14 (by decide) rfl (rest := [_]) rfl (Or.inl (Nat.le_of_ble_eq_true rfl)) (t_Vo_termAt ev15) ?_
      refine r_aload_n 1 dX2_lookIn_69 rfl rfl ?_
      refine r_chk hf (fun a16 xa16 ta16 hf => ?_)
      refine bnd hf (fun v17 ev17 hf => ?_)
      refine r_callVv (ci := 2) xa16 dX2_lookIn_70 cs_RX2_57 ww_979 ww_35 (by decide) ta16 (by decide) rfl (rest := []) rfl (Or.inl (Nat.le_of_ble_eq_true rfl)) (t_Ne_compare ev17) ?_
      refine r_iinc (1 : Int32) (L' := [(6, .int (x6 + (1 : Int32))), (0, va_rf (some th)), (1, va_rf x1), (4, .int x4), (5, va_rf x5)]) 4 dX2_lookIn_73 rfl (by decide) (show 6 < 7 by decide) (by simp [List.filter, cat_rf, cat_i, cat_l]) ?_
      refine r_goto 46 dX2_lookIn_76 (by decide) ?_
      refine r_sub (L' := [(0, _), (1, _), (4, _), (5, _), (6, _)]) [1, 2, 3, 4, 0] rfl ?_
      exact ih _ (Option.some.inj hf).symm
set_option maxRecDepth 100000 in
set_option maxHeartbeats 4000000 in
theorem x_Ne_lookIn_l25 {Γ : W0} {σ0 : Mem} {r : RT} {th : Nat} {x1 : Option Nat} {t : Mem} (hk0 : ∀ z : Mem, z = t → V Γ MD_Ne_lookIn σ0 r z 85 [(0, va_rf (some th))] []) : ∀ q : Int32 × Mem, lp (fun q => Ne_lookIn_l25 q.2 th x1 q.1) q = some t → V Γ MD_Ne_lookIn σ0 r q.2 25 [(0, va_rf (some th)), (1, va_rf x1), (4, .int q.1)] [] := by
  refine lp_ind (fun (q : Int32 × Mem) => V Γ MD_Ne_lookIn σ0 r q.2 25 [(0, va_rf (some th)), (1, va_rf x1), (4, .int q.1)] []) (fun q x hf ih ho => ?_)
  obtain ⟨x4, σ⟩ := q
  show V Γ MD_Ne_lookIn σ0 r σ 25 [(0, va_rf (some th)), (1, va_rf x1), (4, .int x4)] []
  replace hf : Ne_lookIn_l25 σ th x1 x4 = some x := hf
  unfold Ne_lookIn_l25 at hf
  refine r_iload 2 dX2_lookIn_25 rfl ?_
  refine r_aload_n 1 dX2_lookIn_27 rfl rfl ?_
  refine r_ldI hf dX2_lookIn_28 fl_RX2_38 rfl (fun v6 ev6 hf => ?_)
  refine r_icmp_ge 85 hf dX2_lookIn_31 (by decide) (fun c7 hf => ?_) (fun c7 hf => ?_)
  · refine r_sub (L' := [(0, _)]) [0] rfl ?_
    exact hk0 _ (ho _ (Option.some.inj hf).symm)
  · refine r_aload_n 1 dX2_lookIn_34 rfl rfl ?_
    refine r_iload 2 dX2_lookIn_35 rfl ?_
    refine r_iconst (1 : Int32) dX2_lookIn_37 (by decide) ?_
    refine r_chk hf (fun a8 xa8 ta8 hf => ?_)
    refine bnd hf (fun v9 ev9 hf => ?_)
    refine r_callVr (ci := 9) xa8 dX2_lookIn_38 cs_RX2_43 ww_798 ww_799 (by decide) ta8 (by decide) rfl (rest := []) rfl (Or.inl (Nat.le_of_ble_eq_true rfl)) (t_Vi_termsOf ev9) ?_
    refine r_astore (L' := [(5, _), (0, _), (1, _), (4, _)]) dX2_lookIn_41 (show 5 < 7 by decide) rfl ?_
    refine r_iconst (0 : Int32) dX2_lookIn_43 (by decide) ?_
    refine r_istore (i := 6) (L' := [(6, .int (0 : Int32)), (5, va_rf v9), (0, va_rf (some th)), (1, va_rf x1), (4, .int x4)]) dX2_lookIn_44 (show 6 < 7 by decide) (by simp [List.filter, cat_rf, cat_i, cat_l]) ?_
    refine bnd hf (fun t18 et18 hf => ?_)
    refine r_sub (L' := [(0, _), (1, _), (4, _), (5, _), (6, _)]) [2, 3, 4, 1, 0] rfl ?_
    refine x_Ne_lookIn_l46 ?_ _ et18
    · intro z19 hz19
      subst hz19
      refine r_iinc (1 : Int32) (L' := [(4, _), (0, _), (1, _)]) 2 dX2_lookIn_79 rfl (by decide) (show 4 < 7 by decide) rfl ?_
      refine r_goto 25 dX2_lookIn_82 (by decide) ?_
      refine r_sub (L' := [(0, _), (1, _), (4, _)]) [1, 2, 0] rfl ?_
      exact ih _ (Option.some.inj hf).symm
set_option maxRecDepth 100000 in
set_option maxHeartbeats 4000000 in
theorem t_Ne_lookIn {Γ : W0} {σ : Mem} {th : Nat} {x1 : Option Nat} {x2 : Option Nat} {x3 : Int32} {v : Int32} {σ' : Mem} (hf : Ne_lookIn σ th x1 x2 x3 = some (v, σ')) : CT Γ MD_Ne_lookIn yX2_lookIn [va_rf (some th), va_rf x1, va_rf x2, .int x3] σ (some (.int v), σ') := by
  refine CT.of (L := [(0, va_rf (some th)), (1, va_rf x1), (2, va_rf x2), (3, .int x3)]) rfl (by decide) (fun h => Bool.noConfusion (show false = true from h)) (by cases x1 <;> cases x2 <;> exact Nat.le_of_ble_eq_true rfl) (by cases x1 <;> cases x2 <;> rfl) ?_
  unfold Ne_lookIn at hf
  generalize hr : mkR Γ σ (some (.int v)) σ' = r
  refine r_aload_n 0 dX2_lookIn_0 rfl rfl ?_
  refine r_aload_n 2 dX2_lookIn_1 rfl rfl ?_
  refine r_iconst (0 : Int32) dX2_lookIn_2 (by decide) ?_
  refine r_iload_n 3 dX2_lookIn_3 rfl rfl ?_
  refine bnd hf (fun v1 ev1 hf => ?_)
  refine r_callSr dX2_lookIn_4 cs_RX2_23 ww_768 (by decide) rfl (rest := [_]) rfl (Or.inl (Nat.le_of_ble_eq_true rfl)) (t_Sp_leastBeginning ev1) ?_
  refine r_aload_n 0 dX2_lookIn_7 rfl rfl ?_
  refine r_ldR hf dX2_lookIn_8 fl_RX2_11 rfl (fun v2 ev2 hf => ?_)
  refine bnd hf (fun v3 ev3 hf => ?_)
  refine r_callSr dX2_lookIn_11 cs_RX2_27 ww_970 (by decide) rfl (rest := [_]) rfl (Or.inl (Nat.le_of_ble_eq_true rfl)) (t_Ne_spell ev3) ?_
  refine r_stI hf dX2_lookIn_14 fl_RX2_31 rfl rfl rfl (fun m4 em4 hf => ?_)
  refine r_aload_n 0 dX2_lookIn_17 rfl rfl ?_
  refine r_iconst (3 : Int32) dX2_lookIn_18 (by decide) ?_
  refine r_stI hf dX2_lookIn_19 fl_RX2_35 rfl rfl rfl (fun m5 em5 hf => ?_)
  refine r_iconst (0 : Int32) dX2_lookIn_22 (by decide) ?_
  refine r_istore (L' := [(4, _), (0, _), (1, _), (2, _), (3, _)]) dX2_lookIn_23 (show 4 < 7 by decide) rfl ?_
  refine bnd hf (fun t20 et20 hf => ?_)
  refine r_sub (L' := [(0, _), (1, _), (4, _)]) [1, 2, 0] rfl ?_
  refine x_Ne_lookIn_l25 ?_ _ et20
  · intro z21 hz21
    subst hz21
    refine r_aload_n 0 dX2_lookIn_85 rfl rfl ?_
    refine r_ldI hf dX2_lookIn_86 fl_RX2_35 rfl (fun v22 ev22 hf => ?_)
    refine r_iconst (2 : Int32) dX2_lookIn_89 (by decide) ?_
    refine r_icmp_le 95 hf dX2_lookIn_90 (by decide) (fun c23 hf => ?_) (fun c23 hf => ?_)
    · refine r_aload_n 0 dX2_lookIn_95 rfl rfl ?_
      refine r_aload_n 0 dX2_lookIn_96 rfl rfl ?_
      refine r_ldL hf dX2_lookIn_97 fl_RX2_61 rfl (fun v24 ev24 hf => ?_)
      refine r_stL hf dX2_lookIn_100 fl_RX2_65 rfl rfl (fun m25 em25 hf => ?_)
      refine r_aload_n 0 dX2_lookIn_103 rfl rfl ?_
      refine r_ldI hf dX2_lookIn_104 fl_RX2_35 rfl (fun v26 ev26 hf => ?_)
      exact r_iret rfl dX2_lookIn_107 (by obtain ⟨h1, h2⟩ := Prod.mk.inj (Option.some.inj hf); subst h1; subst h2; exact hr.symm)
    · refine r_iconst (-1 : Int32) dX2_lookIn_93 (by decide) ?_
      exact r_iret rfl dX2_lookIn_94 (by obtain ⟨h1, h2⟩ := Prod.mk.inj (Option.some.inj hf); subst h1; subst h2; exact hr.symm)
/-! SearchEngine$Speller.byteOf -/
noncomputable def Sp_byteOf (x0 : Int32) : Option Int32 :=
  if x0 < (11 : Int32) then
    some (((48 : Int32) + x0) - (1 : Int32))
  else
    some (((97 : Int32) + x0) - (11 : Int32))
set_option maxRecDepth 100000 in
set_option maxHeartbeats 4000000 in
theorem t_Sp_byteOf {Γ : W0} {σ : Mem} {x0 : Int32} {v : Int32} (hf : Sp_byteOf x0 = some v) : CT Γ MD_Sp_byteOf yX7_byteOf [.int x0] σ (some (.int v), σ) := by
  refine CT.of (L := [(0, .int x0)]) rfl (by decide) (fun h => Bool.noConfusion (show false = true from h)) (Nat.le_of_ble_eq_true rfl) rfl ?_
  unfold Sp_byteOf at hf
  generalize hr : mkR Γ σ (some (.int v)) σ = r
  refine r_iload_n 0 dX7_byteOf_0 rfl rfl ?_
  refine r_bipush (11 : Int32) dX7_byteOf_1 (by decide) ?_
  refine r_icmp_lt 16 hf dX7_byteOf_3 (by decide) (fun c1 hf => ?_) (fun c1 hf => ?_)
  · refine r_bipush (48 : Int32) dX7_byteOf_16 (by decide) ?_
    refine r_iload_n 0 dX7_byteOf_18 rfl rfl ?_
    refine r_iadd dX7_byteOf_19 ?_
    refine r_iconst (1 : Int32) dX7_byteOf_20 (by decide) ?_
    refine r_isub dX7_byteOf_21 ?_
    exact r_iret rfl dX7_byteOf_22 (by have h1 := (Option.some.inj hf); subst h1; exact hr.symm)
  · refine r_bipush (97 : Int32) dX7_byteOf_6 (by decide) ?_
    refine r_iload_n 0 dX7_byteOf_8 rfl rfl ?_
    refine r_iadd dX7_byteOf_9 ?_
    refine r_bipush (11 : Int32) dX7_byteOf_10 (by decide) ?_
    refine r_isub dX7_byteOf_12 ?_
    refine r_goto 22 dX7_byteOf_13 (by decide) ?_
    exact r_iret rfl dX7_byteOf_22 (by have h1 := (Option.some.inj hf); subst h1; exact hr.symm)
/-! SearchEngine$Neighbour.byteAt -/
noncomputable def Ne_byteAt (σ : Mem) (th : Nat) (x1 : Int32) : Option (Int32 × Mem) :=
  (ldL σ 2 0 (some th)).bind fun v1 =>
  (ldR σ 2 6 (some th)).bind fun v2 =>
  (Ne_spell σ v1 v2).bind fun v3 =>
  if v3.1 = 0 then
    some ((-1 : Int32), v3.2)
  else
    if x1 < (-1 : Int32) then
      some ((-1 : Int32), v3.2)
    else
      if x1 < v3.1 then
        if ¬ x1 = (-1 : Int32) then
          (ldR v3.2 2 6 (some th)).bind fun v8 =>
          (raI v3.2 0 v8 x1).bind fun v9 =>
          (Sp_byteOf v9).bind fun v10 =>
          some (v10, v3.2)
        else
          some (v3.1, v3.2)
      else
        some ((-1 : Int32), v3.2)
set_option maxRecDepth 100000 in
set_option maxHeartbeats 4000000 in
theorem t_Ne_byteAt {Γ : W0} {σ : Mem} {th : Nat} {x1 : Int32} {v : Int32} {σ' : Mem} (hf : Ne_byteAt σ th x1 = some (v, σ')) : CT Γ MD_Ne_byteAt yX2_byteAt [va_rf (some th), .int x1] σ (some (.int v), σ') := by
  refine CT.of (L := [(0, va_rf (some th)), (1, .int x1)]) rfl (by decide) (fun h => Bool.noConfusion (show false = true from h)) (Nat.le_of_ble_eq_true rfl) rfl ?_
  unfold Ne_byteAt at hf
  generalize hr : mkR Γ σ (some (.int v)) σ' = r
  refine r_aload_n 0 dX2_byteAt_0 rfl rfl ?_
  refine r_ldL hf dX2_byteAt_1 fl_RX2_65 rfl (fun v1 ev1 hf => ?_)
  refine r_aload_n 0 dX2_byteAt_4 rfl rfl ?_
  refine r_ldR hf dX2_byteAt_5 fl_RX2_17 rfl (fun v2 ev2 hf => ?_)
  refine bnd hf (fun v3 ev3 hf => ?_)
  refine r_callSr dX2_byteAt_8 cs_RX2_27 ww_970 (by decide) rfl (rest := []) rfl (Or.inl (Nat.le_of_ble_eq_true rfl)) (t_Ne_spell ev3) ?_
  refine r_istore_n (L' := [(2, _), (0, _), (1, _)]) dX2_byteAt_11 rfl (show 2 < 3 by decide) rfl ?_
  refine r_iload_n 0 dX2_byteAt_12 rfl rfl ?_
  refine r_if_eq 26 hf dX2_byteAt_13 (by decide) (fun c4 hf => ?_) (fun c4 hf => ?_)
  · refine r_iconst (-1 : Int32) dX2_byteAt_26 (by decide) ?_
    exact r_iret rfl dX2_byteAt_27 (by obtain ⟨h1, h2⟩ := Prod.mk.inj (Option.some.inj hf); subst h1; subst h2; exact hr.symm)
  · refine r_iload_n 2 dX2_byteAt_16 rfl rfl ?_
    refine r_iconst (-1 : Int32) dX2_byteAt_17 (by decide) ?_
    refine r_icmp_lt 26 hf dX2_byteAt_18 (by decide) (fun c5 hf => ?_) (fun c5 hf => ?_)
    · refine r_iconst (-1 : Int32) dX2_byteAt_26 (by decide) ?_
      exact r_iret rfl dX2_byteAt_27 (by obtain ⟨h1, h2⟩ := Prod.mk.inj (Option.some.inj hf); subst h1; subst h2; exact hr.symm)
    · refine r_iload_n 2 dX2_byteAt_21 rfl rfl ?_
      refine r_iload_n 0 dX2_byteAt_22 rfl rfl ?_
      refine r_icmp_lt 28 hf dX2_byteAt_23 (by decide) (fun c6 hf => ?_) (fun c6 hf => ?_)
      · refine r_iload_n 2 dX2_byteAt_28 rfl rfl ?_
        refine r_iconst (-1 : Int32) dX2_byteAt_29 (by decide) ?_
        refine r_icmp_ne 37 hf dX2_byteAt_30 (by decide) (fun c7 hf => ?_) (fun c7 hf => ?_)
        · refine r_aload_n 1 dX2_byteAt_37 rfl rfl ?_
          refine r_ldR hf dX2_byteAt_38 fl_RX2_17 rfl (fun v8 ev8 hf => ?_)
          refine r_iload_n 2 dX2_byteAt_41 rfl rfl ?_
          refine r_raI hf dX2_byteAt_42 (fun v9 ev9 hf => ?_)
          refine bnd hf (fun v10 ev10 hf => ?_)
          refine r_callSr dX2_byteAt_43 cs_RX2_91 ww_998 (by decide) rfl (rest := []) rfl (Or.inl (Nat.le_of_ble_eq_true rfl)) (t_Sp_byteOf ev10) ?_
          exact r_iret rfl dX2_byteAt_46 (by obtain ⟨h1, h2⟩ := Prod.mk.inj (Option.some.inj hf); subst h1; subst h2; exact hr.symm)
        · refine r_iload_n 0 dX2_byteAt_33 rfl rfl ?_
          refine r_goto 46 dX2_byteAt_34 (by decide) ?_
          exact r_iret rfl dX2_byteAt_46 (by obtain ⟨h1, h2⟩ := Prod.mk.inj (Option.some.inj hf); subst h1; subst h2; exact hr.symm)
      · refine r_iconst (-1 : Int32) dX2_byteAt_26 (by decide) ?_
        exact r_iret rfl dX2_byteAt_27 (by obtain ⟨h1, h2⟩ := Prod.mk.inj (Option.some.inj hf); subst h1; subst h2; exact hr.symm)
/-! SearchEngine$Parser.<init> -/
noncomputable def Ps_init (σ : Mem) (th : Nat) (x1 : Option Nat) (x2 : Int32) (x3 : Option Nat) (x4 : Option Nat) : Option Mem :=
  (stR σ 3 0 (some th) x1).bind fun m1 =>
  (alen m1 2 x1).bind fun v2 =>
  (stI m1 3 1 (some th) (minI x2 v2)).bind fun m3 =>
  (stR m3 3 2 (some th) x3).bind fun m4 =>
  (stR m4 3 3 (some th) x4).bind fun m5 =>
  some m5
set_option maxRecDepth 100000 in
set_option maxHeartbeats 4000000 in
theorem t_Ps_init {Γ : W0} {σ : Mem} {th : Nat} {x1 : Option Nat} {x2 : Int32} {x3 : Option Nat} {x4 : Option Nat} {σ' : Mem} (hf : Ps_init σ th x1 x2 x3 x4 = some σ') : CT Γ MD_Ps_init yX3_init [va_rf (some th), va_rf x1, .int x2, va_rf x3, va_rf x4] σ (none, σ') := by
  refine CT.of (L := [(0, va_rf (some th)), (1, va_rf x1), (2, .int x2), (3, va_rf x3), (4, va_rf x4)]) rfl (by decide) (fun _ => rfl) (by cases x1 <;> cases x3 <;> cases x4 <;> exact Nat.le_of_ble_eq_true rfl) (by cases x1 <;> cases x3 <;> cases x4 <;> rfl) ?_
  unfold Ps_init at hf
  generalize hr : mkR Γ σ (none) σ' = r
  refine r_aload_n 0 dX3_init_0 rfl rfl ?_
  refine r_objInit dX3_init_1 ww_675 ww_115 ww_116 (by decide) (Nat.le_of_ble_eq_true rfl) ?_
  refine r_aload_n 0 dX3_init_4 rfl rfl ?_
  refine r_aload_n 1 dX3_init_5 rfl rfl ?_
  refine r_stRF hf dX3_init_6 fl_RX3_9 rfl rfl rfl rfl (fun m1 em1 hf => ?_)
  refine r_aload_n 0 dX3_init_9 rfl rfl ?_
  refine r_iload_n 2 dX3_init_10 rfl rfl ?_
  refine r_aload_n 1 dX3_init_11 rfl rfl ?_
  refine r_alen hf dX3_init_12 (by decide) (fun v2 ev2 hf => ?_)
  refine r_mmin dX3_init_13 ww_676 ww_439 ww_103 ww_440 (by decide) (Nat.le_of_ble_eq_true rfl) ?_
  refine r_stIF hf dX3_init_16 fl_RX3_21 rfl rfl rfl rfl rfl (fun m3 em3 hf => ?_)
  refine r_aload_n 0 dX3_init_19 rfl rfl ?_
  refine r_aload_n 3 dX3_init_20 rfl rfl ?_
  refine r_stRF hf dX3_init_21 fl_RX3_25 rfl rfl rfl rfl (fun m4 em4 hf => ?_)
  refine r_aload_n 0 dX3_init_24 rfl rfl ?_
  refine r_aload 4 dX3_init_25 rfl ?_
  refine r_stRF hf dX3_init_27 fl_RX3_29 rfl rfl rfl rfl (fun m5 em5 hf => ?_)
  exact r_vret rfl dX3_init_30 (by have h1 := (Option.some.inj hf); subst h1; exact hr.symm)
/-! SearchEngine$Speller.wordEnd -/
noncomputable def Sp_wordEnd_l2 (σ : Mem) (x0 : Option Nat) (x2 : Int32) (x3 : Int32) : Option (Int32 ⊕ Int32) :=
  if x3 < 0 then
    some (Sum.inr x3)
  else
    if x2 ≤ x3 then
      some (Sum.inr x3)
    else
      (alen σ 2 x0).bind fun v3 =>
      if v3 ≤ x3 then
        some (Sum.inr x3)
      else
        (raI σ 2 x0 x3).bind fun v5 =>
        (Sp_signOf v5).bind fun v6 =>
        if v6 = 0 then
          some (Sum.inr x3)
        else
          some (Sum.inl (x3 + (1 : Int32)))
noncomputable def Sp_wordEnd (σ : Mem) (x0 : Option Nat) (x1 : Int32) (x2 : Int32) : Option Int32 :=
  (lp (fun q => Sp_wordEnd_l2 σ x0 x2 q) x1).bind fun z9 =>
  some z9
set_option maxRecDepth 100000 in
set_option maxHeartbeats 4000000 in
theorem x_Sp_wordEnd_l2 {Γ : W0} {σ0 : Mem} {r : RT} {σ : Mem} {x0 : Option Nat} {x2 : Int32} {t : Int32} (hk0 : ∀ z : Int32, z = t → V Γ MD_Sp_wordEnd σ0 r σ 32 [(3, .int z)] []) : ∀ q : Int32, lp (fun q => Sp_wordEnd_l2 σ x0 x2 q) q = some t → V Γ MD_Sp_wordEnd σ0 r σ 2 [(0, va_rf x0), (2, .int x2), (3, .int q)] [] := by
  refine lp_ind (fun (q : Int32) => V Γ MD_Sp_wordEnd σ0 r σ 2 [(0, va_rf x0), (2, .int x2), (3, .int q)] []) (fun q x hf ih ho => ?_)
  revert hf ih
  generalize q = x3
  intro hf ih
  show V Γ MD_Sp_wordEnd σ0 r σ 2 [(0, va_rf x0), (2, .int x2), (3, .int x3)] []
  replace hf : Sp_wordEnd_l2 σ x0 x2 x3 = some x := hf
  unfold Sp_wordEnd_l2 at hf
  refine r_iload_n 2 dX7_wordEnd_2 rfl rfl ?_
  refine r_if_lt 32 hf dX7_wordEnd_3 (by decide) (fun c1 hf => ?_) (fun c1 hf => ?_)
  · refine r_sub (L' := [(3, _)]) [2] rfl ?_
    exact hk0 _ (ho _ (Option.some.inj hf).symm)
  · refine r_iload_n 2 dX7_wordEnd_6 rfl rfl ?_
    refine r_iload_n 1 dX7_wordEnd_7 rfl rfl ?_
    refine r_icmp_ge 32 hf dX7_wordEnd_8 (by decide) (fun c2 hf => ?_) (fun c2 hf => ?_)
    · refine r_sub (L' := [(3, _)]) [2] rfl ?_
      exact hk0 _ (ho _ (Option.some.inj hf).symm)
    · refine r_iload_n 2 dX7_wordEnd_11 rfl rfl ?_
      refine r_aload_n 0 dX7_wordEnd_12 rfl rfl ?_
      refine r_alen hf dX7_wordEnd_13 (by decide) (fun v3 ev3 hf => ?_)
      refine r_icmp_ge 32 hf dX7_wordEnd_14 (by decide) (fun c4 hf => ?_) (fun c4 hf => ?_)
      · refine r_sub (L' := [(3, _)]) [2] rfl ?_
        exact hk0 _ (ho _ (Option.some.inj hf).symm)
      · refine r_aload_n 0 dX7_wordEnd_17 rfl rfl ?_
        refine r_iload_n 2 dX7_wordEnd_18 rfl rfl ?_
        refine r_raY hf dX7_wordEnd_19 (fun v5 ev5 hf => ?_)
        refine bnd hf (fun v6 ev6 hf => ?_)
        refine r_callSr dX7_wordEnd_20 cs_RX7_32 ww_173 (by decide) rfl (rest := []) rfl (Or.inl (Nat.le_of_ble_eq_true rfl)) (t_Sp_signOf ev6) ?_
        refine r_if_eq 32 hf dX7_wordEnd_23 (by decide) (fun c7 hf => ?_) (fun c7 hf => ?_)
        · refine r_sub (L' := [(3, _)]) [2] rfl ?_
          exact hk0 _ (ho _ (Option.some.inj hf).symm)
        · refine r_iinc (1 : Int32) (L' := [(3, _), (0, _), (2, _)]) 2 dX7_wordEnd_26 rfl (by decide) (show 3 < 4 by decide) rfl ?_
          refine r_goto 2 dX7_wordEnd_29 (by decide) ?_
          refine r_sub (L' := [(0, _), (2, _), (3, _)]) [1, 2, 0] rfl ?_
          exact ih _ (Option.some.inj hf).symm
set_option maxRecDepth 100000 in
set_option maxHeartbeats 4000000 in
theorem t_Sp_wordEnd {Γ : W0} {σ : Mem} {x0 : Option Nat} {x1 : Int32} {x2 : Int32} {v : Int32} (hf : Sp_wordEnd σ x0 x1 x2 = some v) : CT Γ MD_Sp_wordEnd yX7_wordEnd [va_rf x0, .int x1, .int x2] σ (some (.int v), σ) := by
  refine CT.of (L := [(0, va_rf x0), (1, .int x1), (2, .int x2)]) rfl (by decide) (fun h => Bool.noConfusion (show false = true from h)) (by cases x0 <;> exact Nat.le_of_ble_eq_true rfl) (by cases x0 <;> rfl) ?_
  unfold Sp_wordEnd at hf
  generalize hr : mkR Γ σ (some (.int v)) σ = r
  refine r_iload_n 1 dX7_wordEnd_0 rfl rfl ?_
  refine r_istore_n (L' := [(3, _), (0, _), (1, _), (2, _)]) dX7_wordEnd_1 rfl (show 3 < 4 by decide) rfl ?_
  refine bnd hf (fun t8 et8 hf => ?_)
  refine r_sub (L' := [(0, _), (2, _), (3, _)]) [1, 3, 0] rfl ?_
  refine x_Sp_wordEnd_l2 ?_ _ et8
  · intro z9 hz9
    subst hz9
    refine r_iload_n 0 dX7_wordEnd_32 rfl rfl ?_
    exact r_iret rfl dX7_wordEnd_33 (by have h1 := (Option.some.inj hf); subst h1; exact hr.symm)
/-! SearchEngine$Parser.advance -/
noncomputable def Ps_advance_l8 (σ : Mem) (th : Nat) : Option (Mem ⊕ Mem) :=
  (ldI σ 3 5 (some th)).bind fun v3 =>
  (ldI σ 3 1 (some th)).bind fun v4 =>
  if v4 ≤ v3 then
    some (Sum.inr σ)
  else
    (ldR σ 3 0 (some th)).bind fun v6 =>
    (ldI σ 3 5 (some th)).bind fun v7 =>
    (raI σ 2 v6 v7).bind fun v8 =>
    if ¬ v8 = (32 : Int32) then
      some (Sum.inr σ)
    else
      (ldI σ 3 5 (some th)).bind fun v10 =>
      (stI σ 3 5 (some th) (v10 + (1 : Int32))).bind fun m11 =>
      some (Sum.inl m11)
noncomputable def Ps_advance (σ : Mem) (th : Nat) : Option Mem :=
  (ldI σ 3 6 (some th)).bind fun v1 =>
  (stI σ 3 5 (some th) v1).bind fun m2 =>
  (lp (fun q => Ps_advance_l8 q th) m2).bind fun z13 =>
  (ldI z13 3 5 (some th)).bind fun v14 =>
  (ldI z13 3 1 (some th)).bind fun v15 =>
  if v14 < v15 then
    (ldR z13 3 0 (some th)).bind fun v17 =>
    (ldI z13 3 5 (some th)).bind fun v18 =>
    (ldI z13 3 1 (some th)).bind fun v19 =>
    (Sp_wordEnd z13 v17 v18 v19).bind fun v20 =>
    (stI z13 3 6 (some th) v20).bind fun m21 =>
    (stI m21 3 4 (some th) (256 : Int32)).bind fun m22 =>
    (ldI m22 3 6 (some th)).bind fun v23 =>
    (ldI m22 3 5 (some th)).bind fun v24 =>
    if ¬ v23 = v24 then
      some m22
    else
      (ldR m22 3 0 (some th)).bind fun v26 =>
      (ldI m22 3 5 (some th)).bind fun v27 =>
      (raI m22 2 v26 v27).bind fun v28 =>
      (stI m22 3 4 (some th) (v28 &&& (255 : Int32))).bind fun m29 =>
      (ldI m29 3 5 (some th)).bind fun v30 =>
      (stI m29 3 6 (some th) (v30 + (1 : Int32))).bind fun m31 =>
      some m31
  else
    (stI z13 3 4 (some th) (257 : Int32)).bind fun m32 =>
    (ldI m32 3 5 (some th)).bind fun v33 =>
    (stI m32 3 6 (some th) v33).bind fun m34 =>
    some m34
set_option maxRecDepth 100000 in
set_option maxHeartbeats 4000000 in
theorem x_Ps_advance_l8 {Γ : W0} {σ0 : Mem} {r : RT} {th : Nat} {t : Mem} (hk0 : ∀ z : Mem, z = t → V Γ MD_Ps_advance σ0 r z 46 [(0, va_rf (some th))] []) : ∀ q : Mem, lp (fun q => Ps_advance_l8 q th) q = some t → V Γ MD_Ps_advance σ0 r q 8 [(0, va_rf (some th))] [] := by
  refine lp_ind (fun (q : Mem) => V Γ MD_Ps_advance σ0 r q 8 [(0, va_rf (some th))] []) (fun q x hf ih ho => ?_)
  revert hf ih
  generalize q = σ
  intro hf ih
  show V Γ MD_Ps_advance σ0 r σ 8 [(0, va_rf (some th))] []
  replace hf : Ps_advance_l8 σ th = some x := hf
  unfold Ps_advance_l8 at hf
  refine r_aload_n 0 dX3_advance_8 rfl rfl ?_
  refine r_ldI hf dX3_advance_9 fl_RX3_48 rfl (fun v3 ev3 hf => ?_)
  refine r_aload_n 0 dX3_advance_12 rfl rfl ?_
  refine r_ldI hf dX3_advance_13 fl_RX3_21 rfl (fun v4 ev4 hf => ?_)
  refine r_icmp_ge 46 hf dX3_advance_16 (by decide) (fun c5 hf => ?_) (fun c5 hf => ?_)
  · refine r_sub (L' := [(0, _)]) [0] rfl ?_
    exact hk0 _ (ho _ (Option.some.inj hf).symm)
  · refine r_aload_n 0 dX3_advance_19 rfl rfl ?_
    refine r_ldR hf dX3_advance_20 fl_RX3_9 rfl (fun v6 ev6 hf => ?_)
    refine r_aload_n 0 dX3_advance_23 rfl rfl ?_
    refine r_ldI hf dX3_advance_24 fl_RX3_48 rfl (fun v7 ev7 hf => ?_)
    refine r_raY hf dX3_advance_27 (fun v8 ev8 hf => ?_)
    refine r_bipush (32 : Int32) dX3_advance_28 (by decide) ?_
    refine r_icmp_ne 46 hf dX3_advance_30 (by decide) (fun c9 hf => ?_) (fun c9 hf => ?_)
    · refine r_sub (L' := [(0, _)]) [0] rfl ?_
      exact hk0 _ (ho _ (Option.some.inj hf).symm)
    · refine r_aload_n 0 dX3_advance_33 rfl rfl ?_
      refine r_dup dX3_advance_34 (cat_rf _) ?_
      refine r_ldI hf dX3_advance_35 fl_RX3_48 rfl (fun v10 ev10 hf => ?_)
      refine r_iconst (1 : Int32) dX3_advance_38 (by decide) ?_
      refine r_iadd dX3_advance_39 ?_
      refine r_stI hf dX3_advance_40 fl_RX3_48 rfl rfl rfl (fun m11 em11 hf => ?_)
      refine r_goto 8 dX3_advance_43 (by decide) ?_
      refine r_sub (L' := [(0, _)]) [0] rfl ?_
      exact ih _ (Option.some.inj hf).symm
set_option maxRecDepth 100000 in
set_option maxHeartbeats 4000000 in
theorem t_Ps_advance {Γ : W0} {σ : Mem} {th : Nat} {σ' : Mem} (hf : Ps_advance σ th = some σ') : CT Γ MD_Ps_advance yX3_advance [va_rf (some th)] σ (none, σ') := by
  refine CT.of (L := [(0, va_rf (some th))]) rfl (by decide) (fun h => Bool.noConfusion (show false = true from h)) (Nat.le_of_ble_eq_true rfl) rfl ?_
  unfold Ps_advance at hf
  generalize hr : mkR Γ σ (none) σ' = r
  refine r_aload_n 0 dX3_advance_0 rfl rfl ?_
  refine r_aload_n 0 dX3_advance_1 rfl rfl ?_
  refine r_ldI hf dX3_advance_2 fl_RX3_51 rfl (fun v1 ev1 hf => ?_)
  refine r_stI hf dX3_advance_5 fl_RX3_48 rfl rfl rfl (fun m2 em2 hf => ?_)
  refine bnd hf (fun t12 et12 hf => ?_)
  refine r_sub (L' := [(0, _)]) [0] rfl ?_
  refine x_Ps_advance_l8 ?_ _ et12
  · intro z13 hz13
    subst hz13
    refine r_aload_n 0 dX3_advance_46 rfl rfl ?_
    refine r_ldI hf dX3_advance_47 fl_RX3_48 rfl (fun v14 ev14 hf => ?_)
    refine r_aload_n 0 dX3_advance_50 rfl rfl ?_
    refine r_ldI hf dX3_advance_51 fl_RX3_21 rfl (fun v15 ev15 hf => ?_)
    refine r_icmp_lt 73 hf dX3_advance_54 (by decide) (fun c16 hf => ?_) (fun c16 hf => ?_)
    · refine r_aload_n 0 dX3_advance_73 rfl rfl ?_
      refine r_aload_n 0 dX3_advance_74 rfl rfl ?_
      refine r_ldR hf dX3_advance_75 fl_RX3_9 rfl (fun v17 ev17 hf => ?_)
      refine r_aload_n 0 dX3_advance_78 rfl rfl ?_
      refine r_ldI hf dX3_advance_79 fl_RX3_48 rfl (fun v18 ev18 hf => ?_)
      refine r_aload_n 0 dX3_advance_82 rfl rfl ?_
      refine r_ldI hf dX3_advance_83 fl_RX3_21 rfl (fun v19 ev19 hf => ?_)
      refine bnd hf (fun v20 ev20 hf => ?_)
      refine r_callSr dX3_advance_86 cs_RX3_54 ww_465 (by decide) rfl (rest := [_]) rfl (Or.inl (Nat.le_of_ble_eq_true rfl)) (t_Sp_wordEnd ev20) ?_
      refine r_stI hf dX3_advance_89 fl_RX3_51 rfl rfl rfl (fun m21 em21 hf => ?_)
      refine r_aload_n 0 dX3_advance_92 rfl rfl ?_
      refine r_sipush (256 : Int32) dX3_advance_93 (by decide) ?_
      refine r_stI hf dX3_advance_96 fl_RX3_45 rfl rfl rfl (fun m22 em22 hf => ?_)
      refine r_aload_n 0 dX3_advance_99 rfl rfl ?_
      refine r_ldI hf dX3_advance_100 fl_RX3_51 rfl (fun v23 ev23 hf => ?_)
      refine r_aload_n 0 dX3_advance_103 rfl rfl ?_
      refine r_ldI hf dX3_advance_104 fl_RX3_48 rfl (fun v24 ev24 hf => ?_)
      refine r_icmp_ne 137 hf dX3_advance_107 (by decide) (fun c25 hf => ?_) (fun c25 hf => ?_)
      · exact r_vret rfl dX3_advance_137 (by have h1 := (Option.some.inj hf); subst h1; exact hr.symm)
      · refine r_aload_n 0 dX3_advance_110 rfl rfl ?_
        refine r_aload_n 0 dX3_advance_111 rfl rfl ?_
        refine r_ldR hf dX3_advance_112 fl_RX3_9 rfl (fun v26 ev26 hf => ?_)
        refine r_aload_n 0 dX3_advance_115 rfl rfl ?_
        refine r_ldI hf dX3_advance_116 fl_RX3_48 rfl (fun v27 ev27 hf => ?_)
        refine r_raY hf dX3_advance_119 (fun v28 ev28 hf => ?_)
        refine r_sipush (255 : Int32) dX3_advance_120 (by decide) ?_
        refine r_iand dX3_advance_123 ?_
        refine r_stI hf dX3_advance_124 fl_RX3_45 rfl rfl rfl (fun m29 em29 hf => ?_)
        refine r_aload_n 0 dX3_advance_127 rfl rfl ?_
        refine r_aload_n 0 dX3_advance_128 rfl rfl ?_
        refine r_ldI hf dX3_advance_129 fl_RX3_48 rfl (fun v30 ev30 hf => ?_)
        refine r_iconst (1 : Int32) dX3_advance_132 (by decide) ?_
        refine r_iadd dX3_advance_133 ?_
        refine r_stI hf dX3_advance_134 fl_RX3_51 rfl rfl rfl (fun m31 em31 hf => ?_)
        exact r_vret rfl dX3_advance_137 (by have h1 := (Option.some.inj hf); subst h1; exact hr.symm)
    · refine r_aload_n 0 dX3_advance_57 rfl rfl ?_
      refine r_sipush (257 : Int32) dX3_advance_58 (by decide) ?_
      refine r_stI hf dX3_advance_61 fl_RX3_45 rfl rfl rfl (fun m32 em32 hf => ?_)
      refine r_aload_n 0 dX3_advance_64 rfl rfl ?_
      refine r_aload_n 0 dX3_advance_65 rfl rfl ?_
      refine r_ldI hf dX3_advance_66 fl_RX3_48 rfl (fun v33 ev33 hf => ?_)
      refine r_stI hf dX3_advance_69 fl_RX3_51 rfl rfl rfl (fun m34 em34 hf => ?_)
      exact r_vret rfl dX3_advance_72 (by have h1 := (Option.some.inj hf); subst h1; exact hr.symm)
/-! SearchEngine$Part.clear -/
noncomputable def Pa_clear (σ : Mem) (th : Nat) : Option Mem :=
  (stI σ 4 0 (some th) (0 : Int32)).bind fun m1 =>
  (stI m1 4 1 (some th) (-1 : Int32)).bind fun m2 =>
  (stB m2 4 2 (some th) false).bind fun m3 =>
  (stB m3 4 3 (some th) false).bind fun m4 =>
  (stB m4 4 4 (some th) false).bind fun m5 =>
  (stI m5 4 5 (some th) (1 : Int32)).bind fun m6 =>
  (stI m6 4 6 (some th) (0 : Int32)).bind fun m7 =>
  (stI m7 4 9 (some th) (0 : Int32)).bind fun m8 =>
  (stI m8 4 10 (some th) (0 : Int32)).bind fun m9 =>
  some m9
set_option maxRecDepth 100000 in
set_option maxHeartbeats 4000000 in
theorem t_Pa_clear {Γ : W0} {σ : Mem} {th : Nat} {σ' : Mem} (hf : Pa_clear σ th = some σ') : CT Γ MD_Pa_clear yX4_clear [va_rf (some th)] σ (none, σ') := by
  refine CT.of (L := [(0, va_rf (some th))]) rfl (by decide) (fun h => Bool.noConfusion (show false = true from h)) (Nat.le_of_ble_eq_true rfl) rfl ?_
  unfold Pa_clear at hf
  generalize hr : mkR Γ σ (none) σ' = r
  refine r_aload_n 0 dX4_clear_0 rfl rfl ?_
  refine r_iconst (0 : Int32) dX4_clear_1 (by decide) ?_
  refine r_stI hf dX4_clear_2 fl_RX4_22 rfl rfl rfl (fun m1 em1 hf => ?_)
  refine r_aload_n 0 dX4_clear_5 rfl rfl ?_
  refine r_iconst (-1 : Int32) dX4_clear_6 (by decide) ?_
  refine r_stI hf dX4_clear_7 fl_RX4_26 rfl rfl rfl (fun m2 em2 hf => ?_)
  refine r_aload_n 0 dX4_clear_10 rfl rfl ?_
  refine r_iconst (b2i false) dX4_clear_11 rfl ?_
  refine r_stB hf dX4_clear_12 fl_RX4_29 rfl rfl (fun m3 em3 hf => ?_)
  refine r_aload_n 0 dX4_clear_15 rfl rfl ?_
  refine r_iconst (b2i false) dX4_clear_16 rfl ?_
  refine r_stB hf dX4_clear_17 fl_RX4_33 rfl rfl (fun m4 em4 hf => ?_)
  refine r_aload_n 0 dX4_clear_20 rfl rfl ?_
  refine r_iconst (b2i false) dX4_clear_21 rfl ?_
  refine r_stB hf dX4_clear_22 fl_RX4_36 rfl rfl (fun m5 em5 hf => ?_)
  refine r_aload_n 0 dX4_clear_25 rfl rfl ?_
  refine r_iconst (1 : Int32) dX4_clear_26 (by decide) ?_
  refine r_stI hf dX4_clear_27 fl_RX4_39 rfl rfl rfl (fun m6 em6 hf => ?_)
  refine r_aload_n 0 dX4_clear_30 rfl rfl ?_
  refine r_iconst (0 : Int32) dX4_clear_31 (by decide) ?_
  refine r_stI hf dX4_clear_32 fl_RX4_42 rfl rfl rfl (fun m7 em7 hf => ?_)
  refine r_aload_n 0 dX4_clear_35 rfl rfl ?_
  refine r_iconst (0 : Int32) dX4_clear_36 (by decide) ?_
  refine r_stI hf dX4_clear_37 fl_RX4_45 rfl rfl rfl (fun m8 em8 hf => ?_)
  refine r_aload_n 0 dX4_clear_40 rfl rfl ?_
  refine r_iconst (0 : Int32) dX4_clear_41 (by decide) ?_
  refine r_stI hf dX4_clear_42 fl_RX4_48 rfl rfl rfl (fun m9 em9 hf => ?_)
  exact r_vret rfl dX4_clear_45 (by have h1 := (Option.some.inj hf); subst h1; exact hr.symm)
/-! SearchEngine$Query.nextPart -/
noncomputable def Qu_nextPart (σ : Mem) (th : Nat) : Option ((Option Nat) × Mem) :=
  (ldI σ 5 1 (some th)).bind fun v1 =>
  if v1 < (40 : Int32) then
    (ldR σ 5 0 (some th)).bind fun v3 =>
    (ldI σ 5 1 (some th)).bind fun v4 =>
    (raR σ 7 v3 v4).bind fun v5 =>
    (chk σ 4 v5).bind fun a6 =>
    (Pa_clear σ a6).bind fun v7 =>
    (ldI v7 5 1 (some th)).bind fun v8 =>
    (stI v7 5 1 (some th) (v8 + (1 : Int32))).bind fun m9 =>
    some (v5, m9)
  else
    some (none, σ)
set_option maxRecDepth 100000 in
set_option maxHeartbeats 4000000 in
theorem t_Qu_nextPart {Γ : W0} {σ : Mem} {th : Nat} {v : Option Nat} {σ' : Mem} (hf : Qu_nextPart σ th = some (v, σ')) : CT Γ MD_Qu_nextPart yX5_nextPart [va_rf (some th)] σ (some (va_rf v), σ') := by
  refine CT.of (L := [(0, va_rf (some th))]) rfl (by decide) (fun h => Bool.noConfusion (show false = true from h)) (Nat.le_of_ble_eq_true rfl) rfl ?_
  unfold Qu_nextPart at hf
  generalize hr : mkR Γ σ (some (va_rf v)) σ' = r
  refine r_aload_n 0 dX5_nextPart_0 rfl rfl ?_
  refine r_ldI hf dX5_nextPart_1 fl_RX5_18 rfl (fun v1 ev1 hf => ?_)
  refine r_bipush (40 : Int32) dX5_nextPart_4 (by decide) ?_
  refine r_icmp_lt 11 hf dX5_nextPart_6 (by decide) (fun c2 hf => ?_) (fun c2 hf => ?_)
  · refine r_aload_n 0 dX5_nextPart_11 rfl rfl ?_
    refine r_ldR hf dX5_nextPart_12 fl_RX5_11 rfl (fun v3 ev3 hf => ?_)
    refine r_aload_n 0 dX5_nextPart_15 rfl rfl ?_
    refine r_ldI hf dX5_nextPart_16 fl_RX5_18 rfl (fun v4 ev4 hf => ?_)
    refine r_raR hf dX5_nextPart_19 (by decide) (by decide) (fun v5 ev5 hf => ?_)
    refine r_astore_n (L' := [(1, _), (0, _)]) dX5_nextPart_20 rfl (show 1 < 2 by decide) rfl ?_
    refine r_aload_n 0 dX5_nextPart_21 rfl rfl ?_
    refine r_chk hf (fun a6 xa6 ta6 hf => ?_)
    refine bnd hf (fun v7 ev7 hf => ?_)
    refine r_callVv (ci := 4) xa6 dX5_nextPart_22 cs_RX5_22 ww_721 ww_722 (by decide) ta6 (by decide) rfl (rest := []) rfl (Or.inl (Nat.le_of_ble_eq_true rfl)) (t_Pa_clear ev7) ?_
    refine r_aload_n 1 dX5_nextPart_25 rfl rfl ?_
    refine r_dup dX5_nextPart_26 (cat_rf _) ?_
    refine r_ldI hf dX5_nextPart_27 fl_RX5_18 rfl (fun v8 ev8 hf => ?_)
    refine r_iconst (1 : Int32) dX5_nextPart_30 (by decide) ?_
    refine r_iadd dX5_nextPart_31 ?_
    refine r_stI hf dX5_nextPart_32 fl_RX5_18 rfl rfl rfl (fun m9 em9 hf => ?_)
    refine r_aload_n 0 dX5_nextPart_35 rfl rfl ?_
    exact r_aret rfl (Or.inl ⟨_, rfl⟩) dX5_nextPart_36 (by obtain ⟨h1, h2⟩ := Prod.mk.inj (Option.some.inj hf); subst h1; subst h2; exact hr.symm)
  · refine r_null dX5_nextPart_9 ?_
    exact r_aret rfl (Or.inl ⟨_, rfl⟩) dX5_nextPart_10 (by obtain ⟨h1, h2⟩ := Prod.mk.inj (Option.some.inj hf); subst h1; subst h2; exact hr.symm)
/-! SearchEngine$Parser.readGroup -/
noncomputable def Ps_readGroup (rec : Mem → Nat → Int32 → Bool → Option (Bool × Mem)) (σ : Mem) (th : Nat) (x1 : Option Nat) (x2 : Int32) : Option (Bool × Mem) :=
  if x2 < (8 : Int32) then
    (stI σ 4 0 x1 (0 : Int32)).bind fun m2 =>
    (chk m2 3 (some th)).bind fun a3 =>
    (Ps_advance m2 a3).bind fun v4 =>
    (ldB v4 4 3 x1).bind fun v5 =>
    (chk v4 3 (some th)).bind fun a6 =>
    (rec v4 a6 (x2 + (1 : Int32)) v5).bind fun v7 =>
    if v7.1 = true then
      (ldI v7.2 3 4 (some th)).bind fun v9 =>
      if v9 = (41 : Int32) then
        (chk v7.2 3 (some th)).bind fun a11 =>
        (Ps_advance v7.2 a11).bind fun v12 =>
        some (true, v12)
      else
        some (false, v7.2)
    else
      some (false, v7.2)
  else
    some (false, σ)
set_option maxRecDepth 100000 in
set_option maxHeartbeats 4000000 in
theorem t_Ps_readGroup {Γ : W0} {σ : Mem} {th : Nat} {x1 : Option Nat} {x2 : Int32} {v : Bool} {σ' : Mem} {d : Nat} {rec : Mem → Nat → Int32 → Bool → Option (Bool × Mem)} (hrec : ∀ {Γ : W0} {σ : Mem} {th : Nat} {y1 : Int32} {y2 : Bool} {v : Bool} {σ' : Mem}, rec σ th y1 y2 = some (v, σ') → CT Γ (MD_Ps_readAny d) yX3_readAny [va_rf (some th), .int y1, .int (b2i y2)] σ (some (.int (b2i v)), σ')) (hf : Ps_readGroup rec σ th x1 x2 = some (v, σ')) : CT Γ (MD_Ps_readGroup d) yX3_readGroup [va_rf (some th), va_rf x1, .int x2] σ (some (.int (b2i v)), σ') := by
  refine CT.of (L := [(0, va_rf (some th)), (1, va_rf x1), (2, .int x2)]) rfl (by decide) (fun h => Bool.noConfusion (show false = true from h)) (by cases x1 <;> exact Nat.le_of_ble_eq_true rfl) (by cases x1 <;> rfl) ?_
  unfold Ps_readGroup at hf
  generalize hr : mkR Γ σ (some (.int (b2i v))) σ' = r
  refine r_iload_n 2 dX3_readGroup_0 rfl rfl ?_
  refine r_bipush (8 : Int32) dX3_readGroup_1 (by decide) ?_
  refine r_icmp_lt 8 hf dX3_readGroup_3 (by decide) (fun c1 hf => ?_) (fun c1 hf => ?_)
  · refine r_aload_n 1 dX3_readGroup_8 rfl rfl ?_
    refine r_iconst (0 : Int32) dX3_readGroup_9 (by decide) ?_
    refine r_stI hf dX3_readGroup_10 fl_RX3_109 rfl rfl rfl (fun m2 em2 hf => ?_)
    refine r_aload_n 0 dX3_readGroup_13 rfl rfl ?_
    refine r_chk hf (fun a3 xa3 ta3 hf => ?_)
    refine bnd hf (fun v4 ev4 hf => ?_)
    refine r_callVv (ci := 3) xa3 dX3_readGroup_14 cs_RX3_38 ww_705 ww_15 (by decide) ta3 ⟨(show 3 + 1 ≤ 16 + 4 * (d) by omega), (show 8 + (1 + 11) + (65) ≤ 516 + 160 * (d) by omega)⟩ rfl (rest := []) rfl (Or.inl (Nat.le_of_ble_eq_true rfl)) (t_Ps_advance ev4) ?_
    refine r_aload_n 0 dX3_readGroup_17 rfl rfl ?_
    refine r_iload_n 2 dX3_readGroup_18 rfl rfl ?_
    refine r_iconst (1 : Int32) dX3_readGroup_19 (by decide) ?_
    refine r_iadd dX3_readGroup_20 ?_
    refine r_aload_n 1 dX3_readGroup_21 rfl rfl ?_
    refine r_ldB hf dX3_readGroup_22 fl_RX3_81 rfl (fun v5 ev5 hf => ?_)
    refine r_chk hf (fun a6 xa6 ta6 hf => ?_)
    refine bnd hf (fun v7 ev7 hf => ?_)
    refine r_callVr (ci := 3) xa6 dX3_readGroup_25 (cs_RX3_41 _) ww_710 ww_16 (by decide) ta6 ⟨(show 15 + 4 * (d) + 1 ≤ 16 + 4 * (d) by omega), (show 8 + (5 + 11) + (476 + 160 * (d)) ≤ 516 + 160 * (d) by omega)⟩ rfl (rest := []) rfl (Or.inl (Nat.le_of_ble_eq_true rfl)) (hrec ev7) ?_
    refine r_ifeqZ 40 hf dX3_readGroup_28 (by decide) (fun c8 hf => ?_) (fun c8 hf => ?_)
    · refine r_aload_n 0 dX3_readGroup_31 rfl rfl ?_
      refine r_ldI hf dX3_readGroup_32 fl_RX3_45 rfl (fun v9 ev9 hf => ?_)
      refine r_bipush (41 : Int32) dX3_readGroup_35 (by decide) ?_
      refine r_icmp_eq 42 hf dX3_readGroup_37 (by decide) (fun c10 hf => ?_) (fun c10 hf => ?_)
      · refine r_aload_n 0 dX3_readGroup_42 rfl rfl ?_
        refine r_chk hf (fun a11 xa11 ta11 hf => ?_)
        refine bnd hf (fun v12 ev12 hf => ?_)
        refine r_callVv (ci := 3) xa11 dX3_readGroup_43 cs_RX3_38 ww_705 ww_15 (by decide) ta11 ⟨(show 3 + 1 ≤ 16 + 4 * (d) by omega), (show 8 + (1 + 11) + (65) ≤ 516 + 160 * (d) by omega)⟩ rfl (rest := []) rfl (Or.inl (Nat.le_of_ble_eq_true rfl)) (t_Ps_advance ev12) ?_
        refine r_iconst (b2i true) dX3_readGroup_46 rfl ?_
        exact r_zret rfl dX3_readGroup_47 (by obtain ⟨h1, h2⟩ := Prod.mk.inj (Option.some.inj hf); subst h1; subst h2; exact hr.symm)
      · refine r_iconst (b2i false) dX3_readGroup_40 rfl ?_
        exact r_zret rfl dX3_readGroup_41 (by obtain ⟨h1, h2⟩ := Prod.mk.inj (Option.some.inj hf); subst h1; subst h2; exact hr.symm)
    · refine r_iconst (b2i false) dX3_readGroup_40 rfl ?_
      exact r_zret rfl dX3_readGroup_41 (by obtain ⟨h1, h2⟩ := Prod.mk.inj (Option.some.inj hf); subst h1; subst h2; exact hr.symm)
  · refine r_iconst (b2i false) dX3_readGroup_6 rfl ?_
    exact r_zret rfl dX3_readGroup_7 (by obtain ⟨h1, h2⟩ := Prod.mk.inj (Option.some.inj hf); subst h1; subst h2; exact hr.symm)
/-! SearchEngine$Parser.wordIs -/
noncomputable def Ps_wordIs_l27 (σ : Mem) (th : Nat) (x1 : Int32) (x3 : Nat) (x4 : Int32) : Option (Int32 ⊕ (Unit ⊕ Unit)) :=
  (sLen x3).bind fun v6 =>
  if v6 ≤ x4 then
    some (Sum.inr (Sum.inr ()))
  else
    (ldR σ 3 0 (some th)).bind fun v8 =>
    (raI σ 2 v8 (x1 + x4)).bind fun v9 =>
    (sCh x3 x4).bind fun v10 =>
    if v9 = v10 then
      some (Sum.inl (x4 + (1 : Int32)))
    else
      some (Sum.inr (Sum.inl ()))
noncomputable def Ps_wordIs (σ : Mem) (th : Nat) (x1 : Int32) (x2 : Int32) (x3 : Nat) : Option Bool :=
  if x1 < 0 then
    some false
  else
    (ldI σ 3 1 (some th)).bind fun v2 =>
    if v2 < x2 then
      some false
    else
      (sLen x3).bind fun v4 =>
      if (x2 - x1) = v4 then
        (lp (fun q => Ps_wordIs_l27 σ th x1 x3 q) (0 : Int32)).bind 
          (se (fun z13 =>
            some false)
            (fun z14 =>
              some true))
      else
        some false
set_option maxRecDepth 100000 in
set_option maxHeartbeats 4000000 in
theorem x_Ps_wordIs_l27 {Γ : W0} {σ0 : Mem} {r : RT} {σ : Mem} {th : Nat} {x1 : Int32} {x3 : Nat} {t : Unit ⊕ Unit} (hk0 : ∀ z : Unit, (Sum.inl z) = t → V Γ MD_Ps_wordIs σ0 r σ 54 [] []) (hk1 : ∀ z : Unit, (Sum.inr z) = t → V Γ MD_Ps_wordIs σ0 r σ 62 [] []) : ∀ q : Int32, lp (fun q => Ps_wordIs_l27 σ th x1 x3 q) q = some t → V Γ MD_Ps_wordIs σ0 r σ 27 [(0, va_rf (some th)), (1, .int x1), (3, .ref (wK Γ x3)), (4, .int q)] [] := by
  refine lp_ind (fun (q : Int32) => V Γ MD_Ps_wordIs σ0 r σ 27 [(0, va_rf (some th)), (1, .int x1), (3, .ref (wK Γ x3)), (4, .int q)] []) (fun q x hf ih ho => ?_)
  revert hf ih
  generalize q = x4
  intro hf ih
  show V Γ MD_Ps_wordIs σ0 r σ 27 [(0, va_rf (some th)), (1, .int x1), (3, .ref (wK Γ x3)), (4, .int x4)] []
  replace hf : Ps_wordIs_l27 σ th x1 x3 x4 = some x := hf
  unfold Ps_wordIs_l27 at hf
  refine r_iload 3 dX3_wordIs_27 rfl ?_
  refine r_aloadS_n 2 dX3_wordIs_29 rfl rfl ?_
  refine r_sLen hf dX3_wordIs_30 ww_741 (by decide) (Nat.le_of_ble_eq_true rfl) (fun v6 ev6 hf => ?_)
  refine r_icmp_ge 62 hf dX3_wordIs_33 (by decide) (fun c7 hf => ?_) (fun c7 hf => ?_)
  · refine r_sub (L' := []) [] rfl ?_
    exact hk1 _ (ho _ (Option.some.inj hf).symm)
  · refine r_aload_n 0 dX3_wordIs_36 rfl rfl ?_
    refine r_ldR hf dX3_wordIs_37 fl_RX3_9 rfl (fun v8 ev8 hf => ?_)
    refine r_iload_n 1 dX3_wordIs_40 rfl rfl ?_
    refine r_iload 3 dX3_wordIs_41 rfl ?_
    refine r_iadd dX3_wordIs_43 ?_
    refine r_raY hf dX3_wordIs_44 (fun v9 ev9 hf => ?_)
    refine r_aloadS_n 2 dX3_wordIs_45 rfl rfl ?_
    refine r_iload 3 dX3_wordIs_46 rfl ?_
    refine r_sCh hf dX3_wordIs_48 ww_742 (by decide) (Nat.le_of_ble_eq_true rfl) (fun v10 ev10 hf => ?_)
    refine r_icmp_eq 56 hf dX3_wordIs_51 (by decide) (fun c11 hf => ?_) (fun c11 hf => ?_)
    · refine r_iinc (1 : Int32) (L' := [(4, _), (0, _), (1, _), (3, _)]) 3 dX3_wordIs_56 rfl (by decide) (show 4 < 5 by decide) rfl ?_
      refine r_goto 27 dX3_wordIs_59 (by decide) ?_
      refine r_sub (L' := [(0, _), (1, _), (3, _), (4, _)]) [1, 2, 3, 0] rfl ?_
      exact ih _ (Option.some.inj hf).symm
    · refine r_sub (L' := []) [] rfl ?_
      exact hk0 _ (ho _ (Option.some.inj hf).symm)
set_option maxRecDepth 100000 in
set_option maxHeartbeats 4000000 in
theorem t_Ps_wordIs {Γ : W0} {σ : Mem} {th : Nat} {x1 : Int32} {x2 : Int32} {x3 : Nat} {v : Bool} (hf : Ps_wordIs σ th x1 x2 x3 = some v) : CT Γ MD_Ps_wordIs yX3_wordIs [va_rf (some th), .int x1, .int x2, .ref (wK Γ x3)] σ (some (.int (b2i v)), σ) := by
  refine CT.of (L := [(0, va_rf (some th)), (1, .int x1), (2, .int x2), (3, .ref (wK Γ x3))]) rfl (by decide) (fun h => Bool.noConfusion (show false = true from h)) (Nat.le_of_ble_eq_true rfl) rfl ?_
  unfold Ps_wordIs at hf
  generalize hr : mkR Γ σ (some (.int (b2i v))) σ = r
  refine r_iload_n 1 dX3_wordIs_0 rfl rfl ?_
  refine r_if_lt 22 hf dX3_wordIs_1 (by decide) (fun c1 hf => ?_) (fun c1 hf => ?_)
  · refine r_iconst (b2i false) dX3_wordIs_22 rfl ?_
    exact r_zret rfl dX3_wordIs_23 (by have h1 := (Option.some.inj hf); subst h1; exact hr.symm)
  · refine r_iload_n 2 dX3_wordIs_4 rfl rfl ?_
    refine r_aload_n 0 dX3_wordIs_5 rfl rfl ?_
    refine r_ldI hf dX3_wordIs_6 fl_RX3_21 rfl (fun v2 ev2 hf => ?_)
    refine r_icmp_gt 22 hf dX3_wordIs_9 (by decide) (fun c3 hf => ?_) (fun c3 hf => ?_)
    · refine r_iconst (b2i false) dX3_wordIs_22 rfl ?_
      exact r_zret rfl dX3_wordIs_23 (by have h1 := (Option.some.inj hf); subst h1; exact hr.symm)
    · refine r_iload_n 2 dX3_wordIs_12 rfl rfl ?_
      refine r_iload_n 1 dX3_wordIs_13 rfl rfl ?_
      refine r_isub dX3_wordIs_14 ?_
      refine r_aloadS_n 3 dX3_wordIs_15 rfl rfl ?_
      refine r_sLen hf dX3_wordIs_16 ww_741 (by decide) (Nat.le_of_ble_eq_true rfl) (fun v4 ev4 hf => ?_)
      refine r_icmp_eq 24 hf dX3_wordIs_19 (by decide) (fun c5 hf => ?_) (fun c5 hf => ?_)
      · refine r_iconst (0 : Int32) dX3_wordIs_24 (by decide) ?_
        refine r_istore (L' := [(4, _), (0, _), (1, _), (2, _), (3, _)]) dX3_wordIs_25 (show 4 < 5 by decide) rfl ?_
        refine bnd hf (fun t12 et12 hf => ?_)
        refine r_sub (L' := [(0, _), (1, _), (3, _), (4, _)]) [1, 2, 4, 0] rfl ?_
        refine x_Ps_wordIs_l27 ?_ ?_ _ et12
        · intro z13 hz13
          subst hz13
          simp only [se] at hf
          refine r_iconst (b2i false) dX3_wordIs_54 rfl ?_
          exact r_zret rfl dX3_wordIs_55 (by have h1 := (Option.some.inj hf); subst h1; exact hr.symm)
        · intro z14 hz14
          subst hz14
          simp only [se] at hf
          refine r_iconst (b2i true) dX3_wordIs_62 rfl ?_
          exact r_zret rfl dX3_wordIs_63 (by have h1 := (Option.some.inj hf); subst h1; exact hr.symm)
      · refine r_iconst (b2i false) dX3_wordIs_22 rfl ?_
        exact r_zret rfl dX3_wordIs_23 (by have h1 := (Option.some.inj hf); subst h1; exact hr.symm)
/-! SearchEngine$Parser.number -/
noncomputable def Ps_number_l32 (σ : Mem) (th : Nat) (x2 : Int32) (x3 : Int32) : Option ((Int32 × Int32) ⊕ (Unit ⊕ Int32)) :=
  (ldI σ 3 6 (some th)).bind fun v7 =>
  if v7 ≤ x3 then
    some (Sum.inr (Sum.inr x2))
  else
    (ldI σ 3 1 (some th)).bind fun v9 =>
    if v9 ≤ x3 then
      some (Sum.inr (Sum.inr x2))
    else
      (ldR σ 3 0 (some th)).bind fun v11 =>
      (raI σ 2 v11 x3).bind fun v12 =>
      if v12 < (48 : Int32) then
        some (Sum.inr (Sum.inl ()))
      else
        (ldR σ 3 0 (some th)).bind fun v14 =>
        (raI σ 2 v14 x3).bind fun v15 =>
        if v15 ≤ (57 : Int32) then
          (ldR σ 3 0 (some th)).bind fun v17 =>
          (raI σ 2 v17 x3).bind fun v18 =>
          some (Sum.inl ((((x2 * (10 : Int32)) + v18) - (48 : Int32)), (x3 + (1 : Int32))))
        else
          some (Sum.inr (Sum.inl ()))
noncomputable def Ps_number (σ : Mem) (th : Nat) (x1 : Int32) : Option Int32 :=
  (ldI σ 3 4 (some th)).bind fun v1 =>
  if ¬ v1 = (256 : Int32) then
    some (-1 : Int32)
  else
    (ldI σ 3 6 (some th)).bind fun v3 =>
    (ldI σ 3 5 (some th)).bind fun v4 =>
    if (v3 - v4) ≤ x1 then
      (ldI σ 3 5 (some th)).bind fun v6 =>
      (lp (fun q => Ps_number_l32 σ th q.1 q.2) ((0 : Int32), v6)).bind 
        (se (fun z20 =>
          some (-1 : Int32))
          (fun z21 =>
            some z21))
    else
      some (-1 : Int32)
set_option maxRecDepth 100000 in
set_option maxHeartbeats 4000000 in
theorem x_Ps_number_l32 {Γ : W0} {σ0 : Mem} {r : RT} {σ : Mem} {th : Nat} {t : Unit ⊕ Int32} (hk0 : ∀ z : Unit, (Sum.inl z) = t → V Γ MD_Ps_number σ0 r σ 70 [] []) (hk1 : ∀ z : Int32, (Sum.inr z) = t → V Γ MD_Ps_number σ0 r σ 93 [(2, .int z)] []) : ∀ q : Int32 × Int32, lp (fun q => Ps_number_l32 σ th q.1 q.2) q = some t → V Γ MD_Ps_number σ0 r σ 32 [(0, va_rf (some th)), (2, .int q.1), (3, .int q.2)] [] := by
  refine lp_ind (fun (q : Int32 × Int32) => V Γ MD_Ps_number σ0 r σ 32 [(0, va_rf (some th)), (2, .int q.1), (3, .int q.2)] []) (fun q x hf ih ho => ?_)
  obtain ⟨x2, x3⟩ := q
  show V Γ MD_Ps_number σ0 r σ 32 [(0, va_rf (some th)), (2, .int x2), (3, .int x3)] []
  replace hf : Ps_number_l32 σ th x2 x3 = some x := hf
  unfold Ps_number_l32 at hf
  refine r_iload_n 2 dX3_number_32 rfl rfl ?_
  refine r_aload_n 0 dX3_number_33 rfl rfl ?_
  refine r_ldI hf dX3_number_34 fl_RX3_51 rfl (fun v7 ev7 hf => ?_)
  refine r_icmp_ge 93 hf dX3_number_37 (by decide) (fun c8 hf => ?_) (fun c8 hf => ?_)
  · refine r_sub (L' := [(2, _)]) [1] rfl ?_
    exact hk1 _ (ho _ (Option.some.inj hf).symm)
  · refine r_iload_n 2 dX3_number_40 rfl rfl ?_
    refine r_aload_n 0 dX3_number_41 rfl rfl ?_
    refine r_ldI hf dX3_number_42 fl_RX3_21 rfl (fun v9 ev9 hf => ?_)
    refine r_icmp_ge 93 hf dX3_number_45 (by decide) (fun c10 hf => ?_) (fun c10 hf => ?_)
    · refine r_sub (L' := [(2, _)]) [1] rfl ?_
      exact hk1 _ (ho _ (Option.some.inj hf).symm)
    · refine r_aload_n 0 dX3_number_48 rfl rfl ?_
      refine r_ldR hf dX3_number_49 fl_RX3_9 rfl (fun v11 ev11 hf => ?_)
      refine r_iload_n 2 dX3_number_52 rfl rfl ?_
      refine r_raY hf dX3_number_53 (fun v12 ev12 hf => ?_)
      refine r_bipush (48 : Int32) dX3_number_54 (by decide) ?_
      refine r_icmp_lt 70 hf dX3_number_56 (by decide) (fun c13 hf => ?_) (fun c13 hf => ?_)
      · refine r_sub (L' := []) [] rfl ?_
        exact hk0 _ (ho _ (Option.some.inj hf).symm)
      · refine r_aload_n 0 dX3_number_59 rfl rfl ?_
        refine r_ldR hf dX3_number_60 fl_RX3_9 rfl (fun v14 ev14 hf => ?_)
        refine r_iload_n 2 dX3_number_63 rfl rfl ?_
        refine r_raY hf dX3_number_64 (fun v15 ev15 hf => ?_)
        refine r_bipush (57 : Int32) dX3_number_65 (by decide) ?_
        refine r_icmp_le 72 hf dX3_number_67 (by decide) (fun c16 hf => ?_) (fun c16 hf => ?_)
        · refine r_iload_n 1 dX3_number_72 rfl rfl ?_
          refine r_bipush (10 : Int32) dX3_number_73 (by decide) ?_
          refine r_imul dX3_number_75 ?_
          refine r_aload_n 0 dX3_number_76 rfl rfl ?_
          refine r_ldR hf dX3_number_77 fl_RX3_9 rfl (fun v17 ev17 hf => ?_)
          refine r_iload_n 2 dX3_number_80 rfl rfl ?_
          refine r_raY hf dX3_number_81 (fun v18 ev18 hf => ?_)
          refine r_iadd dX3_number_82 ?_
          refine r_bipush (48 : Int32) dX3_number_83 (by decide) ?_
          refine r_isub dX3_number_85 ?_
          refine r_istore_n (L' := [(2, _), (0, _), (3, _)]) dX3_number_86 rfl (show 2 < 4 by decide) rfl ?_
          refine r_iinc (1 : Int32) (L' := [(3, _), (2, _), (0, _)]) 2 dX3_number_87 rfl (by decide) (show 3 < 4 by decide) rfl ?_
          refine r_goto 32 dX3_number_90 (by decide) ?_
          refine r_sub (L' := [(0, _), (2, _), (3, _)]) [2, 1, 0] rfl ?_
          exact ih _ (Option.some.inj hf).symm
        · refine r_sub (L' := []) [] rfl ?_
          exact hk0 _ (ho _ (Option.some.inj hf).symm)
set_option maxRecDepth 100000 in
set_option maxHeartbeats 4000000 in
theorem t_Ps_number {Γ : W0} {σ : Mem} {th : Nat} {x1 : Int32} {v : Int32} (hf : Ps_number σ th x1 = some v) : CT Γ MD_Ps_number yX3_number [va_rf (some th), .int x1] σ (some (.int v), σ) := by
  refine CT.of (L := [(0, va_rf (some th)), (1, .int x1)]) rfl (by decide) (fun h => Bool.noConfusion (show false = true from h)) (Nat.le_of_ble_eq_true rfl) rfl ?_
  unfold Ps_number at hf
  generalize hr : mkR Γ σ (some (.int v)) σ = r
  refine r_aload_n 0 dX3_number_0 rfl rfl ?_
  refine r_ldI hf dX3_number_1 fl_RX3_45 rfl (fun v1 ev1 hf => ?_)
  refine r_sipush (256 : Int32) dX3_number_4 (by decide) ?_
  refine r_icmp_ne 23 hf dX3_number_7 (by decide) (fun c2 hf => ?_) (fun c2 hf => ?_)
  · refine r_iconst (-1 : Int32) dX3_number_23 (by decide) ?_
    exact r_iret rfl dX3_number_24 (by have h1 := (Option.some.inj hf); subst h1; exact hr.symm)
  · refine r_aload_n 0 dX3_number_10 rfl rfl ?_
    refine r_ldI hf dX3_number_11 fl_RX3_51 rfl (fun v3 ev3 hf => ?_)
    refine r_aload_n 0 dX3_number_14 rfl rfl ?_
    refine r_ldI hf dX3_number_15 fl_RX3_48 rfl (fun v4 ev4 hf => ?_)
    refine r_isub dX3_number_18 ?_
    refine r_iload_n 1 dX3_number_19 rfl rfl ?_
    refine r_icmp_le 25 hf dX3_number_20 (by decide) (fun c5 hf => ?_) (fun c5 hf => ?_)
    · refine r_iconst (0 : Int32) dX3_number_25 (by decide) ?_
      refine r_istore_n (L' := [(2, _), (0, _), (1, _)]) dX3_number_26 rfl (show 2 < 4 by decide) rfl ?_
      refine r_aload_n 1 dX3_number_27 rfl rfl ?_
      refine r_ldI hf dX3_number_28 fl_RX3_48 rfl (fun v6 ev6 hf => ?_)
      refine r_istore_n (L' := [(3, _), (2, _), (0, _), (1, _)]) dX3_number_31 rfl (show 3 < 4 by decide) rfl ?_
      refine bnd hf (fun t19 et19 hf => ?_)
      refine r_sub (L' := [(0, _), (2, _), (3, _)]) [2, 1, 0] rfl ?_
      refine x_Ps_number_l32 ?_ ?_ _ et19
      · intro z20 hz20
        subst hz20
        simp only [se] at hf
        refine r_iconst (-1 : Int32) dX3_number_70 (by decide) ?_
        exact r_iret rfl dX3_number_71 (by have h1 := (Option.some.inj hf); subst h1; exact hr.symm)
      · intro z21 hz21
        subst hz21
        simp only [se] at hf
        refine r_iload_n 0 dX3_number_93 rfl rfl ?_
        exact r_iret rfl dX3_number_94 (by have h1 := (Option.some.inj hf); subst h1; exact hr.symm)
    · refine r_iconst (-1 : Int32) dX3_number_23 (by decide) ?_
      exact r_iret rfl dX3_number_24 (by have h1 := (Option.some.inj hf); subst h1; exact hr.symm)
/-! SearchEngine$Parser.readRange -/
noncomputable def Ps_readRange_l66 (σ : Mem) (th : Nat) (x1 : Option Nat) (x3 : Int32) : Option ((Int32 × Mem) ⊕ (Mem ⊕ Mem)) :=
  if (2 : Int32) ≤ x3 then
    some (Sum.inr (Sum.inr σ))
  else
    (ldI σ 3 4 (some th)).bind fun v21 =>
    Option.bind (
      if ¬ v21 = (45 : Int32) then
        some (1 : Int32)
      else
        some (-1 : Int32)) fun q22 =>
    Option.bind (
      if 0 ≤ q22 then
        some σ
      else
        (chk σ 3 (some th)).bind fun a26 =>
        (Ps_advance σ a26).bind fun v27 =>
        some v27) fun q24 =>
    (chk q24 3 (some th)).bind fun a28 =>
    (Ps_number q24 a28 (9 : Int32)).bind fun v29 =>
    if 0 ≤ v29 then
      Option.bind (
        if ¬ x3 = 0 then
          some q24
        else
          (stL q24 4 12 x1 ((q22 * v29).toInt64)).bind fun m33 =>
          some m33) fun q31 =>
      (stL q31 4 13 x1 ((q22 * v29).toInt64)).bind fun m34 =>
      (chk m34 3 (some th)).bind fun a35 =>
      (Ps_advance m34 a35).bind fun v36 =>
      some (Sum.inl ((x3 + (1 : Int32)), v36))
    else
      some (Sum.inr (Sum.inl q24))
noncomputable def Ps_readRange (σ : Mem) (th : Nat) (x1 : Option Nat) : Option (Bool × Mem) :=
  (stI σ 4 0 x1 (3 : Int32)).bind fun m1 =>
  (chk m1 3 (some th)).bind fun a2 =>
  (Ps_advance m1 a2).bind fun v3 =>
  (ldI v3 3 5 (some th)).bind fun v4 =>
  (ldI v3 3 6 (some th)).bind fun v5 =>
  (chk v3 3 (some th)).bind fun a6 =>
  (Ps_wordIs v3 a6 v4 v5 1).bind fun v7 =>
  jn (
    if v7 = true then
      some (Sum.inr ())
    else
      (ldI v3 3 5 (some th)).bind fun v10 =>
      (ldI v3 3 6 (some th)).bind fun v11 =>
      (chk v3 3 (some th)).bind fun a12 =>
      (Ps_wordIs v3 a12 v10 v11 2).bind fun v13 =>
      if v13 = true then
        some (Sum.inr ())
      else
        some (Sum.inl (false, v3))) fun q8 =>
  Option.bind (
    if v7 = true then
      some (0 : Int32)
    else
      some (1 : Int32)) fun q15 =>
  (stI v3 4 11 x1 q15).bind fun m17 =>
  (chk m17 3 (some th)).bind fun a18 =>
  (Ps_advance m17 a18).bind fun v19 =>
  (lp (fun q => Ps_readRange_l66 q.2 th x1 q.1) ((0 : Int32), v19)).bind 
    (se (fun z38 =>
      some (false, z38))
      (fun z39 =>
        (ldI z39 3 4 (some th)).bind fun v40 =>
        if v40 = (93 : Int32) then
          (chk z39 3 (some th)).bind fun a42 =>
          (Ps_advance z39 a42).bind fun v43 =>
          some (true, v43)
        else
          some (false, z39)))
set_option maxRecDepth 100000 in
set_option maxHeartbeats 4000000 in
theorem x_Ps_readRange_l66 {Γ : W0} {σ0 : Mem} {r : RT} {th : Nat} {x1 : Option Nat} {t : Mem ⊕ Mem} (hk0 : ∀ z : Mem, (Sum.inl z) = t → V Γ MD_Ps_readRange σ0 r z 109 [] []) (hk1 : ∀ z : Mem, (Sum.inr z) = t → V Γ MD_Ps_readRange σ0 r z 145 [(0, va_rf (some th))] []) : ∀ q : Int32 × Mem, lp (fun q => Ps_readRange_l66 q.2 th x1 q.1) q = some t → V Γ MD_Ps_readRange σ0 r q.2 66 [(0, va_rf (some th)), (1, va_rf x1), (3, .int q.1)] [] := by
  refine lp_ind (fun (q : Int32 × Mem) => V Γ MD_Ps_readRange σ0 r q.2 66 [(0, va_rf (some th)), (1, va_rf x1), (3, .int q.1)] []) (fun q x hf ih ho => ?_)
  obtain ⟨x3, σ⟩ := q
  show V Γ MD_Ps_readRange σ0 r σ 66 [(0, va_rf (some th)), (1, va_rf x1), (3, .int x3)] []
  replace hf : Ps_readRange_l66 σ th x1 x3 = some x := hf
  unfold Ps_readRange_l66 at hf
  refine r_iload_n 2 dX3_readRange_66 rfl rfl ?_
  refine r_iconst (2 : Int32) dX3_readRange_67 (by decide) ?_
  refine r_icmp_ge 145 hf dX3_readRange_68 (by decide) (fun c20 hf => ?_) (fun c20 hf => ?_)
  · refine r_sub (L' := [(0, _)]) [0] rfl ?_
    exact hk1 _ (ho _ (Option.some.inj hf).symm)
  · refine r_aload_n 0 dX3_readRange_71 rfl rfl ?_
    refine r_ldI hf dX3_readRange_72 fl_RX3_45 rfl (fun v21 ev21 hf => ?_)
    refine r_bipush (45 : Int32) dX3_readRange_75 (by decide) ?_
    refine r_bd (fun (q22 : Int32) => V Γ MD_Ps_readRange σ0 r σ 85 [(0, va_rf (some th)), (1, va_rf x1), (3, .int x3)] [.int q22]) hf (fun q22 hf => ?_) (fun yq22 hf kq22 => ?_)
    · refine r_istore (L' := [(4, _), (0, _), (1, _), (3, _)]) dX3_readRange_85 (show 4 < 6 by decide) rfl ?_
      refine r_iload 0 dX3_readRange_87 rfl ?_
      refine r_bd (fun (q24 : Mem) => V Γ MD_Ps_readRange σ0 r q24 96 [(0, va_rf (some th)), (1, va_rf x1), (3, .int x3), (4, .int q22)] []) hf (fun q24 hf => ?_) (fun yq24 hf kq24 => ?_)
      · refine r_aload_n 0 dX3_readRange_96 rfl rfl ?_
        refine r_bipush (9 : Int32) dX3_readRange_97 (by decide) ?_
        refine r_chk hf (fun a28 xa28 ta28 hf => ?_)
        refine bnd hf (fun v29 ev29 hf => ?_)
        refine r_callVr (ci := 3) xa28 dX3_readRange_99 cs_RX3_88 ww_746 ww_22 (by decide) ta28 (by decide) rfl (rest := []) rfl (Or.inl (Nat.le_of_ble_eq_true rfl)) (t_Ps_number ev29) ?_
        refine r_istore (L' := [(5, _), (0, _), (1, _), (3, _), (4, _)]) dX3_readRange_102 (show 5 < 6 by decide) rfl ?_
        refine r_iload 0 dX3_readRange_104 rfl ?_
        refine r_if_ge 111 hf dX3_readRange_106 (by decide) (fun c30 hf => ?_) (fun c30 hf => ?_)
        · refine r_iload_n 3 dX3_readRange_111 rfl rfl ?_
          refine r_bd (fun (q31 : Mem) => V Γ MD_Ps_readRange σ0 r q31 125 [(0, va_rf (some th)), (1, va_rf x1), (3, .int x3), (4, .int q22), (5, .int v29)] []) hf (fun q31 hf => ?_) (fun yq31 hf kq31 => ?_)
          · refine r_aload_n 1 dX3_readRange_125 rfl rfl ?_
            refine r_iload 3 dX3_readRange_126 rfl ?_
            refine r_iload 4 dX3_readRange_128 rfl ?_
            refine r_imul dX3_readRange_130 ?_
            refine r_i2l dX3_readRange_131 ?_
            refine r_stL hf dX3_readRange_132 fl_RX3_125 rfl rfl (fun m34 em34 hf => ?_)
            refine r_aload_n 0 dX3_readRange_135 rfl rfl ?_
            refine r_chk hf (fun a35 xa35 ta35 hf => ?_)
            refine bnd hf (fun v36 ev36 hf => ?_)
            refine r_callVv (ci := 3) xa35 dX3_readRange_136 cs_RX3_38 ww_705 ww_15 (by decide) ta35 (by decide) rfl (rest := []) rfl (Or.inl (Nat.le_of_ble_eq_true rfl)) (t_Ps_advance ev36) ?_
            refine r_iinc (1 : Int32) (L' := [(3, _), (0, _), (1, _), (4, _), (5, _)]) 2 dX3_readRange_139 rfl (by decide) (show 3 < 6 by decide) rfl ?_
            refine r_goto 66 dX3_readRange_142 (by decide) ?_
            refine r_sub (L' := [(0, _), (1, _), (3, _)]) [1, 2, 0] rfl ?_
            exact ih _ (Option.some.inj hf).symm
          · refine r_if_ne 125 hf dX3_readRange_112 (by decide) (fun c32 hf => ?_) (fun c32 hf => ?_)
            · refine r_sub (L' := [(0, _), (1, _), (3, _), (4, _), (5, _)]) [1, 2, 3, 4, 0] rfl ?_
              cases (Option.some.inj hf)
              exact kq31
            · refine r_aload_n 2 dX3_readRange_115 rfl rfl ?_
              refine r_iload 4 dX3_readRange_116 rfl ?_
              refine r_iload 0 dX3_readRange_118 rfl ?_
              refine r_imul dX3_readRange_120 ?_
              refine r_i2l dX3_readRange_121 ?_
              refine r_stL hf dX3_readRange_122 fl_RX3_121 rfl rfl (fun m33 em33 hf => ?_)
              refine r_sub (L' := [(0, _), (1, _), (3, _), (4, _), (5, _)]) [1, 2, 3, 4, 0] rfl ?_
              cases (Option.some.inj hf)
              exact kq31
        · refine r_sub (L' := []) [] rfl ?_
          exact hk0 _ (ho _ (Option.some.inj hf).symm)
      · refine r_if_ge 96 hf dX3_readRange_89 (by decide) (fun c25 hf => ?_) (fun c25 hf => ?_)
        · refine r_sub (L' := [(0, _), (1, _), (3, _), (4, _)]) [1, 2, 3, 0] rfl ?_
          cases (Option.some.inj hf)
          exact kq24
        · refine r_aload_n 1 dX3_readRange_92 rfl rfl ?_
          refine r_chk hf (fun a26 xa26 ta26 hf => ?_)
          refine bnd hf (fun v27 ev27 hf => ?_)
          refine r_callVv (ci := 3) xa26 dX3_readRange_93 cs_RX3_38 ww_705 ww_15 (by decide) ta26 (by decide) rfl (rest := []) rfl (Or.inl (Nat.le_of_ble_eq_true rfl)) (t_Ps_advance ev27) ?_
          refine r_sub (L' := [(0, _), (1, _), (3, _), (4, _)]) [1, 2, 3, 0] rfl ?_
          cases (Option.some.inj hf)
          exact kq24
    · refine r_icmp_ne 84 hf dX3_readRange_77 (by decide) (fun c23 hf => ?_) (fun c23 hf => ?_)
      · refine r_iconst (1 : Int32) dX3_readRange_84 (by decide) ?_
        refine r_sub (L' := [(0, _), (1, _), (3, _)]) [0, 1, 2] rfl ?_
        cases (Option.some.inj hf)
        exact kq22
      · refine r_iconst (-1 : Int32) dX3_readRange_80 (by decide) ?_
        refine r_goto 85 dX3_readRange_81 (by decide) ?_
        refine r_sub (L' := [(0, _), (1, _), (3, _)]) [0, 1, 2] rfl ?_
        cases (Option.some.inj hf)
        exact kq22
set_option maxRecDepth 100000 in
set_option maxHeartbeats 4000000 in
theorem t_Ps_readRange {Γ : W0} {σ : Mem} {th : Nat} {x1 : Option Nat} {v : Bool} {σ' : Mem} (hf : Ps_readRange σ th x1 = some (v, σ')) : CT Γ MD_Ps_readRange yX3_readRange [va_rf (some th), va_rf x1] σ (some (.int (b2i v)), σ') := by
  refine CT.of (L := [(0, va_rf (some th)), (1, va_rf x1)]) rfl (by decide) (fun h => Bool.noConfusion (show false = true from h)) (by cases x1 <;> exact Nat.le_of_ble_eq_true rfl) (by cases x1 <;> rfl) ?_
  unfold Ps_readRange at hf
  generalize hr : mkR Γ σ (some (.int (b2i v))) σ' = r
  refine r_aload_n 1 dX3_readRange_0 rfl rfl ?_
  refine r_iconst (3 : Int32) dX3_readRange_1 (by decide) ?_
  refine r_stI hf dX3_readRange_2 fl_RX3_109 rfl rfl rfl (fun m1 em1 hf => ?_)
  refine r_aload_n 0 dX3_readRange_5 rfl rfl ?_
  refine r_chk hf (fun a2 xa2 ta2 hf => ?_)
  refine bnd hf (fun v3 ev3 hf => ?_)
  refine r_callVv (ci := 3) xa2 dX3_readRange_6 cs_RX3_38 ww_705 ww_15 (by decide) ta2 (by decide) rfl (rest := []) rfl (Or.inl (Nat.le_of_ble_eq_true rfl)) (t_Ps_advance ev3) ?_
  refine r_aload_n 0 dX3_readRange_9 rfl rfl ?_
  refine r_aload_n 0 dX3_readRange_10 rfl rfl ?_
  refine r_ldI hf dX3_readRange_11 fl_RX3_48 rfl (fun v4 ev4 hf => ?_)
  refine r_aload_n 0 dX3_readRange_14 rfl rfl ?_
  refine r_ldI hf dX3_readRange_15 fl_RX3_51 rfl (fun v5 ev5 hf => ?_)
  refine r_ldcS (i := 1) "x" dX3_readRange_18 (by decide +kernel) ?_
  refine r_chk hf (fun a6 xa6 ta6 hf => ?_)
  refine bnd hf (fun v7 ev7 hf => ?_)
  refine r_callVr (ci := 3) xa6 dX3_readRange_20 cs_RX3_112 ww_739 ww_21 (by decide) ta6 (by decide) rfl (rest := []) rfl (Or.inl (Nat.le_of_ble_eq_true rfl)) (t_Ps_wordIs ev7) ?_
  refine r_istore_n (i := 2) (L' := [(2, .int (b2i v7)), (0, va_rf (some th)), (1, va_rf x1)]) dX3_readRange_23 rfl (show 2 < 6 by decide) (by simp [List.filter, cat_rf, cat_i, cat_l]) ?_
  refine r_iload_n 0 dX3_readRange_24 rfl rfl ?_
  refine r_jn (fun (q8 : Unit) => V Γ MD_Ps_readRange σ r v3 47 [(0, va_rf (some th)), (1, va_rf x1), (2, .int (b2i v7))] []) hf (fun q8 hf => ?_) (fun yq8 hf oq8 kq8 => ?_)
  · refine r_aload_n 1 dX3_readRange_47 rfl rfl ?_
    refine r_iload_n 2 dX3_readRange_48 rfl rfl ?_
    refine r_bd (fun (q15 : Int32) => V Γ MD_Ps_readRange σ r v3 57 [(0, va_rf (some th)), (1, va_rf x1)] [.int q15, va_rf x1]) hf (fun q15 hf => ?_) (fun yq15 hf kq15 => ?_)
    · refine r_stI hf dX3_readRange_57 fl_RX3_118 rfl rfl rfl (fun m17 em17 hf => ?_)
      refine r_aload_n 0 dX3_readRange_60 rfl rfl ?_
      refine r_chk hf (fun a18 xa18 ta18 hf => ?_)
      refine bnd hf (fun v19 ev19 hf => ?_)
      refine r_callVv (ci := 3) xa18 dX3_readRange_61 cs_RX3_38 ww_705 ww_15 (by decide) ta18 (by decide) rfl (rest := []) rfl (Or.inl (Nat.le_of_ble_eq_true rfl)) (t_Ps_advance ev19) ?_
      refine r_iconst (0 : Int32) dX3_readRange_64 (by decide) ?_
      refine r_istore_n (L' := [(3, _), (0, _), (1, _)]) dX3_readRange_65 rfl (show 3 < 6 by decide) rfl ?_
      refine bnd hf (fun t37 et37 hf => ?_)
      refine r_sub (L' := [(0, _), (1, _), (3, _)]) [1, 2, 0] rfl ?_
      refine x_Ps_readRange_l66 ?_ ?_ _ et37
      · intro z38 hz38
        subst hz38
        simp only [se] at hf
        refine r_iconst (b2i false) dX3_readRange_109 rfl ?_
        exact r_zret rfl dX3_readRange_110 (by obtain ⟨h1, h2⟩ := Prod.mk.inj (Option.some.inj hf); subst h1; subst h2; exact hr.symm)
      · intro z39 hz39
        subst hz39
        simp only [se] at hf
        refine r_aload_n 0 dX3_readRange_145 rfl rfl ?_
        refine r_ldI hf dX3_readRange_146 fl_RX3_45 rfl (fun v40 ev40 hf => ?_)
        refine r_bipush (93 : Int32) dX3_readRange_149 (by decide) ?_
        refine r_icmp_eq 156 hf dX3_readRange_151 (by decide) (fun c41 hf => ?_) (fun c41 hf => ?_)
        · refine r_aload_n 0 dX3_readRange_156 rfl rfl ?_
          refine r_chk hf (fun a42 xa42 ta42 hf => ?_)
          refine bnd hf (fun v43 ev43 hf => ?_)
          refine r_callVv (ci := 3) xa42 dX3_readRange_157 cs_RX3_38 ww_705 ww_15 (by decide) ta42 (by decide) rfl (rest := []) rfl (Or.inl (Nat.le_of_ble_eq_true rfl)) (t_Ps_advance ev43) ?_
          refine r_iconst (b2i true) dX3_readRange_160 rfl ?_
          exact r_zret rfl dX3_readRange_161 (by obtain ⟨h1, h2⟩ := Prod.mk.inj (Option.some.inj hf); subst h1; subst h2; exact hr.symm)
        · refine r_iconst (b2i false) dX3_readRange_154 rfl ?_
          exact r_zret rfl dX3_readRange_155 (by obtain ⟨h1, h2⟩ := Prod.mk.inj (Option.some.inj hf); subst h1; subst h2; exact hr.symm)
    · refine r_ifeqZ 56 hf dX3_readRange_49 (by decide) (fun c16 hf => ?_) (fun c16 hf => ?_)
      · refine r_iconst (0 : Int32) dX3_readRange_52 (by decide) ?_
        refine r_goto 57 dX3_readRange_53 (by decide) ?_
        refine r_sub (L' := [(0, _), (1, _)]) [0, 1] rfl ?_
        cases (Option.some.inj hf)
        exact kq15
      · refine r_iconst (1 : Int32) dX3_readRange_56 (by decide) ?_
        refine r_sub (L' := [(0, _), (1, _)]) [0, 1] rfl ?_
        cases (Option.some.inj hf)
        exact kq15
  · refine r_ifneZ 47 hf dX3_readRange_25 (by decide) (fun c9 hf => ?_) (fun c9 hf => ?_)
    · refine r_sub (L' := [(0, _), (1, _), (2, _)]) [1, 2, 0] rfl ?_
      exact kq8 _ (Option.some.inj hf).symm
    · refine r_aload_n 1 dX3_readRange_28 rfl rfl ?_
      refine r_aload_n 1 dX3_readRange_29 rfl rfl ?_
      refine r_ldI hf dX3_readRange_30 fl_RX3_48 rfl (fun v10 ev10 hf => ?_)
      refine r_aload_n 1 dX3_readRange_33 rfl rfl ?_
      refine r_ldI hf dX3_readRange_34 fl_RX3_51 rfl (fun v11 ev11 hf => ?_)
      refine r_ldcS (i := 2) "y" dX3_readRange_37 (by decide +kernel) ?_
      refine r_chk hf (fun a12 xa12 ta12 hf => ?_)
      refine bnd hf (fun v13 ev13 hf => ?_)
      refine r_callVr (ci := 3) xa12 dX3_readRange_39 cs_RX3_112 ww_739 ww_21 (by decide) ta12 (by decide) rfl (rest := []) rfl (Or.inl (Nat.le_of_ble_eq_true rfl)) (t_Ps_wordIs ev13) ?_
      refine r_ifneZ 47 hf dX3_readRange_42 (by decide) (fun c14 hf => ?_) (fun c14 hf => ?_)
      · refine r_sub (L' := [(0, _), (1, _), (2, _)]) [1, 2, 0] rfl ?_
        exact kq8 _ (Option.some.inj hf).symm
      · refine r_iconst (b2i false) dX3_readRange_45 rfl ?_
        exact r_zret rfl dX3_readRange_46 (by obtain ⟨h1, h2⟩ := Prod.mk.inj (oq8 _ (Option.some.inj hf).symm); subst h1; subst h2; exact hr.symm)
/-! SearchEngine$Speller.isS -/
noncomputable def Sp_isS (σ : Mem) (x0 : Option Nat) (x1 : Int32) : Option Bool :=
  if x1 < 0 then
    some false
  else
    (alen σ 2 x0).bind fun v2 =>
    if v2 ≤ x1 then
      some false
    else
      (raI σ 2 x0 x1).bind fun v4 =>
      (Sp_signOf v4).bind fun v5 =>
      if ¬ v5 = (29 : Int32) then
        some false
      else
        some true
set_option maxRecDepth 100000 in
set_option maxHeartbeats 4000000 in
theorem t_Sp_isS {Γ : W0} {σ : Mem} {x0 : Option Nat} {x1 : Int32} {v : Bool} (hf : Sp_isS σ x0 x1 = some v) : CT Γ MD_Sp_isS yX7_isS [va_rf x0, .int x1] σ (some (.int (b2i v)), σ) := by
  refine CT.of (L := [(0, va_rf x0), (1, .int x1)]) rfl (by decide) (fun h => Bool.noConfusion (show false = true from h)) (by cases x0 <;> exact Nat.le_of_ble_eq_true rfl) (by cases x0 <;> rfl) ?_
  unfold Sp_isS at hf
  generalize hr : mkR Γ σ (some (.int (b2i v))) σ = r
  refine r_iload_n 1 dX7_isS_0 rfl rfl ?_
  refine r_if_lt 25 hf dX7_isS_1 (by decide) (fun c1 hf => ?_) (fun c1 hf => ?_)
  · refine r_iconst (b2i false) dX7_isS_25 rfl ?_
    exact r_zret rfl dX7_isS_26 (by have h1 := (Option.some.inj hf); subst h1; exact hr.symm)
  · refine r_iload_n 1 dX7_isS_4 rfl rfl ?_
    refine r_aload_n 0 dX7_isS_5 rfl rfl ?_
    refine r_alen hf dX7_isS_6 (by decide) (fun v2 ev2 hf => ?_)
    refine r_icmp_ge 25 hf dX7_isS_7 (by decide) (fun c3 hf => ?_) (fun c3 hf => ?_)
    · refine r_iconst (b2i false) dX7_isS_25 rfl ?_
      exact r_zret rfl dX7_isS_26 (by have h1 := (Option.some.inj hf); subst h1; exact hr.symm)
    · refine r_aload_n 0 dX7_isS_10 rfl rfl ?_
      refine r_iload_n 1 dX7_isS_11 rfl rfl ?_
      refine r_raY hf dX7_isS_12 (fun v4 ev4 hf => ?_)
      refine bnd hf (fun v5 ev5 hf => ?_)
      refine r_callSr dX7_isS_13 cs_RX7_32 ww_173 (by decide) rfl (rest := []) rfl (Or.inl (Nat.le_of_ble_eq_true rfl)) (t_Sp_signOf ev5) ?_
      refine r_bipush (29 : Int32) dX7_isS_16 (by decide) ?_
      refine r_icmp_ne 25 hf dX7_isS_18 (by decide) (fun c6 hf => ?_) (fun c6 hf => ?_)
      · refine r_iconst (b2i false) dX7_isS_25 rfl ?_
        exact r_zret rfl dX7_isS_26 (by have h1 := (Option.some.inj hf); subst h1; exact hr.symm)
      · refine r_iconst (b2i true) dX7_isS_21 rfl ?_
        refine r_goto 26 dX7_isS_22 (by decide) ?_
        exact r_zret rfl dX7_isS_26 (by have h1 := (Option.some.inj hf); subst h1; exact hr.symm)
/-! SearchEngine$Speller.isStop -/
noncomputable def Sp_isStop_l2 (σ : Mem) (th : Nat) (x1 : Int64) (x3 : Int32) : Option (Int32 ⊕ (Unit ⊕ Unit)) :=
  if (11 : Int32) ≤ x3 then
    some (Sum.inr (Sum.inr ()))
  else
    (ldR σ 7 2 (some th)).bind fun v2 =>
    (raL σ 1 v2 x3).bind fun v3 =>
    if ¬ v3 = x1 then
      some (Sum.inl (x3 + (1 : Int32)))
    else
      some (Sum.inr (Sum.inl ()))
noncomputable def Sp_isStop (σ : Mem) (th : Nat) (x1 : Int64) : Option Bool :=
  (lp (fun q => Sp_isStop_l2 σ th x1 q) (0 : Int32)).bind 
    (se (fun z6 =>
      some true)
      (fun z7 =>
        some false))
set_option maxRecDepth 100000 in
set_option maxHeartbeats 4000000 in
theorem x_Sp_isStop_l2 {Γ : W0} {σ0 : Mem} {r : RT} {σ : Mem} {th : Nat} {x1 : Int64} {t : Unit ⊕ Unit} (hk0 : ∀ z : Unit, (Sum.inl z) = t → V Γ MD_Sp_isStop σ0 r σ 19 [] []) (hk1 : ∀ z : Unit, (Sum.inr z) = t → V Γ MD_Sp_isStop σ0 r σ 27 [] []) : ∀ q : Int32, lp (fun q => Sp_isStop_l2 σ th x1 q) q = some t → V Γ MD_Sp_isStop σ0 r σ 2 [(0, va_rf (some th)), (1, .long x1), (3, .int q)] [] := by
  refine lp_ind (fun (q : Int32) => V Γ MD_Sp_isStop σ0 r σ 2 [(0, va_rf (some th)), (1, .long x1), (3, .int q)] []) (fun q x hf ih ho => ?_)
  revert hf ih
  generalize q = x3
  intro hf ih
  show V Γ MD_Sp_isStop σ0 r σ 2 [(0, va_rf (some th)), (1, .long x1), (3, .int x3)] []
  replace hf : Sp_isStop_l2 σ th x1 x3 = some x := hf
  unfold Sp_isStop_l2 at hf
  refine r_iload_n 2 dX7_isStop_2 rfl rfl ?_
  refine r_bipush (11 : Int32) dX7_isStop_3 (by decide) ?_
  refine r_icmp_ge 27 hf dX7_isStop_5 (by decide) (fun c1 hf => ?_) (fun c1 hf => ?_)
  · refine r_sub (L' := []) [] rfl ?_
    exact hk1 _ (ho _ (Option.some.inj hf).symm)
  · refine r_aload_n 0 dX7_isStop_8 rfl rfl ?_
    refine r_ldR hf dX7_isStop_9 fl_RX7_16 rfl (fun v2 ev2 hf => ?_)
    refine r_iload_n 2 dX7_isStop_12 rfl rfl ?_
    refine r_raL hf dX7_isStop_13 (fun v3 ev3 hf => ?_)
    refine r_lload_n 1 dX7_isStop_14 rfl rfl ?_
    refine r_lcmp_ne 21 hf dX7_isStop_15 dX7_isStop_16 (by decide) (fun c4 hf => ?_) (fun c4 hf => ?_)
    · refine r_iinc (1 : Int32) (L' := [(3, _), (0, _), (1, _)]) 2 dX7_isStop_21 rfl (by decide) (show 3 < 4 by decide) rfl ?_
      refine r_goto 2 dX7_isStop_24 (by decide) ?_
      refine r_sub (L' := [(0, _), (1, _), (3, _)]) [1, 2, 0] rfl ?_
      exact ih _ (Option.some.inj hf).symm
    · refine r_sub (L' := []) [] rfl ?_
      exact hk0 _ (ho _ (Option.some.inj hf).symm)
set_option maxRecDepth 100000 in
set_option maxHeartbeats 4000000 in
theorem t_Sp_isStop {Γ : W0} {σ : Mem} {th : Nat} {x1 : Int64} {v : Bool} (hf : Sp_isStop σ th x1 = some v) : CT Γ MD_Sp_isStop yX7_isStop [va_rf (some th), .long x1] σ (some (.int (b2i v)), σ) := by
  refine CT.of (L := [(0, va_rf (some th)), (1, .long x1)]) rfl (by decide) (fun h => Bool.noConfusion (show false = true from h)) (Nat.le_of_ble_eq_true rfl) rfl ?_
  unfold Sp_isStop at hf
  generalize hr : mkR Γ σ (some (.int (b2i v))) σ = r
  refine r_iconst (0 : Int32) dX7_isStop_0 (by decide) ?_
  refine r_istore_n (L' := [(3, _), (0, _), (1, _)]) dX7_isStop_1 rfl (show 3 < 4 by decide) rfl ?_
  refine bnd hf (fun t5 et5 hf => ?_)
  refine r_sub (L' := [(0, _), (1, _), (3, _)]) [1, 2, 0] rfl ?_
  refine x_Sp_isStop_l2 ?_ ?_ _ et5
  · intro z6 hz6
    subst hz6
    simp only [se] at hf
    refine r_iconst (b2i true) dX7_isStop_19 rfl ?_
    exact r_zret rfl dX7_isStop_20 (by have h1 := (Option.some.inj hf); subst h1; exact hr.symm)
  · intro z7 hz7
    subst hz7
    simp only [se] at hf
    refine r_iconst (b2i false) dX7_isStop_27 rfl ?_
    exact r_zret rfl dX7_isStop_28 (by have h1 := (Option.some.inj hf); subst h1; exact hr.symm)
