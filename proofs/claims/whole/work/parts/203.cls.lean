/-! methods as functions, with their walks (by program) -/
/-! SearchEngine$Speller.termOf -/
noncomputable def Sp_termOf (σ : Mem) (th : Nat) (x1 : Option Nat) (x2 : Int32) (x3 : Int32) : Option Int64 :=
  (ldB σ 7 0 (some th)).bind fun v1 =>
  Option.bind (
    if v1 = true then
      if (minI x3 (12 : Int32)) < (4 : Int32) then
        some (minI x3 (12 : Int32))
      else
        (Sp_isS σ x1 ((x2 + (minI x3 (12 : Int32))) - (1 : Int32))).bind fun v5 =>
        if v5 = true then
          (Sp_isS σ x1 (((x2 + (minI x3 (12 : Int32))) - (1 : Int32)) - (1 : Int32))).bind fun v7 =>
          if v7 = true then
            some (minI x3 (12 : Int32))
          else
            some ((minI x3 (12 : Int32)) + (-1 : Int32))
        else
          some (minI x3 (12 : Int32))
    else
      some (minI x3 (12 : Int32))) fun q2 =>
  (Sp_signsOf σ x1 x2 q2).bind fun v9 =>
  (Sp_padded v9 q2).bind fun v10 =>
  (ldB σ 7 1 (some th)).bind fun v11 =>
  if v11 = true then
    (chk σ 7 (some th)).bind fun a13 =>
    (Sp_isStop σ a13 v10).bind fun v14 =>
    if v14 = true then
      some (0 : Int64)
    else
      some v10
  else
    some v10
set_option maxRecDepth 100000 in
set_option maxHeartbeats 4000000 in
theorem t_Sp_termOf {Γ : W0} {σ : Mem} {th : Nat} {x1 : Option Nat} {x2 : Int32} {x3 : Int32} {v : Int64} (hf : Sp_termOf σ th x1 x2 x3 = some v) : CT Γ MD_Sp_termOf yX7_termOf [va_rf (some th), va_rf x1, .int x2, .int x3] σ (some (.long v), σ) := by
  refine CT.of (L := [(0, va_rf (some th)), (1, va_rf x1), (2, .int x2), (3, .int x3)]) rfl (by decide) (fun h => Bool.noConfusion (show false = true from h)) (by cases x1 <;> exact Nat.le_of_ble_eq_true rfl) (by cases x1 <;> rfl) ?_
  unfold Sp_termOf at hf
  generalize hr : mkR Γ σ (some (.long v)) σ = r
  refine r_iload_n 3 dX7_termOf_0 rfl rfl ?_
  refine r_bipush (12 : Int32) dX7_termOf_1 (by decide) ?_
  refine r_mmin dX7_termOf_3 ww_471 ww_439 ww_103 ww_440 (by decide) (Nat.le_of_ble_eq_true rfl) ?_
  refine r_istore (L' := [(4, _), (0, _), (1, _), (2, _), (3, _)]) dX7_termOf_6 (show 4 < 8 by decide) rfl ?_
  refine r_iload_n 3 dX7_termOf_8 rfl rfl ?_
  refine r_iload 0 dX7_termOf_9 rfl ?_
  refine r_iadd dX7_termOf_11 ?_
  refine r_iconst (1 : Int32) dX7_termOf_12 (by decide) ?_
  refine r_isub dX7_termOf_13 ?_
  refine r_istore (L' := [(5, _), (4, _), (0, _), (1, _), (2, _), (3, _)]) dX7_termOf_14 (show 5 < 8 by decide) rfl ?_
  refine r_aload_n 2 dX7_termOf_16 rfl rfl ?_
  refine r_ldB hf dX7_termOf_17 fl_RX7_9 rfl (fun v1 ev1 hf => ?_)
  refine r_bd (fun (q2 : Int32) => V Γ MD_Sp_termOf σ r σ 52 [(0, va_rf (some th)), (1, va_rf x1), (2, .int x2), (4, .int q2)] []) hf (fun q2 hf => ?_) (fun yq2 hf kq2 => ?_)
  · refine r_aload_n 1 dX7_termOf_52 rfl rfl ?_
    refine r_iload_n 2 dX7_termOf_53 rfl rfl ?_
    refine r_iload 3 dX7_termOf_54 rfl ?_
    refine bnd hf (fun v9 ev9 hf => ?_)
    refine r_callSr dX7_termOf_56 cs_RX7_56 ww_476 (by decide) rfl (rest := []) rfl (Or.inl (Nat.le_of_ble_eq_true rfl)) (t_Sp_signsOf ev9) ?_
    refine r_iload 3 dX7_termOf_59 rfl ?_
    refine bnd hf (fun v10 ev10 hf => ?_)
    refine r_callSr dX7_termOf_61 cs_RX7_38 ww_177 (by decide) rfl (rest := []) rfl (Or.inl (Nat.le_of_ble_eq_true rfl)) (t_Sp_padded ev10) ?_
    refine r_lstore (L' := [(6, _), (0, _), (1, _), (2, _), (4, _)]) dX7_termOf_64 (show 7 < 8 by decide) rfl ?_
    refine r_aload_n 1 dX7_termOf_66 rfl rfl ?_
    refine r_ldB hf dX7_termOf_67 fl_RX7_13 rfl (fun v11 ev11 hf => ?_)
    refine r_ifeqZ 86 hf dX7_termOf_70 (by decide) (fun c12 hf => ?_) (fun c12 hf => ?_)
    · refine r_aload_n 1 dX7_termOf_73 rfl rfl ?_
      refine r_lload 0 dX7_termOf_74 rfl ?_
      refine r_chk hf (fun a13 xa13 ta13 hf => ?_)
      refine bnd hf (fun v14 ev14 hf => ?_)
      refine r_callVr (ci := 7) xa13 dX7_termOf_76 cs_RX7_60 ww_480 ww_4 (by decide) ta13 (by decide) rfl (rest := []) rfl (Or.inl (Nat.le_of_ble_eq_true rfl)) (t_Sp_isStop ev14) ?_
      refine r_ifeqZ 86 hf dX7_termOf_79 (by decide) (fun c15 hf => ?_) (fun c15 hf => ?_)
      · refine r_lconst (0 : Int64) dX7_termOf_82 (by decide) ?_
        refine r_goto 88 dX7_termOf_83 (by decide) ?_
        exact r_lret rfl dX7_termOf_88 (by have h1 := (Option.some.inj hf); subst h1; exact hr.symm)
      · refine r_lload 0 dX7_termOf_86 rfl ?_
        exact r_lret rfl dX7_termOf_88 (by have h1 := (Option.some.inj hf); subst h1; exact hr.symm)
    · refine r_lload 0 dX7_termOf_86 rfl ?_
      exact r_lret rfl dX7_termOf_88 (by have h1 := (Option.some.inj hf); subst h1; exact hr.symm)
  · refine r_ifeqZ 52 hf dX7_termOf_20 (by decide) (fun c3 hf => ?_) (fun c3 hf => ?_)
    · refine r_iload 1 dX7_termOf_23 rfl ?_
      refine r_iconst (4 : Int32) dX7_termOf_25 (by decide) ?_
      refine r_icmp_lt 52 hf dX7_termOf_26 (by decide) (fun c4 hf => ?_) (fun c4 hf => ?_)
      · refine r_sub (L' := [(0, _), (1, _), (2, _), (4, _)]) [2, 3, 4, 1] rfl ?_
        cases (Option.some.inj hf)
        exact kq2
      · refine r_aload_n 3 dX7_termOf_29 rfl rfl ?_
        refine r_iload 0 dX7_termOf_30 rfl ?_
        refine bnd hf (fun v5 ev5 hf => ?_)
        refine r_callSr dX7_termOf_32 cs_RX7_52 ww_473 (by decide) rfl (rest := []) rfl (Or.inl (Nat.le_of_ble_eq_true rfl)) (t_Sp_isS ev5) ?_
        refine r_ifeqZ 52 hf dX7_termOf_35 (by decide) (fun c6 hf => ?_) (fun c6 hf => ?_)
        · refine r_aload_n 3 dX7_termOf_38 rfl rfl ?_
          refine r_iload 0 dX7_termOf_39 rfl ?_
          refine r_iconst (1 : Int32) dX7_termOf_41 (by decide) ?_
          refine r_isub dX7_termOf_42 ?_
          refine bnd hf (fun v7 ev7 hf => ?_)
          refine r_callSr dX7_termOf_43 cs_RX7_52 ww_473 (by decide) rfl (rest := []) rfl (Or.inl (Nat.le_of_ble_eq_true rfl)) (t_Sp_isS ev7) ?_
          refine r_ifneZ 52 hf dX7_termOf_46 (by decide) (fun c8 hf => ?_) (fun c8 hf => ?_)
          · refine r_sub (L' := [(0, _), (1, _), (2, _), (4, _)]) [2, 3, 4, 1] rfl ?_
            cases (Option.some.inj hf)
            exact kq2
          · refine r_iinc (-1 : Int32) (L' := [(4, _), (5, _), (0, _), (1, _), (2, _), (3, _)]) 1 dX7_termOf_49 rfl (by decide) (show 4 < 8 by decide) rfl ?_
            refine r_sub (L' := [(0, _), (1, _), (2, _), (4, _)]) [2, 3, 4, 0] rfl ?_
            cases (Option.some.inj hf)
            exact kq2
        · refine r_sub (L' := [(0, _), (1, _), (2, _), (4, _)]) [2, 3, 4, 1] rfl ?_
          cases (Option.some.inj hf)
          exact kq2
    · refine r_sub (L' := [(0, _), (1, _), (2, _), (4, _)]) [2, 3, 4, 1] rfl ?_
      cases (Option.some.inj hf)
      exact kq2
/-! SearchEngine$Part.takeTerm -/
noncomputable def Pa_takeTerm (σ : Mem) (th : Nat) (x1 : Int64) (x3 : Int32) : Option Mem :=
  if x1 = (0 : Int64) then
    some σ
  else
    (ldI σ 4 9 (some th)).bind fun v2 =>
    if (8 : Int32) ≤ v2 then
      some σ
    else
      (ldR σ 4 7 (some th)).bind fun v4 =>
      (ldI σ 4 9 (some th)).bind fun v5 =>
      (waL σ 1 v4 v5 x1).bind fun m6 =>
      (ldR m6 4 8 (some th)).bind fun v7 =>
      (ldI m6 4 9 (some th)).bind fun v8 =>
      (waI m6 0 v7 v8 x3).bind fun m9 =>
      (ldI m9 4 9 (some th)).bind fun v10 =>
      (stI m9 4 9 (some th) (v10 + (1 : Int32))).bind fun m11 =>
      some m11
set_option maxRecDepth 100000 in
set_option maxHeartbeats 4000000 in
theorem t_Pa_takeTerm {Γ : W0} {σ : Mem} {th : Nat} {x1 : Int64} {x3 : Int32} {σ' : Mem} (hf : Pa_takeTerm σ th x1 x3 = some σ') : CT Γ MD_Pa_takeTerm yX4_takeTerm [va_rf (some th), .long x1, .int x3] σ (none, σ') := by
  refine CT.of (L := [(0, va_rf (some th)), (1, .long x1), (3, .int x3)]) rfl (by decide) (fun h => Bool.noConfusion (show false = true from h)) (Nat.le_of_ble_eq_true rfl) rfl ?_
  unfold Pa_takeTerm at hf
  generalize hr : mkR Γ σ (none) σ' = r
  refine r_lload_n 1 dX4_takeTerm_0 rfl rfl ?_
  refine r_lconst (0 : Int64) dX4_takeTerm_1 (by decide) ?_
  refine r_lcmp_eq 45 hf dX4_takeTerm_2 dX4_takeTerm_3 (by decide) (fun c1 hf => ?_) (fun c1 hf => ?_)
  · exact r_vret rfl dX4_takeTerm_45 (by have h1 := (Option.some.inj hf); subst h1; exact hr.symm)
  · refine r_aload_n 0 dX4_takeTerm_6 rfl rfl ?_
    refine r_ldI hf dX4_takeTerm_7 fl_RX4_45 rfl (fun v2 ev2 hf => ?_)
    refine r_bipush (8 : Int32) dX4_takeTerm_10 (by decide) ?_
    refine r_icmp_ge 45 hf dX4_takeTerm_12 (by decide) (fun c3 hf => ?_) (fun c3 hf => ?_)
    · exact r_vret rfl dX4_takeTerm_45 (by have h1 := (Option.some.inj hf); subst h1; exact hr.symm)
    · refine r_aload_n 0 dX4_takeTerm_15 rfl rfl ?_
      refine r_ldR hf dX4_takeTerm_16 fl_RX4_9 rfl (fun v4 ev4 hf => ?_)
      refine r_aload_n 0 dX4_takeTerm_19 rfl rfl ?_
      refine r_ldI hf dX4_takeTerm_20 fl_RX4_45 rfl (fun v5 ev5 hf => ?_)
      refine r_lload_n 1 dX4_takeTerm_23 rfl rfl ?_
      refine r_waL hf dX4_takeTerm_24 (fun m6 em6 hf => ?_)
      refine r_aload_n 0 dX4_takeTerm_25 rfl rfl ?_
      refine r_ldR hf dX4_takeTerm_26 fl_RX4_15 rfl (fun v7 ev7 hf => ?_)
      refine r_aload_n 0 dX4_takeTerm_29 rfl rfl ?_
      refine r_ldI hf dX4_takeTerm_30 fl_RX4_45 rfl (fun v8 ev8 hf => ?_)
      refine r_iload_n 2 dX4_takeTerm_33 rfl rfl ?_
      refine r_waI hf dX4_takeTerm_34 (fun m9 em9 hf => ?_)
      refine r_aload_n 0 dX4_takeTerm_35 rfl rfl ?_
      refine r_dup dX4_takeTerm_36 (cat_rf _) ?_
      refine r_ldI hf dX4_takeTerm_37 fl_RX4_45 rfl (fun v10 ev10 hf => ?_)
      refine r_iconst (1 : Int32) dX4_takeTerm_40 (by decide) ?_
      refine r_iadd dX4_takeTerm_41 ?_
      refine r_stI hf dX4_takeTerm_42 fl_RX4_45 rfl rfl rfl (fun m11 em11 hf => ?_)
      exact r_vret rfl dX4_takeTerm_45 (by have h1 := (Option.some.inj hf); subst h1; exact hr.symm)
/-! SearchEngine$Parser.readPhrase -/
noncomputable def Ps_readPhrase_l11 (σ : Mem) (th : Nat) (x1 : Option Nat) (x2 : Int32) : Option ((Int32 × Mem) ⊕ (Int32 × Mem)) :=
  (ldI σ 3 4 (some th)).bind fun v4 =>
  if ¬ v4 = (256 : Int32) then
    some (Sum.inr (x2, σ))
  else
    if (8 : Int32) ≤ x2 then
      some (Sum.inr (x2, σ))
    else
      (ldR σ 3 2 (some th)).bind fun v7 =>
      (ldR σ 3 0 (some th)).bind fun v8 =>
      (ldI σ 3 5 (some th)).bind fun v9 =>
      (ldI σ 3 6 (some th)).bind fun v10 =>
      (ldI σ 3 5 (some th)).bind fun v11 =>
      (chk σ 7 v7).bind fun a12 =>
      (Sp_termOf σ a12 v8 v9 (v10 - v11)).bind fun v13 =>
      (chk σ 4 x1).bind fun a14 =>
      (Pa_takeTerm σ a14 v13 x2).bind fun v15 =>
      (chk v15 3 (some th)).bind fun a16 =>
      (Ps_advance v15 a16).bind fun v17 =>
      some (Sum.inl ((x2 + (1 : Int32)), v17))
noncomputable def Ps_readPhrase (σ : Mem) (th : Nat) (x1 : Option Nat) : Option (Bool × Mem) :=
  (stI σ 4 0 x1 (1 : Int32)).bind fun m1 =>
  (chk m1 3 (some th)).bind fun a2 =>
  (Ps_advance m1 a2).bind fun v3 =>
  (lp (fun q => Ps_readPhrase_l11 q.2 th x1 q.1) ((0 : Int32), v3)).bind fun z19 =>
  if z19.1 = 0 then
    some (false, z19.2)
  else
    (ldI z19.2 3 4 (some th)).bind fun v21 =>
    if v21 = (34 : Int32) then
      (chk z19.2 3 (some th)).bind fun a23 =>
      (Ps_advance z19.2 a23).bind fun v24 =>
      (ldI v24 3 4 (some th)).bind fun v25 =>
      if v25 = (126 : Int32) then
        (chk v24 3 (some th)).bind fun a27 =>
        (Ps_advance v24 a27).bind fun v28 =>
        (chk v28 3 (some th)).bind fun a29 =>
        (Ps_number v28 a29 (1 : Int32)).bind fun v30 =>
        (stI v28 4 10 x1 v30).bind fun m31 =>
        (ldI m31 4 10 x1).bind fun v32 =>
        if 0 ≤ v32 then
          (chk m31 3 (some th)).bind fun a34 =>
          (Ps_advance m31 a34).bind fun v35 =>
          some (true, v35)
        else
          some (false, m31)
      else
        some (true, v24)
    else
      some (false, z19.2)
set_option maxRecDepth 100000 in
set_option maxHeartbeats 4000000 in
theorem x_Ps_readPhrase_l11 {Γ : W0} {σ0 : Mem} {r : RT} {th : Nat} {x1 : Option Nat} {t : Int32 × Mem} (hk0 : ∀ z : Int32 × Mem, z = t → V Γ MD_Ps_readPhrase σ0 r z.2 66 [(0, va_rf (some th)), (1, va_rf x1), (2, .int z.1)] []) : ∀ q : Int32 × Mem, lp (fun q => Ps_readPhrase_l11 q.2 th x1 q.1) q = some t → V Γ MD_Ps_readPhrase σ0 r q.2 11 [(0, va_rf (some th)), (1, va_rf x1), (2, .int q.1)] [] := by
  refine lp_ind (fun (q : Int32 × Mem) => V Γ MD_Ps_readPhrase σ0 r q.2 11 [(0, va_rf (some th)), (1, va_rf x1), (2, .int q.1)] []) (fun q x hf ih ho => ?_)
  obtain ⟨x2, σ⟩ := q
  show V Γ MD_Ps_readPhrase σ0 r σ 11 [(0, va_rf (some th)), (1, va_rf x1), (2, .int x2)] []
  replace hf : Ps_readPhrase_l11 σ th x1 x2 = some x := hf
  unfold Ps_readPhrase_l11 at hf
  refine r_aload_n 0 dX3_readPhrase_11 rfl rfl ?_
  refine r_ldI hf dX3_readPhrase_12 fl_RX3_45 rfl (fun v4 ev4 hf => ?_)
  refine r_sipush (256 : Int32) dX3_readPhrase_15 (by decide) ?_
  refine r_icmp_ne 66 hf dX3_readPhrase_18 (by decide) (fun c5 hf => ?_) (fun c5 hf => ?_)
  · refine r_sub (L' := [(0, _), (1, _), (2, _)]) [0, 1, 2] rfl ?_
    exact hk0 _ (ho _ (Option.some.inj hf).symm)
  · refine r_iload_n 2 dX3_readPhrase_21 rfl rfl ?_
    refine r_bipush (8 : Int32) dX3_readPhrase_22 (by decide) ?_
    refine r_icmp_ge 66 hf dX3_readPhrase_24 (by decide) (fun c6 hf => ?_) (fun c6 hf => ?_)
    · refine r_sub (L' := [(0, _), (1, _), (2, _)]) [0, 1, 2] rfl ?_
      exact hk0 _ (ho _ (Option.some.inj hf).symm)
    · refine r_aload_n 1 dX3_readPhrase_27 rfl rfl ?_
      refine r_aload_n 0 dX3_readPhrase_28 rfl rfl ?_
      refine r_ldR hf dX3_readPhrase_29 fl_RX3_25 rfl (fun v7 ev7 hf => ?_)
      refine r_aload_n 0 dX3_readPhrase_32 rfl rfl ?_
      refine r_ldR hf dX3_readPhrase_33 fl_RX3_9 rfl (fun v8 ev8 hf => ?_)
      refine r_aload_n 0 dX3_readPhrase_36 rfl rfl ?_
      refine r_ldI hf dX3_readPhrase_37 fl_RX3_48 rfl (fun v9 ev9 hf => ?_)
      refine r_aload_n 0 dX3_readPhrase_40 rfl rfl ?_
      refine r_ldI hf dX3_readPhrase_41 fl_RX3_51 rfl (fun v10 ev10 hf => ?_)
      refine r_aload_n 0 dX3_readPhrase_44 rfl rfl ?_
      refine r_ldI hf dX3_readPhrase_45 fl_RX3_48 rfl (fun v11 ev11 hf => ?_)
      refine r_isub dX3_readPhrase_48 ?_
      refine r_chk hf (fun a12 xa12 ta12 hf => ?_)
      refine bnd hf (fun v13 ev13 hf => ?_)
      refine r_callVr (ci := 7) xa12 dX3_readPhrase_49 cs_RX3_128 ww_468 ww_469 (by decide) ta12 (by decide) rfl (rest := [_]) rfl (Or.inl (Nat.le_of_ble_eq_true rfl)) (t_Sp_termOf ev13) ?_
      refine r_iload_n 2 dX3_readPhrase_52 rfl rfl ?_
      refine r_chk hf (fun a14 xa14 ta14 hf => ?_)
      refine bnd hf (fun v15 ev15 hf => ?_)
      refine r_callVv (ci := 4) xa14 dX3_readPhrase_53 cs_RX3_132 ww_754 ww_755 (by decide) ta14 (by decide) rfl (rest := []) rfl (Or.inl (Nat.le_of_ble_eq_true rfl)) (t_Pa_takeTerm ev15) ?_
      refine r_iinc (1 : Int32) (L' := [(2, .int (x2 + (1 : Int32))), (0, va_rf (some th)), (1, va_rf x1)]) 2 dX3_readPhrase_56 rfl (by decide) (show 2 < 3 by decide) (by simp [List.filter, cat_rf, cat_i, cat_l]) ?_
      refine r_aload_n 1 dX3_readPhrase_59 rfl rfl ?_
      refine r_chk hf (fun a16 xa16 ta16 hf => ?_)
      refine bnd hf (fun v17 ev17 hf => ?_)
      refine r_callVv (ci := 3) xa16 dX3_readPhrase_60 cs_RX3_38 ww_705 ww_15 (by decide) ta16 (by decide) rfl (rest := []) rfl (Or.inl (Nat.le_of_ble_eq_true rfl)) (t_Ps_advance ev17) ?_
      refine r_goto 11 dX3_readPhrase_63 (by decide) ?_
      refine r_sub (L' := [(0, _), (1, _), (2, _)]) [1, 2, 0] rfl ?_
      exact ih _ (Option.some.inj hf).symm
set_option maxRecDepth 100000 in
set_option maxHeartbeats 4000000 in
theorem t_Ps_readPhrase {Γ : W0} {σ : Mem} {th : Nat} {x1 : Option Nat} {v : Bool} {σ' : Mem} (hf : Ps_readPhrase σ th x1 = some (v, σ')) : CT Γ MD_Ps_readPhrase yX3_readPhrase [va_rf (some th), va_rf x1] σ (some (.int (b2i v)), σ') := by
  refine CT.of (L := [(0, va_rf (some th)), (1, va_rf x1)]) rfl (by decide) (fun h => Bool.noConfusion (show false = true from h)) (by cases x1 <;> exact Nat.le_of_ble_eq_true rfl) (by cases x1 <;> rfl) ?_
  unfold Ps_readPhrase at hf
  generalize hr : mkR Γ σ (some (.int (b2i v))) σ' = r
  refine r_aload_n 1 dX3_readPhrase_0 rfl rfl ?_
  refine r_iconst (1 : Int32) dX3_readPhrase_1 (by decide) ?_
  refine r_stI hf dX3_readPhrase_2 fl_RX3_109 rfl rfl rfl (fun m1 em1 hf => ?_)
  refine r_aload_n 0 dX3_readPhrase_5 rfl rfl ?_
  refine r_chk hf (fun a2 xa2 ta2 hf => ?_)
  refine bnd hf (fun v3 ev3 hf => ?_)
  refine r_callVv (ci := 3) xa2 dX3_readPhrase_6 cs_RX3_38 ww_705 ww_15 (by decide) ta2 (by decide) rfl (rest := []) rfl (Or.inl (Nat.le_of_ble_eq_true rfl)) (t_Ps_advance ev3) ?_
  refine r_iconst (0 : Int32) dX3_readPhrase_9 (by decide) ?_
  refine r_istore_n (i := 2) (L' := [(2, .int (0 : Int32)), (0, va_rf (some th)), (1, va_rf x1)]) dX3_readPhrase_10 rfl (show 2 < 3 by decide) (by simp [List.filter, cat_rf, cat_i, cat_l]) ?_
  refine bnd hf (fun t18 et18 hf => ?_)
  refine r_sub (L' := [(0, _), (1, _), (2, _)]) [1, 2, 0] rfl ?_
  refine x_Ps_readPhrase_l11 ?_ _ et18
  · intro z19 hz19
    subst hz19
    refine r_iload_n 2 dX3_readPhrase_66 rfl rfl ?_
    refine r_if_eq 79 hf dX3_readPhrase_67 (by decide) (fun c20 hf => ?_) (fun c20 hf => ?_)
    · refine r_iconst (b2i false) dX3_readPhrase_79 rfl ?_
      exact r_zret rfl dX3_readPhrase_80 (by obtain ⟨h1, h2⟩ := Prod.mk.inj (Option.some.inj hf); subst h1; subst h2; exact hr.symm)
    · refine r_aload_n 0 dX3_readPhrase_70 rfl rfl ?_
      refine r_ldI hf dX3_readPhrase_71 fl_RX3_45 rfl (fun v21 ev21 hf => ?_)
      refine r_bipush (34 : Int32) dX3_readPhrase_74 (by decide) ?_
      refine r_icmp_eq 81 hf dX3_readPhrase_76 (by decide) (fun c22 hf => ?_) (fun c22 hf => ?_)
      · refine r_aload_n 0 dX3_readPhrase_81 rfl rfl ?_
        refine r_chk hf (fun a23 xa23 ta23 hf => ?_)
        refine bnd hf (fun v24 ev24 hf => ?_)
        refine r_callVv (ci := 3) xa23 dX3_readPhrase_82 cs_RX3_38 ww_705 ww_15 (by decide) ta23 (by decide) rfl (rest := []) rfl (Or.inl (Nat.le_of_ble_eq_true rfl)) (t_Ps_advance ev24) ?_
        refine r_aload_n 0 dX3_readPhrase_85 rfl rfl ?_
        refine r_ldI hf dX3_readPhrase_86 fl_RX3_45 rfl (fun v25 ev25 hf => ?_)
        refine r_bipush (126 : Int32) dX3_readPhrase_89 (by decide) ?_
        refine r_icmp_eq 96 hf dX3_readPhrase_91 (by decide) (fun c26 hf => ?_) (fun c26 hf => ?_)
        · refine r_aload_n 0 dX3_readPhrase_96 rfl rfl ?_
          refine r_chk hf (fun a27 xa27 ta27 hf => ?_)
          refine bnd hf (fun v28 ev28 hf => ?_)
          refine r_callVv (ci := 3) xa27 dX3_readPhrase_97 cs_RX3_38 ww_705 ww_15 (by decide) ta27 (by decide) rfl (rest := []) rfl (Or.inl (Nat.le_of_ble_eq_true rfl)) (t_Ps_advance ev28) ?_
          refine r_aload_n 1 dX3_readPhrase_100 rfl rfl ?_
          refine r_aload_n 0 dX3_readPhrase_101 rfl rfl ?_
          refine r_iconst (1 : Int32) dX3_readPhrase_102 (by decide) ?_
          refine r_chk hf (fun a29 xa29 ta29 hf => ?_)
          refine bnd hf (fun v30 ev30 hf => ?_)
          refine r_callVr (ci := 3) xa29 dX3_readPhrase_103 cs_RX3_88 ww_746 ww_22 (by decide) ta29 (by decide) rfl (rest := [_]) rfl (Or.inl (Nat.le_of_ble_eq_true rfl)) (t_Ps_number ev30) ?_
          refine r_stI hf dX3_readPhrase_106 fl_RX3_136 rfl rfl rfl (fun m31 em31 hf => ?_)
          refine r_aload_n 1 dX3_readPhrase_109 rfl rfl ?_
          refine r_ldI hf dX3_readPhrase_110 fl_RX3_136 rfl (fun v32 ev32 hf => ?_)
          refine r_if_ge 118 hf dX3_readPhrase_113 (by decide) (fun c33 hf => ?_) (fun c33 hf => ?_)
          · refine r_aload_n 0 dX3_readPhrase_118 rfl rfl ?_
            refine r_chk hf (fun a34 xa34 ta34 hf => ?_)
            refine bnd hf (fun v35 ev35 hf => ?_)
            refine r_callVv (ci := 3) xa34 dX3_readPhrase_119 cs_RX3_38 ww_705 ww_15 (by decide) ta34 (by decide) rfl (rest := []) rfl (Or.inl (Nat.le_of_ble_eq_true rfl)) (t_Ps_advance ev35) ?_
            refine r_iconst (b2i true) dX3_readPhrase_122 rfl ?_
            exact r_zret rfl dX3_readPhrase_123 (by obtain ⟨h1, h2⟩ := Prod.mk.inj (Option.some.inj hf); subst h1; subst h2; exact hr.symm)
          · refine r_iconst (b2i false) dX3_readPhrase_116 rfl ?_
            exact r_zret rfl dX3_readPhrase_117 (by obtain ⟨h1, h2⟩ := Prod.mk.inj (Option.some.inj hf); subst h1; subst h2; exact hr.symm)
        · refine r_iconst (b2i true) dX3_readPhrase_94 rfl ?_
          exact r_zret rfl dX3_readPhrase_95 (by obtain ⟨h1, h2⟩ := Prod.mk.inj (Option.some.inj hf); subst h1; subst h2; exact hr.symm)
      · refine r_iconst (b2i false) dX3_readPhrase_79 rfl ?_
        exact r_zret rfl dX3_readPhrase_80 (by obtain ⟨h1, h2⟩ := Prod.mk.inj (Option.some.inj hf); subst h1; subst h2; exact hr.symm)
/-! SearchEngine$Parser.fieldNamed -/
noncomputable def Ps_fieldNamed (σ : Mem) (th : Nat) (x1 : Int32) (x2 : Int32) : Option Int32 :=
  (chk σ 3 (some th)).bind fun a1 =>
  (Ps_wordIs σ a1 x1 x2 3).bind fun v2 =>
  if v2 = true then
    some (0 : Int32)
  else
    (chk σ 3 (some th)).bind fun a4 =>
    (Ps_wordIs σ a4 x1 x2 4).bind fun v5 =>
    if v5 = true then
      some (1 : Int32)
    else
      some (-1 : Int32)
set_option maxRecDepth 100000 in
set_option maxHeartbeats 4000000 in
theorem t_Ps_fieldNamed {Γ : W0} {σ : Mem} {th : Nat} {x1 : Int32} {x2 : Int32} {v : Int32} (hf : Ps_fieldNamed σ th x1 x2 = some v) : CT Γ MD_Ps_fieldNamed yX3_fieldNamed [va_rf (some th), .int x1, .int x2] σ (some (.int v), σ) := by
  refine CT.of (L := [(0, va_rf (some th)), (1, .int x1), (2, .int x2)]) rfl (by decide) (fun h => Bool.noConfusion (show false = true from h)) (Nat.le_of_ble_eq_true rfl) rfl ?_
  unfold Ps_fieldNamed at hf
  generalize hr : mkR Γ σ (some (.int v)) σ = r
  refine r_aload_n 0 dX3_fieldNamed_0 rfl rfl ?_
  refine r_iload_n 1 dX3_fieldNamed_1 rfl rfl ?_
  refine r_iload_n 2 dX3_fieldNamed_2 rfl rfl ?_
  refine r_ldcS (i := 3) "title" dX3_fieldNamed_3 (by decide +kernel) ?_
  refine r_chk hf (fun a1 xa1 ta1 hf => ?_)
  refine bnd hf (fun v2 ev2 hf => ?_)
  refine r_callVr (ci := 3) xa1 dX3_fieldNamed_5 cs_RX3_112 ww_739 ww_21 (by decide) ta1 (by decide) rfl (rest := []) rfl (Or.inl (Nat.le_of_ble_eq_true rfl)) (t_Ps_wordIs ev2) ?_
  refine r_ifeqZ 13 hf dX3_fieldNamed_8 (by decide) (fun c3 hf => ?_) (fun c3 hf => ?_)
  · refine r_iconst (0 : Int32) dX3_fieldNamed_11 (by decide) ?_
    exact r_iret rfl dX3_fieldNamed_12 (by have h1 := (Option.some.inj hf); subst h1; exact hr.symm)
  · refine r_aload_n 0 dX3_fieldNamed_13 rfl rfl ?_
    refine r_iload_n 1 dX3_fieldNamed_14 rfl rfl ?_
    refine r_iload_n 2 dX3_fieldNamed_15 rfl rfl ?_
    refine r_ldcS (i := 4) "body" dX3_fieldNamed_16 (by decide +kernel) ?_
    refine r_chk hf (fun a4 xa4 ta4 hf => ?_)
    refine bnd hf (fun v5 ev5 hf => ?_)
    refine r_callVr (ci := 3) xa4 dX3_fieldNamed_18 cs_RX3_112 ww_739 ww_21 (by decide) ta4 (by decide) rfl (rest := []) rfl (Or.inl (Nat.le_of_ble_eq_true rfl)) (t_Ps_wordIs ev5) ?_
    refine r_ifeqZ 28 hf dX3_fieldNamed_21 (by decide) (fun c6 hf => ?_) (fun c6 hf => ?_)
    · refine r_iconst (1 : Int32) dX3_fieldNamed_24 (by decide) ?_
      refine r_goto 29 dX3_fieldNamed_25 (by decide) ?_
      exact r_iret rfl dX3_fieldNamed_29 (by have h1 := (Option.some.inj hf); subst h1; exact hr.symm)
    · refine r_iconst (-1 : Int32) dX3_fieldNamed_28 (by decide) ?_
      exact r_iret rfl dX3_fieldNamed_29 (by have h1 := (Option.some.inj hf); subst h1; exact hr.symm)
/-! SearchEngine$Speller.greatestBeginning -/
noncomputable def Sp_greatestBeginning (σ : Mem) (x0 : Option Nat) (x1 : Int32) (x2 : Int32) : Option Int64 :=
  (Sp_signsOf σ x0 x1 (minI x2 (12 : Int32))).bind fun v1 =>
  (Sp_padded (v1 + (1 : Int64)) (minI x2 (12 : Int32))).bind fun v2 =>
  some (v2 - (1 : Int64))
set_option maxRecDepth 100000 in
set_option maxHeartbeats 4000000 in
theorem t_Sp_greatestBeginning {Γ : W0} {σ : Mem} {x0 : Option Nat} {x1 : Int32} {x2 : Int32} {v : Int64} (hf : Sp_greatestBeginning σ x0 x1 x2 = some v) : CT Γ MD_Sp_greatestBeginning yX7_greatestBeginning [va_rf x0, .int x1, .int x2] σ (some (.long v), σ) := by
  refine CT.of (L := [(0, va_rf x0), (1, .int x1), (2, .int x2)]) rfl (by decide) (fun h => Bool.noConfusion (show false = true from h)) (by cases x0 <;> exact Nat.le_of_ble_eq_true rfl) (by cases x0 <;> rfl) ?_
  unfold Sp_greatestBeginning at hf
  generalize hr : mkR Γ σ (some (.long v)) σ = r
  refine r_iload_n 2 dX7_greatestBeginning_0 rfl rfl ?_
  refine r_bipush (12 : Int32) dX7_greatestBeginning_1 (by decide) ?_
  refine r_mmin dX7_greatestBeginning_3 ww_471 ww_439 ww_103 ww_440 (by decide) (Nat.le_of_ble_eq_true rfl) ?_
  refine r_istore_n (L' := [(3, _), (0, _), (1, _), (2, _)]) dX7_greatestBeginning_6 rfl (show 3 < 4 by decide) rfl ?_
  refine r_aload_n 1 dX7_greatestBeginning_7 rfl rfl ?_
  refine r_iload_n 2 dX7_greatestBeginning_8 rfl rfl ?_
  refine r_iload_n 0 dX7_greatestBeginning_9 rfl rfl ?_
  refine bnd hf (fun v1 ev1 hf => ?_)
  refine r_callSr dX7_greatestBeginning_10 cs_RX7_56 ww_476 (by decide) rfl (rest := []) rfl (Or.inl (Nat.le_of_ble_eq_true rfl)) (t_Sp_signsOf ev1) ?_
  refine r_lconst (1 : Int64) dX7_greatestBeginning_13 (by decide) ?_
  refine r_ladd dX7_greatestBeginning_14 ?_
  refine r_iload_n 0 dX7_greatestBeginning_15 rfl rfl ?_
  refine bnd hf (fun v2 ev2 hf => ?_)
  refine r_callSr dX7_greatestBeginning_16 cs_RX7_38 ww_177 (by decide) rfl (rest := []) rfl (Or.inl (Nat.le_of_ble_eq_true rfl)) (t_Sp_padded ev2) ?_
  refine r_lconst (1 : Int64) dX7_greatestBeginning_19 (by decide) ?_
  refine r_lsub dX7_greatestBeginning_20 ?_
  exact r_lret rfl dX7_greatestBeginning_21 (by have h1 := (Option.some.inj hf); subst h1; exact hr.symm)
/-! SearchEngine$Parser.readWord -/
noncomputable def Ps_readWord (σ : Mem) (th : Nat) (x1 : Option Nat) : Option (Bool × Mem) :=
  (ldI σ 3 5 (some th)).bind fun v1 =>
  (ldI σ 3 6 (some th)).bind fun v2 =>
  (chk σ 3 (some th)).bind fun a3 =>
  (Ps_advance σ a3).bind fun v4 =>
  (chk v4 3 (some th)).bind fun a5 =>
  (Ps_fieldNamed v4 a5 v1 v2).bind fun v6 =>
  (ldI v4 3 4 (some th)).bind fun v7 =>
  jn (
    if ¬ v7 = (58 : Int32) then
      some (Sum.inr (v1, v2, v4))
    else
      if v6 < 0 then
        some (Sum.inr (v1, v2, v4))
      else
        (stI v4 4 1 x1 v6).bind fun m11 =>
        (chk m11 3 (some th)).bind fun a12 =>
        (Ps_advance m11 a12).bind fun v13 =>
        (ldI v13 3 4 (some th)).bind fun v14 =>
        if ¬ v14 = (34 : Int32) then
          (ldI v13 3 4 (some th)).bind fun v16 =>
          if v16 = (256 : Int32) then
            (ldI v13 3 5 (some th)).bind fun v18 =>
            (ldI v13 3 6 (some th)).bind fun v19 =>
            (chk v13 3 (some th)).bind fun a20 =>
            (Ps_advance v13 a20).bind fun v21 =>
            some (Sum.inr (v18, v19, v21))
          else
            some (Sum.inl (false, v13))
        else
          (chk v13 3 (some th)).bind fun a22 =>
          (Ps_readPhrase v13 a22 x1).bind fun v23 =>
          some (Sum.inl (v23.1, v23.2))) fun q8 =>
  (ldI q8.2.2 3 4 (some th)).bind fun v24 =>
  if ¬ v24 = (42 : Int32) then
    (stI q8.2.2 4 0 x1 (1 : Int32)).bind fun m26 =>
    (ldR m26 3 2 (some th)).bind fun v27 =>
    (ldR m26 3 0 (some th)).bind fun v28 =>
    (chk m26 7 v27).bind fun a29 =>
    (Sp_termOf m26 a29 v28 q8.1 (q8.2.1 - q8.1)).bind fun v30 =>
    (chk m26 4 x1).bind fun a31 =>
    (Pa_takeTerm m26 a31 v30 (0 : Int32)).bind fun v32 =>
    some (true, v32)
  else
    (stI q8.2.2 4 0 x1 (2 : Int32)).bind fun m33 =>
    (ldR m33 3 0 (some th)).bind fun v34 =>
    (Sp_leastBeginning m33 v34 q8.1 (q8.2.1 - q8.1)).bind fun v35 =>
    (stL m33 4 12 x1 v35).bind fun m36 =>
    (ldR m36 3 0 (some th)).bind fun v37 =>
    (Sp_greatestBeginning m36 v37 q8.1 (q8.2.1 - q8.1)).bind fun v38 =>
    (stL m36 4 13 x1 v38).bind fun m39 =>
    (chk m39 3 (some th)).bind fun a40 =>
    (Ps_advance m39 a40).bind fun v41 =>
    some (true, v41)
set_option maxRecDepth 100000 in
set_option maxHeartbeats 4000000 in
theorem t_Ps_readWord {Γ : W0} {σ : Mem} {th : Nat} {x1 : Option Nat} {v : Bool} {σ' : Mem} (hf : Ps_readWord σ th x1 = some (v, σ')) : CT Γ MD_Ps_readWord yX3_readWord [va_rf (some th), va_rf x1] σ (some (.int (b2i v)), σ') := by
  refine CT.of (L := [(0, va_rf (some th)), (1, va_rf x1)]) rfl (by decide) (fun h => Bool.noConfusion (show false = true from h)) (by cases x1 <;> exact Nat.le_of_ble_eq_true rfl) (by cases x1 <;> rfl) ?_
  unfold Ps_readWord at hf
  generalize hr : mkR Γ σ (some (.int (b2i v))) σ' = r
  refine r_aload_n 0 dX3_readWord_0 rfl rfl ?_
  refine r_ldI hf dX3_readWord_1 fl_RX3_48 rfl (fun v1 ev1 hf => ?_)
  refine r_istore_n (i := 2) (L' := [(2, .int v1), (0, va_rf (some th)), (1, va_rf x1)]) dX3_readWord_4 rfl (show 2 < 5 by decide) (by simp [List.filter, cat_rf, cat_i, cat_l]) ?_
  refine r_aload_n 1 dX3_readWord_5 rfl rfl ?_
  refine r_ldI hf dX3_readWord_6 fl_RX3_51 rfl (fun v2 ev2 hf => ?_)
  refine r_istore_n (L' := [(3, _), (2, _), (0, _), (1, _)]) dX3_readWord_9 rfl (show 3 < 5 by decide) rfl ?_
  refine r_aload_n 2 dX3_readWord_10 rfl rfl ?_
  refine r_chk hf (fun a3 xa3 ta3 hf => ?_)
  refine bnd hf (fun v4 ev4 hf => ?_)
  refine r_callVv (ci := 3) xa3 dX3_readWord_11 cs_RX3_38 ww_705 ww_15 (by decide) ta3 (by decide) rfl (rest := []) rfl (Or.inl (Nat.le_of_ble_eq_true rfl)) (t_Ps_advance ev4) ?_
  refine r_aload_n 2 dX3_readWord_14 rfl rfl ?_
  refine r_iload_n 1 dX3_readWord_15 rfl rfl ?_
  refine r_iload_n 0 dX3_readWord_16 rfl rfl ?_
  refine r_chk hf (fun a5 xa5 ta5 hf => ?_)
  refine bnd hf (fun v6 ev6 hf => ?_)
  refine r_callVr (ci := 3) xa5 dX3_readWord_17 cs_RX3_139 ww_763 ww_25 (by decide) ta5 (by decide) rfl (rest := []) rfl (Or.inl (Nat.le_of_ble_eq_true rfl)) (t_Ps_fieldNamed ev6) ?_
  refine r_istore (L' := [(4, _), (3, _), (2, _), (0, _), (1, _)]) dX3_readWord_20 (show 4 < 5 by decide) rfl ?_
  refine r_aload_n 3 dX3_readWord_22 rfl rfl ?_
  refine r_ldI hf dX3_readWord_23 fl_RX3_45 rfl (fun v7 ev7 hf => ?_)
  refine r_bipush (58 : Int32) dX3_readWord_26 (by decide) ?_
  refine r_jn (fun (q8 : Int32 × Int32 × Mem) => V Γ MD_Ps_readWord σ r q8.2.2 87 [(0, va_rf (some th)), (1, va_rf x1), (2, .int q8.1), (3, .int q8.2.1)] []) hf (fun q8 hf => ?_) (fun yq8 hf oq8 kq8 => ?_)
  · refine r_aload_n 0 dX3_readWord_87 rfl rfl ?_
    refine r_ldI hf dX3_readWord_88 fl_RX3_45 rfl (fun v24 ev24 hf => ?_)
    refine r_bipush (42 : Int32) dX3_readWord_91 (by decide) ?_
    refine r_icmp_ne 138 hf dX3_readWord_93 (by decide) (fun c25 hf => ?_) (fun c25 hf => ?_)
    · refine r_aload_n 1 dX3_readWord_138 rfl rfl ?_
      refine r_iconst (1 : Int32) dX3_readWord_139 (by decide) ?_
      refine r_stI hf dX3_readWord_140 fl_RX3_109 rfl rfl rfl (fun m26 em26 hf => ?_)
      refine r_aload_n 1 dX3_readWord_143 rfl rfl ?_
      refine r_aload_n 0 dX3_readWord_144 rfl rfl ?_
      refine r_ldR hf dX3_readWord_145 fl_RX3_25 rfl (fun v27 ev27 hf => ?_)
      refine r_aload_n 0 dX3_readWord_148 rfl rfl ?_
      refine r_ldR hf dX3_readWord_149 fl_RX3_9 rfl (fun v28 ev28 hf => ?_)
      refine r_iload_n 2 dX3_readWord_152 rfl rfl ?_
      refine r_iload_n 3 dX3_readWord_153 rfl rfl ?_
      refine r_iload_n 2 dX3_readWord_154 rfl rfl ?_
      refine r_isub dX3_readWord_155 ?_
      refine r_chk hf (fun a29 xa29 ta29 hf => ?_)
      refine bnd hf (fun v30 ev30 hf => ?_)
      refine r_callVr (ci := 7) xa29 dX3_readWord_156 cs_RX3_128 ww_468 ww_469 (by decide) ta29 (by decide) rfl (rest := [_]) rfl (Or.inl (Nat.le_of_ble_eq_true rfl)) (t_Sp_termOf ev30) ?_
      refine r_iconst (0 : Int32) dX3_readWord_159 (by decide) ?_
      refine r_chk hf (fun a31 xa31 ta31 hf => ?_)
      refine bnd hf (fun v32 ev32 hf => ?_)
      refine r_callVv (ci := 4) xa31 dX3_readWord_160 cs_RX3_132 ww_754 ww_755 (by decide) ta31 (by decide) rfl (rest := []) rfl (Or.inl (Nat.le_of_ble_eq_true rfl)) (t_Pa_takeTerm ev32) ?_
      refine r_iconst (b2i true) dX3_readWord_163 rfl ?_
      exact r_zret rfl dX3_readWord_164 (by obtain ⟨h1, h2⟩ := Prod.mk.inj (Option.some.inj hf); subst h1; subst h2; exact hr.symm)
    · refine r_aload_n 1 dX3_readWord_96 rfl rfl ?_
      refine r_iconst (2 : Int32) dX3_readWord_97 (by decide) ?_
      refine r_stI hf dX3_readWord_98 fl_RX3_109 rfl rfl rfl (fun m33 em33 hf => ?_)
      refine r_aload_n 1 dX3_readWord_101 rfl rfl ?_
      refine r_aload_n 0 dX3_readWord_102 rfl rfl ?_
      refine r_ldR hf dX3_readWord_103 fl_RX3_9 rfl (fun v34 ev34 hf => ?_)
      refine r_iload_n 2 dX3_readWord_106 rfl rfl ?_
      refine r_iload_n 3 dX3_readWord_107 rfl rfl ?_
      refine r_iload_n 2 dX3_readWord_108 rfl rfl ?_
      refine r_isub dX3_readWord_109 ?_
      refine bnd hf (fun v35 ev35 hf => ?_)
      refine r_callSr dX3_readWord_110 cs_RX3_145 ww_768 (by decide) rfl (rest := [_]) rfl (Or.inl (Nat.le_of_ble_eq_true rfl)) (t_Sp_leastBeginning ev35) ?_
      refine r_stL hf dX3_readWord_113 fl_RX3_121 rfl rfl (fun m36 em36 hf => ?_)
      refine r_aload_n 1 dX3_readWord_116 rfl rfl ?_
      refine r_aload_n 0 dX3_readWord_117 rfl rfl ?_
      refine r_ldR hf dX3_readWord_118 fl_RX3_9 rfl (fun v37 ev37 hf => ?_)
      refine r_iload_n 2 dX3_readWord_121 rfl rfl ?_
      refine r_iload_n 3 dX3_readWord_122 rfl rfl ?_
      refine r_iload_n 2 dX3_readWord_123 rfl rfl ?_
      refine r_isub dX3_readWord_124 ?_
      refine bnd hf (fun v38 ev38 hf => ?_)
      refine r_callSr dX3_readWord_125 cs_RX3_148 ww_771 (by decide) rfl (rest := [_]) rfl (Or.inl (Nat.le_of_ble_eq_true rfl)) (t_Sp_greatestBeginning ev38) ?_
      refine r_stL hf dX3_readWord_128 fl_RX3_125 rfl rfl (fun m39 em39 hf => ?_)
      refine r_aload_n 0 dX3_readWord_131 rfl rfl ?_
      refine r_chk hf (fun a40 xa40 ta40 hf => ?_)
      refine bnd hf (fun v41 ev41 hf => ?_)
      refine r_callVv (ci := 3) xa40 dX3_readWord_132 cs_RX3_38 ww_705 ww_15 (by decide) ta40 (by decide) rfl (rest := []) rfl (Or.inl (Nat.le_of_ble_eq_true rfl)) (t_Ps_advance ev41) ?_
      refine r_goto 163 dX3_readWord_135 (by decide) ?_
      refine r_iconst (b2i true) dX3_readWord_163 rfl ?_
      exact r_zret rfl dX3_readWord_164 (by obtain ⟨h1, h2⟩ := Prod.mk.inj (Option.some.inj hf); subst h1; subst h2; exact hr.symm)
  · refine r_icmp_ne 87 hf dX3_readWord_28 (by decide) (fun c9 hf => ?_) (fun c9 hf => ?_)
    · refine r_sub (L' := [(0, _), (1, _), (2, _), (3, _)]) [3, 4, 2, 1] rfl ?_
      exact kq8 _ (Option.some.inj hf).symm
    · refine r_iload 0 dX3_readWord_31 rfl ?_
      refine r_if_lt 87 hf dX3_readWord_33 (by decide) (fun c10 hf => ?_) (fun c10 hf => ?_)
      · refine r_sub (L' := [(0, _), (1, _), (2, _), (3, _)]) [3, 4, 2, 1] rfl ?_
        exact kq8 _ (Option.some.inj hf).symm
      · refine r_aload_n 4 dX3_readWord_36 rfl rfl ?_
        refine r_iload 0 dX3_readWord_37 rfl ?_
        refine r_stI hf dX3_readWord_39 fl_RX3_142 rfl rfl rfl (fun m11 em11 hf => ?_)
        refine r_aload_n 3 dX3_readWord_42 rfl rfl ?_
        refine r_chk hf (fun a12 xa12 ta12 hf => ?_)
        refine bnd hf (fun v13 ev13 hf => ?_)
        refine r_callVv (ci := 3) xa12 dX3_readWord_43 cs_RX3_38 ww_705 ww_15 (by decide) ta12 (by decide) rfl (rest := []) rfl (Or.inl (Nat.le_of_ble_eq_true rfl)) (t_Ps_advance ev13) ?_
        refine r_aload_n 3 dX3_readWord_46 rfl rfl ?_
        refine r_ldI hf dX3_readWord_47 fl_RX3_45 rfl (fun v14 ev14 hf => ?_)
        refine r_bipush (34 : Int32) dX3_readWord_50 (by decide) ?_
        refine r_icmp_ne 61 hf dX3_readWord_52 (by decide) (fun c15 hf => ?_) (fun c15 hf => ?_)
        · refine r_aload_n 3 dX3_readWord_61 rfl rfl ?_
          refine r_ldI hf dX3_readWord_62 fl_RX3_45 rfl (fun v16 ev16 hf => ?_)
          refine r_sipush (256 : Int32) dX3_readWord_65 (by decide) ?_
          refine r_icmp_eq 73 hf dX3_readWord_68 (by decide) (fun c17 hf => ?_) (fun c17 hf => ?_)
          · refine r_aload_n 3 dX3_readWord_73 rfl rfl ?_
            refine r_ldI hf dX3_readWord_74 fl_RX3_48 rfl (fun v18 ev18 hf => ?_)
            refine r_istore_n (i := 2) (L' := [(2, .int v18), (4, .int v6), (3, .int v2), (0, va_rf (some th)), (1, va_rf x1)]) dX3_readWord_77 rfl (show 2 < 5 by decide) (by simp [List.filter, cat_rf, cat_i, cat_l]) ?_
            refine r_aload_n 3 dX3_readWord_78 rfl rfl ?_
            refine r_ldI hf dX3_readWord_79 fl_RX3_51 rfl (fun v19 ev19 hf => ?_)
            refine r_istore_n (L' := [(3, _), (2, _), (4, _), (0, _), (1, _)]) dX3_readWord_82 rfl (show 3 < 5 by decide) rfl ?_
            refine r_aload_n 3 dX3_readWord_83 rfl rfl ?_
            refine r_chk hf (fun a20 xa20 ta20 hf => ?_)
            refine bnd hf (fun v21 ev21 hf => ?_)
            refine r_callVv (ci := 3) xa20 dX3_readWord_84 cs_RX3_38 ww_705 ww_15 (by decide) ta20 (by decide) rfl (rest := []) rfl (Or.inl (Nat.le_of_ble_eq_true rfl)) (t_Ps_advance ev21) ?_
            refine r_sub (L' := [(0, _), (1, _), (2, _), (3, _)]) [3, 4, 1, 0] rfl ?_
            exact kq8 _ (Option.some.inj hf).symm
          · refine r_iconst (b2i false) dX3_readWord_71 rfl ?_
            exact r_zret rfl dX3_readWord_72 (by obtain ⟨h1, h2⟩ := Prod.mk.inj (oq8 _ (Option.some.inj hf).symm); subst h1; subst h2; exact hr.symm)
        · refine r_aload_n 3 dX3_readWord_55 rfl rfl ?_
          refine r_aload_n 4 dX3_readWord_56 rfl rfl ?_
          refine r_chk hf (fun a22 xa22 ta22 hf => ?_)
          refine bnd hf (fun v23 ev23 hf => ?_)
          refine r_callVr (ci := 3) xa22 dX3_readWord_57 cs_RX3_103 ww_750 ww_23 (by decide) ta22 (by decide) rfl (rest := []) rfl (Or.inl (Nat.le_of_ble_eq_true rfl)) (t_Ps_readPhrase ev23) ?_
          exact r_zret rfl dX3_readWord_60 (by obtain ⟨h1, h2⟩ := Prod.mk.inj (oq8 _ (Option.some.inj hf).symm); subst h1; subst h2; exact hr.symm)
/-! SearchEngine$Parser.readAtom -/
noncomputable def Ps_readAtom (rec : Mem → Nat → Int32 → Bool → Option (Bool × Mem)) (σ : Mem) (th : Nat) (x1 : Option Nat) (x2 : Int32) : Option (Bool × Mem) :=
  (ldI σ 3 4 (some th)).bind fun v1 =>
  if v1 = (34 : Int32) then
    (chk σ 3 (some th)).bind fun a3 =>
    (Ps_readPhrase σ a3 x1).bind fun v4 =>
    some (v4.1, v4.2)
  else
  if v1 = (40 : Int32) then
    (chk σ 3 (some th)).bind fun a6 =>
    (Ps_readGroup rec σ a6 x1 x2).bind fun v7 =>
    some (v7.1, v7.2)
  else
  if v1 = (91 : Int32) then
    (chk σ 3 (some th)).bind fun a9 =>
    (Ps_readRange σ a9 x1).bind fun v10 =>
    some (v10.1, v10.2)
  else
  if v1 = (256 : Int32) then
    (chk σ 3 (some th)).bind fun a12 =>
    (Ps_readWord σ a12 x1).bind fun v13 =>
    some (v13.1, v13.2)
  else
  some (false, σ)
set_option maxRecDepth 100000 in
set_option maxHeartbeats 4000000 in
theorem t_Ps_readAtom {Γ : W0} {σ : Mem} {th : Nat} {x1 : Option Nat} {x2 : Int32} {v : Bool} {σ' : Mem} {d : Nat} {rec : Mem → Nat → Int32 → Bool → Option (Bool × Mem)} (hrec : ∀ {Γ : W0} {σ : Mem} {th : Nat} {y1 : Int32} {y2 : Bool} {v : Bool} {σ' : Mem}, rec σ th y1 y2 = some (v, σ') → CT Γ (MD_Ps_readAny d) yX3_readAny [va_rf (some th), .int y1, .int (b2i y2)] σ (some (.int (b2i v)), σ')) (hf : Ps_readAtom rec σ th x1 x2 = some (v, σ')) : CT Γ (MD_Ps_readAtom d) yX3_readAtom [va_rf (some th), va_rf x1, .int x2] σ (some (.int (b2i v)), σ') := by
  refine CT.of (L := [(0, va_rf (some th)), (1, va_rf x1), (2, .int x2)]) rfl (by decide) (fun h => Bool.noConfusion (show false = true from h)) (by cases x1 <;> exact Nat.le_of_ble_eq_true rfl) (by cases x1 <;> rfl) ?_
  unfold Ps_readAtom at hf
  generalize hr : mkR Γ σ (some (.int (b2i v))) σ' = r
  refine r_aload_n 0 dX3_readAtom_0 rfl rfl ?_
  refine r_ldI hf dX3_readAtom_1 fl_RX3_45 rfl (fun v1 ev1 hf => ?_)
  refine sw_pos hf (fun c2 hf => ?_) (fun c2 hf => ?_)
  · refine r_lookup 61 dX3_readAtom_4 (by decide) (by rw [c2] <;> rfl) (by decide) ?_
    refine r_aload_n 0 dX3_readAtom_61 rfl rfl ?_
    refine r_aload_n 1 dX3_readAtom_62 rfl rfl ?_
    refine r_chk hf (fun a3 xa3 ta3 hf => ?_)
    refine bnd hf (fun v4 ev4 hf => ?_)
    refine r_callVr (ci := 3) xa3 dX3_readAtom_63 cs_RX3_103 ww_750 ww_23 (by decide) ta3 ⟨(show 4 + 1 ≤ 17 + 4 * (d) by omega), (show 8 + (3 + 11) + (94) ≤ 556 + 160 * (d) by omega)⟩ rfl (rest := []) rfl (Or.inl (Nat.le_of_ble_eq_true rfl)) (t_Ps_readPhrase ev4) ?_
    exact r_zret rfl dX3_readAtom_66 (by obtain ⟨h1, h2⟩ := Prod.mk.inj (Option.some.inj hf); subst h1; subst h2; exact hr.symm)
  refine sw_pos hf (fun c5 hf => ?_) (fun c5 hf => ?_)
  · refine r_lookup 48 dX3_readAtom_4 (by decide) (by rw [c5] <;> rfl) (by decide) ?_
    refine r_aload_n 0 dX3_readAtom_48 rfl rfl ?_
    refine r_aload_n 1 dX3_readAtom_49 rfl rfl ?_
    refine r_iload_n 2 dX3_readAtom_50 rfl rfl ?_
    refine r_chk hf (fun a6 xa6 ta6 hf => ?_)
    refine bnd hf (fun v7 ev7 hf => ?_)
    refine r_callVr (ci := 3) xa6 dX3_readAtom_51 (cs_RX3_96 _) ww_730 ww_19 (by decide) ta6 ⟨(show 16 + 4 * (d) + 1 ≤ 17 + 4 * (d) by omega), (show 8 + (3 + 11) + (516 + 160 * (d)) ≤ 556 + 160 * (d) by omega)⟩ rfl (rest := []) rfl (Or.inl (Nat.le_of_ble_eq_true rfl)) (t_Ps_readGroup hrec ev7) ?_
    exact r_zret rfl dX3_readAtom_54 (by obtain ⟨h1, h2⟩ := Prod.mk.inj (Option.some.inj hf); subst h1; subst h2; exact hr.symm)
  refine sw_pos hf (fun c8 hf => ?_) (fun c8 hf => ?_)
  · refine r_lookup 55 dX3_readAtom_4 (by decide) (by rw [c8] <;> rfl) (by decide) ?_
    refine r_aload_n 0 dX3_readAtom_55 rfl rfl ?_
    refine r_aload_n 1 dX3_readAtom_56 rfl rfl ?_
    refine r_chk hf (fun a9 xa9 ta9 hf => ?_)
    refine bnd hf (fun v10 ev10 hf => ?_)
    refine r_callVr (ci := 3) xa9 dX3_readAtom_57 cs_RX3_99 ww_734 ww_20 (by decide) ta9 ⟨(show 9 + 1 ≤ 17 + 4 * (d) by omega), (show 8 + (6 + 11) + (324) ≤ 556 + 160 * (d) by omega)⟩ rfl (rest := []) rfl (Or.inl (Nat.le_of_ble_eq_true rfl)) (t_Ps_readRange ev10) ?_
    exact r_zret rfl dX3_readAtom_60 (by obtain ⟨h1, h2⟩ := Prod.mk.inj (Option.some.inj hf); subst h1; subst h2; exact hr.symm)
  refine sw_pos hf (fun c11 hf => ?_) (fun c11 hf => ?_)
  · refine r_lookup 67 dX3_readAtom_4 (by decide) (by rw [c11] <;> rfl) (by decide) ?_
    refine r_aload_n 0 dX3_readAtom_67 rfl rfl ?_
    refine r_aload_n 1 dX3_readAtom_68 rfl rfl ?_
    refine r_chk hf (fun a12 xa12 ta12 hf => ?_)
    refine bnd hf (fun v13 ev13 hf => ?_)
    refine r_callVr (ci := 3) xa12 dX3_readAtom_69 cs_RX3_106 ww_759 ww_24 (by decide) ta12 ⟨(show 10 + 1 ≤ 17 + 4 * (d) by omega), (show 8 + (5 + 11) + (346) ≤ 556 + 160 * (d) by omega)⟩ rfl (rest := []) rfl (Or.inl (Nat.le_of_ble_eq_true rfl)) (t_Ps_readWord ev13) ?_
    exact r_zret rfl dX3_readAtom_72 (by obtain ⟨h1, h2⟩ := Prod.mk.inj (Option.some.inj hf); subst h1; subst h2; exact hr.symm)
  refine r_lookup 73 dX3_readAtom_4 (by decide) (lk_out (by have nc2 := sw_ne (n := 34) c2 rfl; have nc5 := sw_ne (n := 40) c5 rfl; have nc8 := sw_ne (n := 91) c8 rfl; have nc11 := sw_ne (n := 256) c11 rfl; intro k hk; simp at hk; omega)) (by decide) ?_
  refine r_iconst (b2i false) dX3_readAtom_73 rfl ?_
  exact r_zret rfl dX3_readAtom_74 (by obtain ⟨h1, h2⟩ := Prod.mk.inj (Option.some.inj hf); subst h1; subst h2; exact hr.symm)
/-! SearchEngine$Parser.readPart -/
noncomputable def Ps_readPart (rec : Mem → Nat → Int32 → Bool → Option (Bool × Mem)) (σ : Mem) (th : Nat) (x1 : Int32) (x2 : Bool) (x3 : Bool) : Option (Bool × Mem) :=
  (ldR σ 3 3 (some th)).bind fun v1 =>
  (chk σ 5 v1).bind fun a2 =>
  (Qu_nextPart σ a2).bind fun v3 =>
  if v3.1 = none then
    some (false, v3.2)
  else
    (stB v3.2 4 4 v3.1 x3).bind fun m5 =>
    (ldI m5 3 4 (some th)).bind fun v6 =>
    Option.bind (
      if ¬ v6 = (45 : Int32) then
        some false
      else
        some true) fun q7 =>
    (stB m5 4 2 v3.1 q7).bind fun m9 =>
    Option.bind (
      if x2 = true then
        some true
      else
        (ldB m9 4 2 v3.1).bind fun v12 =>
        if v12 = true then
          some true
        else
          some false) fun q10 =>
    (stB m9 4 3 v3.1 q10).bind fun m14 =>
    (ldB m14 4 2 v3.1).bind fun v15 =>
    Option.bind (
      if v15 = true then
        (chk m14 3 (some th)).bind fun a18 =>
        (Ps_advance m14 a18).bind fun v19 =>
        some v19
      else
        some m14) fun q16 =>
    (chk q16 3 (some th)).bind fun a20 =>
    (Ps_readAtom rec q16 a20 v3.1 x1).bind fun v21 =>
    if v21.1 = true then
      (ldI v21.2 3 4 (some th)).bind fun v23 =>
      jn (
        if ¬ v23 = (94 : Int32) then
          some (Sum.inr v21.2)
        else
          (chk v21.2 3 (some th)).bind fun a26 =>
          (Ps_advance v21.2 a26).bind fun v27 =>
          (chk v27 3 (some th)).bind fun a28 =>
          (Ps_number v27 a28 (1 : Int32)).bind fun v29 =>
          (stI v27 4 5 v3.1 v29).bind fun m30 =>
          (ldI m30 4 5 v3.1).bind fun v31 =>
          if (1 : Int32) ≤ v31 then
            (chk m30 3 (some th)).bind fun a33 =>
            (Ps_advance m30 a33).bind fun v34 =>
            some (Sum.inr v34)
          else
            some (Sum.inl (false, m30))) fun q24 =>
      (ldR q24 3 3 (some th)).bind fun v35 =>
      (ldI q24 5 1 v35).bind fun v36 =>
      (stI q24 4 6 v3.1 v36).bind fun m37 =>
      some (true, m37)
    else
      some (false, v21.2)
set_option maxRecDepth 100000 in
set_option maxHeartbeats 4000000 in
theorem t_Ps_readPart {Γ : W0} {σ : Mem} {th : Nat} {x1 : Int32} {x2 : Bool} {x3 : Bool} {v : Bool} {σ' : Mem} {d : Nat} {rec : Mem → Nat → Int32 → Bool → Option (Bool × Mem)} (hrec : ∀ {Γ : W0} {σ : Mem} {th : Nat} {y1 : Int32} {y2 : Bool} {v : Bool} {σ' : Mem}, rec σ th y1 y2 = some (v, σ') → CT Γ (MD_Ps_readAny d) yX3_readAny [va_rf (some th), .int y1, .int (b2i y2)] σ (some (.int (b2i v)), σ')) (hf : Ps_readPart rec σ th x1 x2 x3 = some (v, σ')) : CT Γ (MD_Ps_readPart d) yX3_readPart [va_rf (some th), .int x1, .int (b2i x2), .int (b2i x3)] σ (some (.int (b2i v)), σ') := by
  refine CT.of (L := [(0, va_rf (some th)), (1, .int x1), (2, .int (b2i x2)), (3, .int (b2i x3))]) rfl (by decide) (fun h => Bool.noConfusion (show false = true from h)) (Nat.le_of_ble_eq_true rfl) rfl ?_
  unfold Ps_readPart at hf
  generalize hr : mkR Γ σ (some (.int (b2i v))) σ' = r
  refine r_aload_n 0 dX3_readPart_0 rfl rfl ?_
  refine r_ldR hf dX3_readPart_1 fl_RX3_29 rfl (fun v1 ev1 hf => ?_)
  refine r_chk hf (fun a2 xa2 ta2 hf => ?_)
  refine bnd hf (fun v3 ev3 hf => ?_)
  refine r_callVr (ci := 5) xa2 dX3_readPart_4 cs_RX3_68 ww_717 ww_718 (by decide) ta2 ⟨(show 2 + 1 ≤ 18 + 4 * (d) by omega), (show 8 + (2 + 11) + (42) ≤ 596 + 160 * (d) by omega)⟩ rfl (rest := []) rfl (Or.inl (Nat.le_of_ble_eq_true rfl)) (t_Qu_nextPart ev3) ?_
  refine r_astore (L' := [(4, _), (0, _), (1, _), (2, _), (3, _)]) dX3_readPart_7 (show 4 < 5 by decide) rfl ?_
  refine r_aload 0 dX3_readPart_9 rfl ?_
  refine r_ifnonnull 16 hf dX3_readPart_11 (by decide) (fun c4 hf => ?_) (fun c4 hf => ?_)
  · refine r_iconst (b2i false) dX3_readPart_14 rfl ?_
    exact r_zret rfl dX3_readPart_15 (by obtain ⟨h1, h2⟩ := Prod.mk.inj (Option.some.inj hf); subst h1; subst h2; exact hr.symm)
  · refine r_aload 0 dX3_readPart_16 rfl ?_
    refine r_iload_n 4 dX3_readPart_18 rfl rfl ?_
    refine r_stB hf dX3_readPart_19 fl_RX3_72 rfl rfl (fun m5 em5 hf => ?_)
    refine r_aload 0 dX3_readPart_22 rfl ?_
    refine r_aload_n 1 dX3_readPart_24 rfl rfl ?_
    refine r_ldI hf dX3_readPart_25 fl_RX3_45 rfl (fun v6 ev6 hf => ?_)
    refine r_bipush (45 : Int32) dX3_readPart_28 (by decide) ?_
    refine r_bd (fun (q7 : Bool) => V Γ (MD_Ps_readPart d) σ r m5 38 [(0, va_rf (some th)), (1, .int x1), (2, .int (b2i x2)), (4, va_rf v3.1)] [.int (b2i q7), va_rf v3.1]) hf (fun q7 hf => ?_) (fun yq7 hf kq7 => ?_)
    · refine r_stB hf dX3_readPart_38 fl_RX3_78 rfl rfl (fun m9 em9 hf => ?_)
      refine r_aload 3 dX3_readPart_41 rfl ?_
      refine r_iload_n 2 dX3_readPart_43 rfl rfl ?_
      refine r_bd (fun (q10 : Bool) => V Γ (MD_Ps_readPart d) σ r m9 60 [(0, va_rf (some th)), (1, .int x1), (4, va_rf v3.1)] [.int (b2i q10), va_rf v3.1]) hf (fun q10 hf => ?_) (fun yq10 hf kq10 => ?_)
      · refine r_stB hf dX3_readPart_60 fl_RX3_81 rfl rfl (fun m14 em14 hf => ?_)
        refine r_aload 2 dX3_readPart_63 rfl ?_
        refine r_ldB hf dX3_readPart_65 fl_RX3_78 rfl (fun v15 ev15 hf => ?_)
        refine r_bd (fun (q16 : Mem) => V Γ (MD_Ps_readPart d) σ r q16 75 [(0, va_rf (some th)), (1, .int x1), (4, va_rf v3.1)] []) hf (fun q16 hf => ?_) (fun yq16 hf kq16 => ?_)
        · refine r_aload_n 0 dX3_readPart_75 rfl rfl ?_
          refine r_aload 2 dX3_readPart_76 rfl ?_
          refine r_iload_n 1 dX3_readPart_78 rfl rfl ?_
          refine r_chk hf (fun a20 xa20 ta20 hf => ?_)
          refine bnd hf (fun v21 ev21 hf => ?_)
          refine r_callVr (ci := 3) xa20 dX3_readPart_79 (cs_RX3_84 _) ww_726 ww_18 (by decide) ta20 ⟨(show 17 + 4 * (d) + 1 ≤ 18 + 4 * (d) by omega), (show 8 + (3 + 11) + (556 + 160 * (d)) ≤ 596 + 160 * (d) by omega)⟩ rfl (rest := []) rfl (Or.inl (Nat.le_of_ble_eq_true rfl)) (t_Ps_readAtom hrec ev21) ?_
          refine r_ifneZ 87 hf dX3_readPart_82 (by decide) (fun c22 hf => ?_) (fun c22 hf => ?_)
          · refine r_aload_n 0 dX3_readPart_87 rfl rfl ?_
            refine r_ldI hf dX3_readPart_88 fl_RX3_45 rfl (fun v23 ev23 hf => ?_)
            refine r_bipush (94 : Int32) dX3_readPart_91 (by decide) ?_
            refine r_jn (fun (q24 : Mem) => V Γ (MD_Ps_readPart d) σ r q24 125 [(0, va_rf (some th)), (4, va_rf v3.1)] []) hf (fun q24 hf => ?_) (fun yq24 hf oq24 kq24 => ?_)
            · refine r_aload 1 dX3_readPart_125 rfl ?_
              refine r_aload_n 0 dX3_readPart_127 rfl rfl ?_
              refine r_ldR hf dX3_readPart_128 fl_RX3_29 rfl (fun v35 ev35 hf => ?_)
              refine r_ldI hf dX3_readPart_131 fl_RX3_33 rfl (fun v36 ev36 hf => ?_)
              refine r_stI hf dX3_readPart_134 fl_RX3_95 rfl rfl rfl (fun m37 em37 hf => ?_)
              refine r_iconst (b2i true) dX3_readPart_137 rfl ?_
              exact r_zret rfl dX3_readPart_138 (by obtain ⟨h1, h2⟩ := Prod.mk.inj (Option.some.inj hf); subst h1; subst h2; exact hr.symm)
            · refine r_icmp_ne 125 hf dX3_readPart_93 (by decide) (fun c25 hf => ?_) (fun c25 hf => ?_)
              · refine r_sub (L' := [(0, _), (4, _)]) [0, 2] rfl ?_
                exact kq24 _ (Option.some.inj hf).symm
              · refine r_aload_n 0 dX3_readPart_96 rfl rfl ?_
                refine r_chk hf (fun a26 xa26 ta26 hf => ?_)
                refine bnd hf (fun v27 ev27 hf => ?_)
                refine r_callVv (ci := 3) xa26 dX3_readPart_97 cs_RX3_38 ww_705 ww_15 (by decide) ta26 ⟨(show 3 + 1 ≤ 18 + 4 * (d) by omega), (show 8 + (1 + 11) + (65) ≤ 596 + 160 * (d) by omega)⟩ rfl (rest := []) rfl (Or.inl (Nat.le_of_ble_eq_true rfl)) (t_Ps_advance ev27) ?_
                refine r_aload 2 dX3_readPart_100 rfl ?_
                refine r_aload_n 0 dX3_readPart_102 rfl rfl ?_
                refine r_iconst (1 : Int32) dX3_readPart_103 (by decide) ?_
                refine r_chk hf (fun a28 xa28 ta28 hf => ?_)
                refine bnd hf (fun v29 ev29 hf => ?_)
                refine r_callVr (ci := 3) xa28 dX3_readPart_104 cs_RX3_88 ww_746 ww_22 (by decide) ta28 ⟨(show 1 + 1 ≤ 18 + 4 * (d) by omega), (show 8 + (4 + 11) + (22) ≤ 596 + 160 * (d) by omega)⟩ rfl (rest := [_]) rfl (Or.inl (Nat.le_of_ble_eq_true rfl)) (t_Ps_number ev29) ?_
                refine r_stI hf dX3_readPart_107 fl_RX3_92 rfl rfl rfl (fun m30 em30 hf => ?_)
                refine r_aload 2 dX3_readPart_110 rfl ?_
                refine r_ldI hf dX3_readPart_112 fl_RX3_92 rfl (fun v31 ev31 hf => ?_)
                refine r_iconst (1 : Int32) dX3_readPart_115 (by decide) ?_
                refine r_icmp_ge 121 hf dX3_readPart_116 (by decide) (fun c32 hf => ?_) (fun c32 hf => ?_)
                · refine r_aload_n 0 dX3_readPart_121 rfl rfl ?_
                  refine r_chk hf (fun a33 xa33 ta33 hf => ?_)
                  refine bnd hf (fun v34 ev34 hf => ?_)
                  refine r_callVv (ci := 3) xa33 dX3_readPart_122 cs_RX3_38 ww_705 ww_15 (by decide) ta33 ⟨(show 3 + 1 ≤ 18 + 4 * (d) by omega), (show 8 + (1 + 11) + (65) ≤ 596 + 160 * (d) by omega)⟩ rfl (rest := []) rfl (Or.inl (Nat.le_of_ble_eq_true rfl)) (t_Ps_advance ev34) ?_
                  refine r_sub (L' := [(0, _), (4, _)]) [0, 2] rfl ?_
                  exact kq24 _ (Option.some.inj hf).symm
                · refine r_iconst (b2i false) dX3_readPart_119 rfl ?_
                  exact r_zret rfl dX3_readPart_120 (by obtain ⟨h1, h2⟩ := Prod.mk.inj (oq24 _ (Option.some.inj hf).symm); subst h1; subst h2; exact hr.symm)
          · refine r_iconst (b2i false) dX3_readPart_85 rfl ?_
            exact r_zret rfl dX3_readPart_86 (by obtain ⟨h1, h2⟩ := Prod.mk.inj (Option.some.inj hf); subst h1; subst h2; exact hr.symm)
        · refine r_ifeqZ 75 hf dX3_readPart_68 (by decide) (fun c17 hf => ?_) (fun c17 hf => ?_)
          · refine r_aload_n 0 dX3_readPart_71 rfl rfl ?_
            refine r_chk hf (fun a18 xa18 ta18 hf => ?_)
            refine bnd hf (fun v19 ev19 hf => ?_)
            refine r_callVv (ci := 3) xa18 dX3_readPart_72 cs_RX3_38 ww_705 ww_15 (by decide) ta18 ⟨(show 3 + 1 ≤ 18 + 4 * (d) by omega), (show 8 + (1 + 11) + (65) ≤ 596 + 160 * (d) by omega)⟩ rfl (rest := []) rfl (Or.inl (Nat.le_of_ble_eq_true rfl)) (t_Ps_advance ev19) ?_
            refine r_sub (L' := [(0, _), (1, _), (4, _)]) [0, 1, 2] rfl ?_
            cases (Option.some.inj hf)
            exact kq16
          · refine r_sub (L' := [(0, _), (1, _), (4, _)]) [0, 1, 2] rfl ?_
            cases (Option.some.inj hf)
            exact kq16
      · refine r_ifneZ 55 hf dX3_readPart_44 (by decide) (fun c11 hf => ?_) (fun c11 hf => ?_)
        · refine r_iconst (b2i true) dX3_readPart_55 rfl ?_
          refine r_goto 60 dX3_readPart_56 (by decide) ?_
          refine r_sub (L' := [(0, _), (1, _), (4, _)]) [0, 1, 3] rfl ?_
          cases (Option.some.inj hf)
          exact kq10
        · refine r_aload 3 dX3_readPart_47 rfl ?_
          refine r_ldB hf dX3_readPart_49 fl_RX3_78 rfl (fun v12 ev12 hf => ?_)
          refine r_ifeqZ 59 hf dX3_readPart_52 (by decide) (fun c13 hf => ?_) (fun c13 hf => ?_)
          · refine r_iconst (b2i true) dX3_readPart_55 rfl ?_
            refine r_goto 60 dX3_readPart_56 (by decide) ?_
            refine r_sub (L' := [(0, _), (1, _), (4, _)]) [0, 1, 3] rfl ?_
            cases (Option.some.inj hf)
            exact kq10
          · refine r_iconst (b2i false) dX3_readPart_59 rfl ?_
            refine r_sub (L' := [(0, _), (1, _), (4, _)]) [0, 1, 3] rfl ?_
            cases (Option.some.inj hf)
            exact kq10
    · refine r_icmp_ne 37 hf dX3_readPart_30 (by decide) (fun c8 hf => ?_) (fun c8 hf => ?_)
      · refine r_iconst (b2i false) dX3_readPart_37 rfl ?_
        refine r_sub (L' := [(0, _), (1, _), (2, _), (4, _)]) [1, 2, 3, 0] rfl ?_
        cases (Option.some.inj hf)
        exact kq7
      · refine r_iconst (b2i true) dX3_readPart_33 rfl ?_
        refine r_goto 38 dX3_readPart_34 (by decide) ?_
        refine r_sub (L' := [(0, _), (1, _), (2, _), (4, _)]) [1, 2, 3, 0] rfl ?_
        cases (Option.some.inj hf)
        exact kq7
/-! SearchEngine$Parser.beginsPart -/
noncomputable def Ps_beginsPart (σ : Mem) (th : Nat) : Option Bool :=
  (ldI σ 3 4 (some th)).bind fun v1 =>
  if v1 = (256 : Int32) then
    some true
  else
    (ldI σ 3 4 (some th)).bind fun v3 =>
    if v3 = (34 : Int32) then
      some true
    else
      (ldI σ 3 4 (some th)).bind fun v5 =>
      if v5 = (40 : Int32) then
        some true
      else
        (ldI σ 3 4 (some th)).bind fun v7 =>
        if v7 = (91 : Int32) then
          some true
        else
          (ldI σ 3 4 (some th)).bind fun v9 =>
          if ¬ v9 = (45 : Int32) then
            some false
          else
            some true
set_option maxRecDepth 100000 in
set_option maxHeartbeats 4000000 in
theorem t_Ps_beginsPart {Γ : W0} {σ : Mem} {th : Nat} {v : Bool} (hf : Ps_beginsPart σ th = some v) : CT Γ MD_Ps_beginsPart yX3_beginsPart [va_rf (some th)] σ (some (.int (b2i v)), σ) := by
  refine CT.of (L := [(0, va_rf (some th))]) rfl (by decide) (fun h => Bool.noConfusion (show false = true from h)) (Nat.le_of_ble_eq_true rfl) rfl ?_
  unfold Ps_beginsPart at hf
  generalize hr : mkR Γ σ (some (.int (b2i v))) σ = r
  refine r_aload_n 0 dX3_beginsPart_0 rfl rfl ?_
  refine r_ldI hf dX3_beginsPart_1 fl_RX3_45 rfl (fun v1 ev1 hf => ?_)
  refine r_sipush (256 : Int32) dX3_beginsPart_4 (by decide) ?_
  refine r_icmp_eq 46 hf dX3_beginsPart_7 (by decide) (fun c2 hf => ?_) (fun c2 hf => ?_)
  · refine r_iconst (b2i true) dX3_beginsPart_46 rfl ?_
    refine r_goto 51 dX3_beginsPart_47 (by decide) ?_
    exact r_zret rfl dX3_beginsPart_51 (by have h1 := (Option.some.inj hf); subst h1; exact hr.symm)
  · refine r_aload_n 0 dX3_beginsPart_10 rfl rfl ?_
    refine r_ldI hf dX3_beginsPart_11 fl_RX3_45 rfl (fun v3 ev3 hf => ?_)
    refine r_bipush (34 : Int32) dX3_beginsPart_14 (by decide) ?_
    refine r_icmp_eq 46 hf dX3_beginsPart_16 (by decide) (fun c4 hf => ?_) (fun c4 hf => ?_)
    · refine r_iconst (b2i true) dX3_beginsPart_46 rfl ?_
      refine r_goto 51 dX3_beginsPart_47 (by decide) ?_
      exact r_zret rfl dX3_beginsPart_51 (by have h1 := (Option.some.inj hf); subst h1; exact hr.symm)
    · refine r_aload_n 0 dX3_beginsPart_19 rfl rfl ?_
      refine r_ldI hf dX3_beginsPart_20 fl_RX3_45 rfl (fun v5 ev5 hf => ?_)
      refine r_bipush (40 : Int32) dX3_beginsPart_23 (by decide) ?_
      refine r_icmp_eq 46 hf dX3_beginsPart_25 (by decide) (fun c6 hf => ?_) (fun c6 hf => ?_)
      · refine r_iconst (b2i true) dX3_beginsPart_46 rfl ?_
        refine r_goto 51 dX3_beginsPart_47 (by decide) ?_
        exact r_zret rfl dX3_beginsPart_51 (by have h1 := (Option.some.inj hf); subst h1; exact hr.symm)
      · refine r_aload_n 0 dX3_beginsPart_28 rfl rfl ?_
        refine r_ldI hf dX3_beginsPart_29 fl_RX3_45 rfl (fun v7 ev7 hf => ?_)
        refine r_bipush (91 : Int32) dX3_beginsPart_32 (by decide) ?_
        refine r_icmp_eq 46 hf dX3_beginsPart_34 (by decide) (fun c8 hf => ?_) (fun c8 hf => ?_)
        · refine r_iconst (b2i true) dX3_beginsPart_46 rfl ?_
          refine r_goto 51 dX3_beginsPart_47 (by decide) ?_
          exact r_zret rfl dX3_beginsPart_51 (by have h1 := (Option.some.inj hf); subst h1; exact hr.symm)
        · refine r_aload_n 0 dX3_beginsPart_37 rfl rfl ?_
          refine r_ldI hf dX3_beginsPart_38 fl_RX3_45 rfl (fun v9 ev9 hf => ?_)
          refine r_bipush (45 : Int32) dX3_beginsPart_41 (by decide) ?_
          refine r_icmp_ne 50 hf dX3_beginsPart_43 (by decide) (fun c10 hf => ?_) (fun c10 hf => ?_)
          · refine r_iconst (b2i false) dX3_beginsPart_50 rfl ?_
            exact r_zret rfl dX3_beginsPart_51 (by have h1 := (Option.some.inj hf); subst h1; exact hr.symm)
          · refine r_iconst (b2i true) dX3_beginsPart_46 rfl ?_
            refine r_goto 51 dX3_beginsPart_47 (by decide) ?_
            exact r_zret rfl dX3_beginsPart_51 (by have h1 := (Option.some.inj hf); subst h1; exact hr.symm)
/-! SearchEngine$Parser.readAny -/
noncomputable def Ps_readAny_l5 (rec : Mem → Nat → Int32 → Bool → Option (Bool × Mem)) (σ : Mem) (th : Nat) (x1 : Int32) (x2 : Bool) (x3 : Bool) (x4 : Int32) : Option ((Bool × Int32 × Mem) ⊕ (Mem ⊕ (Mem ⊕ Mem))) :=
  if (40 : Int32) < x4 then
    some (Sum.inr (Sum.inr (Sum.inr σ)))
  else
    (chk σ 3 (some th)).bind fun a2 =>
    (Ps_readPart rec σ a2 x1 x2 x3).bind fun v3 =>
    if v3.1 = true then
      (ldI v3.2 3 4 (some th)).bind fun v5 =>
      Option.bind (
        if ¬ v5 = (124 : Int32) then
          some false
        else
          some true) fun q6 =>
      jn (
        if q6 = true then
          (chk v3.2 3 (some th)).bind fun a10 =>
          (Ps_advance v3.2 a10).bind fun v11 =>
          some (Sum.inr v11)
        else
          (chk v3.2 3 (some th)).bind fun a12 =>
          (Ps_beginsPart v3.2 a12).bind fun v13 =>
          if v13 = true then
            some (Sum.inr v3.2)
          else
            some (Sum.inl (Sum.inr (Sum.inr (Sum.inl v3.2))))) fun q8 =>
      some (Sum.inl (q6, (x4 + (1 : Int32)), q8))
    else
      some (Sum.inr (Sum.inl v3.2))
noncomputable def Ps_readAny_s (rec : Mem → Nat → Int32 → Bool → Option (Bool × Mem)) (σ : Mem) (th : Nat) (x1 : Int32) (x2 : Bool) : Option (Bool × Mem) :=
  (lp (fun q => Ps_readAny_l5 rec q.2.2 th x1 x2 q.1 q.2.1) (true, (0 : Int32), σ)).bind 
    (se (fun z16 =>
      some (false, z16))
      (se (fun z17 =>
        some (true, z17))
        (fun z18 =>
          some (false, z18))))
noncomputable def Ps_readAny : Nat → Mem → Nat → Int32 → Bool → Option (Bool × Mem)
  | 0 => fun _ _ _ _ => none
  | d + 1 => Ps_readAny_s (Ps_readAny d)
set_option maxRecDepth 100000 in
set_option maxHeartbeats 4000000 in
theorem x_Ps_readAny_l5 {Γ : W0} {σ0 : Mem} {r : RT} {th : Nat} {x1 : Int32} {x2 : Bool} {t : Mem ⊕ (Mem ⊕ Mem)} {d : Nat} {rec : Mem → Nat → Int32 → Bool → Option (Bool × Mem)} (hrec : ∀ {Γ : W0} {σ : Mem} {th : Nat} {y1 : Int32} {y2 : Bool} {v : Bool} {σ' : Mem}, rec σ th y1 y2 = some (v, σ') → CT Γ (MD_Ps_readAny d) yX3_readAny [va_rf (some th), .int y1, .int (b2i y2)] σ (some (.int (b2i v)), σ')) (hk0 : ∀ z : Mem, (Sum.inl z) = t → V Γ (MD_Ps_readAny (d + 1)) σ0 r z 22 [] []) (hk1 : ∀ z : Mem, (Sum.inr (Sum.inl z)) = t → V Γ (MD_Ps_readAny (d + 1)) σ0 r z 57 [] []) (hk2 : ∀ z : Mem, (Sum.inr (Sum.inr z)) = t → V Γ (MD_Ps_readAny (d + 1)) σ0 r z 65 [] []) : ∀ q : Bool × Int32 × Mem, lp (fun q => Ps_readAny_l5 rec q.2.2 th x1 x2 q.1 q.2.1) q = some t → V Γ (MD_Ps_readAny (d + 1)) σ0 r q.2.2 5 [(0, va_rf (some th)), (1, .int x1), (2, .int (b2i x2)), (3, .int (b2i q.1)), (4, .int q.2.1)] [] := by
  refine lp_ind (fun (q : Bool × Int32 × Mem) => V Γ (MD_Ps_readAny (d + 1)) σ0 r q.2.2 5 [(0, va_rf (some th)), (1, .int x1), (2, .int (b2i x2)), (3, .int (b2i q.1)), (4, .int q.2.1)] []) (fun q x hf ih ho => ?_)
  obtain ⟨x3, x4, σ⟩ := q
  show V Γ (MD_Ps_readAny (d + 1)) σ0 r σ 5 [(0, va_rf (some th)), (1, .int x1), (2, .int (b2i x2)), (3, .int (b2i x3)), (4, .int x4)] []
  replace hf : Ps_readAny_l5 rec σ th x1 x2 x3 x4 = some x := hf
  unfold Ps_readAny_l5 at hf
  refine r_iload 4 dX3_readAny_5 rfl ?_
  refine r_bipush (40 : Int32) dX3_readAny_7 (by decide) ?_
  refine r_icmp_gt 65 hf dX3_readAny_9 (by decide) (fun c1 hf => ?_) (fun c1 hf => ?_)
  · refine r_sub (L' := []) [] rfl ?_
    exact hk2 _ (ho _ (Option.some.inj hf).symm)
  · refine r_aload_n 0 dX3_readAny_12 rfl rfl ?_
    refine r_iload_n 1 dX3_readAny_13 rfl rfl ?_
    refine r_iload_n 2 dX3_readAny_14 rfl rfl ?_
    refine r_iload_n 3 dX3_readAny_15 rfl rfl ?_
    refine r_chk hf (fun a2 xa2 ta2 hf => ?_)
    refine bnd hf (fun v3 ev3 hf => ?_)
    refine r_callVr (ci := 3) xa2 dX3_readAny_16 (cs_RX3_60 _) ww_714 ww_17 (by decide) ta2 ⟨(show 18 + 4 * (d) + 1 ≤ 15 + 4 * (d + 1) by omega), (show 8 + (5 + 11) + (596 + 160 * (d)) ≤ 476 + 160 * (d + 1) by omega)⟩ rfl (rest := []) rfl (Or.inl (Nat.le_of_ble_eq_true rfl)) (t_Ps_readPart hrec ev3) ?_
    refine r_ifneZ 24 hf dX3_readAny_19 (by decide) (fun c4 hf => ?_) (fun c4 hf => ?_)
    · refine r_aload_n 0 dX3_readAny_24 rfl rfl ?_
      refine r_ldI hf dX3_readAny_25 fl_RX3_45 rfl (fun v5 ev5 hf => ?_)
      refine r_bipush (124 : Int32) dX3_readAny_28 (by decide) ?_
      refine r_bd (fun (q6 : Bool) => V Γ (MD_Ps_readAny (d + 1)) σ0 r v3.2 38 [(0, va_rf (some th)), (1, .int x1), (2, .int (b2i x2)), (4, .int x4)] [.int (b2i q6)]) hf (fun q6 hf => ?_) (fun yq6 hf kq6 => ?_)
      · refine r_istore_n (L' := [(3, _), (0, _), (1, _), (2, _), (4, _)]) dX3_readAny_38 rfl (show 3 < 5 by decide) rfl ?_
        refine r_iload_n 0 dX3_readAny_39 rfl rfl ?_
        refine r_jn (fun (q8 : Mem) => V Γ (MD_Ps_readAny (d + 1)) σ0 r q8 59 [(0, va_rf (some th)), (1, .int x1), (2, .int (b2i x2)), (3, .int (b2i q6)), (4, .int x4)] []) hf (fun q8 hf => ?_) (fun yq8 hf oq8 kq8 => ?_)
        · refine r_iinc (1 : Int32) (L' := [(4, _), (0, _), (1, _), (2, _), (3, _)]) 4 dX3_readAny_59 rfl (by decide) (show 4 < 5 by decide) rfl ?_
          refine r_goto 5 dX3_readAny_62 (by decide) ?_
          refine r_sub (L' := [(0, _), (1, _), (2, _), (3, _), (4, _)]) [1, 2, 3, 4, 0] rfl ?_
          exact ih _ (Option.some.inj hf).symm
        · refine r_ifeqZ 50 hf dX3_readAny_40 (by decide) (fun c9 hf => ?_) (fun c9 hf => ?_)
          · refine r_aload_n 1 dX3_readAny_43 rfl rfl ?_
            refine r_chk hf (fun a10 xa10 ta10 hf => ?_)
            refine bnd hf (fun v11 ev11 hf => ?_)
            refine r_callVv (ci := 3) xa10 dX3_readAny_44 cs_RX3_38 ww_705 ww_15 (by decide) ta10 ⟨(show 3 + 1 ≤ 15 + 4 * (d + 1) by omega), (show 8 + (1 + 11) + (65) ≤ 476 + 160 * (d + 1) by omega)⟩ rfl (rest := []) rfl (Or.inl (Nat.le_of_ble_eq_true rfl)) (t_Ps_advance ev11) ?_
            refine r_goto 59 dX3_readAny_47 (by decide) ?_
            refine r_sub (L' := [(0, _), (1, _), (2, _), (3, _), (4, _)]) [1, 2, 3, 0, 4] rfl ?_
            exact kq8 _ (Option.some.inj hf).symm
          · refine r_aload_n 1 dX3_readAny_50 rfl rfl ?_
            refine r_chk hf (fun a12 xa12 ta12 hf => ?_)
            refine bnd hf (fun v13 ev13 hf => ?_)
            refine r_callVr (ci := 3) xa12 dX3_readAny_51 cs_RX3_64 ww_775 ww_26 (by decide) ta12 ⟨(show 1 + 1 ≤ 15 + 4 * (d + 1) by omega), (show 8 + (1 + 11) + (22) ≤ 476 + 160 * (d + 1) by omega)⟩ rfl (rest := []) rfl (Or.inl (Nat.le_of_ble_eq_true rfl)) (t_Ps_beginsPart ev13) ?_
            refine r_ifneZ 59 hf dX3_readAny_54 (by decide) (fun c14 hf => ?_) (fun c14 hf => ?_)
            · refine r_sub (L' := [(0, _), (1, _), (2, _), (3, _), (4, _)]) [1, 2, 3, 0, 4] rfl ?_
              exact kq8 _ (Option.some.inj hf).symm
            · refine r_sub (L' := []) [] rfl ?_
              exact hk1 _ (ho _ (oq8 _ (Option.some.inj hf).symm).symm)
      · refine r_icmp_ne 37 hf dX3_readAny_30 (by decide) (fun c7 hf => ?_) (fun c7 hf => ?_)
        · refine r_iconst (b2i false) dX3_readAny_37 rfl ?_
          refine r_sub (L' := [(0, _), (1, _), (2, _), (4, _)]) [0, 1, 2, 4] rfl ?_
          cases (Option.some.inj hf)
          exact kq6
        · refine r_iconst (b2i true) dX3_readAny_33 rfl ?_
          refine r_goto 38 dX3_readAny_34 (by decide) ?_
          refine r_sub (L' := [(0, _), (1, _), (2, _), (4, _)]) [0, 1, 2, 4] rfl ?_
          cases (Option.some.inj hf)
          exact kq6
    · refine r_sub (L' := []) [] rfl ?_
      exact hk0 _ (ho _ (Option.some.inj hf).symm)
set_option maxRecDepth 100000 in
set_option maxHeartbeats 4000000 in
theorem t_Ps_readAny_s {Γ : W0} {σ : Mem} {th : Nat} {x1 : Int32} {x2 : Bool} {v : Bool} {σ' : Mem} {d : Nat} {rec : Mem → Nat → Int32 → Bool → Option (Bool × Mem)} (hrec : ∀ {Γ : W0} {σ : Mem} {th : Nat} {y1 : Int32} {y2 : Bool} {v : Bool} {σ' : Mem}, rec σ th y1 y2 = some (v, σ') → CT Γ (MD_Ps_readAny d) yX3_readAny [va_rf (some th), .int y1, .int (b2i y2)] σ (some (.int (b2i v)), σ')) (hf : Ps_readAny_s rec σ th x1 x2 = some (v, σ')) : CT Γ (MD_Ps_readAny (d + 1)) yX3_readAny [va_rf (some th), .int x1, .int (b2i x2)] σ (some (.int (b2i v)), σ') := by
  refine CT.of (L := [(0, va_rf (some th)), (1, .int x1), (2, .int (b2i x2))]) rfl (by decide) (fun h => Bool.noConfusion (show false = true from h)) (Nat.le_of_ble_eq_true rfl) rfl ?_
  unfold Ps_readAny_s at hf
  generalize hr : mkR Γ σ (some (.int (b2i v))) σ' = r
  refine r_iconst (b2i true) dX3_readAny_0 rfl ?_
  refine r_istore_n (L' := [(3, _), (0, _), (1, _), (2, _)]) dX3_readAny_1 rfl (show 3 < 5 by decide) rfl ?_
  refine r_iconst (0 : Int32) dX3_readAny_2 (by decide) ?_
  refine r_istore (L' := [(4, _), (3, _), (0, _), (1, _), (2, _)]) dX3_readAny_3 (show 4 < 5 by decide) rfl ?_
  refine bnd hf (fun t15 et15 hf => ?_)
  refine r_sub (L' := [(0, _), (1, _), (2, _), (3, _), (4, _)]) [2, 3, 4, 1, 0] rfl ?_
  refine x_Ps_readAny_l5 hrec ?_ ?_ ?_ _ et15
  · intro z16 hz16
    subst hz16
    simp only [se] at hf
    refine r_iconst (b2i false) dX3_readAny_22 rfl ?_
    exact r_zret rfl dX3_readAny_23 (by obtain ⟨h1, h2⟩ := Prod.mk.inj (Option.some.inj hf); subst h1; subst h2; exact hr.symm)
  · intro z17 hz17
    subst hz17
    simp only [se] at hf
    refine r_iconst (b2i true) dX3_readAny_57 rfl ?_
    exact r_zret rfl dX3_readAny_58 (by obtain ⟨h1, h2⟩ := Prod.mk.inj (Option.some.inj hf); subst h1; subst h2; exact hr.symm)
  · intro z18 hz18
    subst hz18
    simp only [se] at hf
    refine r_iconst (b2i false) dX3_readAny_65 rfl ?_
    exact r_zret rfl dX3_readAny_66 (by obtain ⟨h1, h2⟩ := Prod.mk.inj (Option.some.inj hf); subst h1; subst h2; exact hr.symm)
set_option maxRecDepth 100000 in
set_option maxHeartbeats 4000000 in
theorem t_Ps_readAny : ∀ (d : Nat), ∀ {Γ : W0} {σ : Mem} {th : Nat} {y1 : Int32} {y2 : Bool} {v : Bool} {σ' : Mem}, Ps_readAny d σ th y1 y2 = some (v, σ') → CT Γ (MD_Ps_readAny d) yX3_readAny [va_rf (some th), .int y1, .int (b2i y2)] σ (some (.int (b2i v)), σ')
  | 0 => fun h => by cases h
  | d + 1 => fun h => t_Ps_readAny_s (fun h => t_Ps_readAny d h) h
/-! SearchEngine$Parser.wrongPlace -/
noncomputable def Ps_wrongPlace (σ : Mem) (th : Nat) : Option (Int32 × Mem) :=
  (ldR σ 3 3 (some th)).bind fun v1 =>
  (stI σ 5 1 v1 (0 : Int32)).bind fun m2 =>
  (chk m2 3 (some th)).bind fun a3 =>
  (Ps_advance m2 a3).bind fun v4 =>
  (chk v4 3 (some th)).bind fun a5 =>
  (Ps_readAny 20 v4 a5 (0 : Int32) false).bind fun v6 =>
  jn (
    if v6.1 = true then
      (ldI v6.2 3 4 (some th)).bind fun v9 =>
      if ¬ v9 = (257 : Int32) then
        some (Sum.inr ())
      else
        some (Sum.inl ((-1 : Int32), v6.2))
    else
      some (Sum.inr ())) fun q7 =>
  (ldI v6.2 3 5 (some th)).bind fun v11 =>
  some (v11, v6.2)
set_option maxRecDepth 100000 in
set_option maxHeartbeats 4000000 in
theorem t_Ps_wrongPlace {Γ : W0} {σ : Mem} {th : Nat} {v : Int32} {σ' : Mem} (hf : Ps_wrongPlace σ th = some (v, σ')) : CT Γ MD_Ps_wrongPlace yX3_wrongPlace [va_rf (some th)] σ (some (.int v), σ') := by
  refine CT.of (L := [(0, va_rf (some th))]) rfl (by decide) (fun h => Bool.noConfusion (show false = true from h)) (Nat.le_of_ble_eq_true rfl) rfl ?_
  unfold Ps_wrongPlace at hf
  generalize hr : mkR Γ σ (some (.int v)) σ' = r
  refine r_aload_n 0 dX3_wrongPlace_0 rfl rfl ?_
  refine r_ldR hf dX3_wrongPlace_1 fl_RX3_29 rfl (fun v1 ev1 hf => ?_)
  refine r_iconst (0 : Int32) dX3_wrongPlace_4 (by decide) ?_
  refine r_stI hf dX3_wrongPlace_5 fl_RX3_33 rfl rfl rfl (fun m2 em2 hf => ?_)
  refine r_aload_n 0 dX3_wrongPlace_8 rfl rfl ?_
  refine r_chk hf (fun a3 xa3 ta3 hf => ?_)
  refine bnd hf (fun v4 ev4 hf => ?_)
  refine r_callVv (ci := 3) xa3 dX3_wrongPlace_9 cs_RX3_38 ww_705 ww_15 (by decide) ta3 (by decide) rfl (rest := []) rfl (Or.inl (Nat.le_of_ble_eq_true rfl)) (t_Ps_advance ev4) ?_
  refine r_aload_n 0 dX3_wrongPlace_12 rfl rfl ?_
  refine r_iconst (0 : Int32) dX3_wrongPlace_13 (by decide) ?_
  refine r_iconst (b2i false) dX3_wrongPlace_14 rfl ?_
  refine r_chk hf (fun a5 xa5 ta5 hf => ?_)
  refine bnd hf (fun v6 ev6 hf => ?_)
  refine r_callVr (ci := 3) xa5 dX3_wrongPlace_15 (cs_RX3_41 _) ww_710 ww_16 (by decide) ta5 ⟨(show 15 + 4 * 20 + 1 ≤ 114 by omega), (show 8 + (5 + 11) + (476 + 160 * 20) ≤ 4440 by omega)⟩ rfl (rest := []) rfl (Or.inl (Nat.le_of_ble_eq_true rfl)) (t_Ps_readAny 20 ev6) ?_
  refine r_jn (fun (q7 : Unit) => V Γ MD_Ps_wrongPlace σ r v6.2 35 [(0, va_rf (some th))] []) hf (fun q7 hf => ?_) (fun yq7 hf oq7 kq7 => ?_)
  · refine r_aload_n 0 dX3_wrongPlace_35 rfl rfl ?_
    refine r_ldI hf dX3_wrongPlace_36 fl_RX3_48 rfl (fun v11 ev11 hf => ?_)
    exact r_iret rfl dX3_wrongPlace_39 (by obtain ⟨h1, h2⟩ := Prod.mk.inj (Option.some.inj hf); subst h1; subst h2; exact hr.symm)
  · refine r_ifeqZ 35 hf dX3_wrongPlace_18 (by decide) (fun c8 hf => ?_) (fun c8 hf => ?_)
    · refine r_aload_n 0 dX3_wrongPlace_21 rfl rfl ?_
      refine r_ldI hf dX3_wrongPlace_22 fl_RX3_45 rfl (fun v9 ev9 hf => ?_)
      refine r_sipush (257 : Int32) dX3_wrongPlace_25 (by decide) ?_
      refine r_icmp_ne 35 hf dX3_wrongPlace_28 (by decide) (fun c10 hf => ?_) (fun c10 hf => ?_)
      · refine r_sub (L' := [(0, _)]) [0] rfl ?_
        exact kq7 _ (Option.some.inj hf).symm
      · refine r_iconst (-1 : Int32) dX3_wrongPlace_31 (by decide) ?_
        refine r_goto 39 dX3_wrongPlace_32 (by decide) ?_
        exact r_iret rfl dX3_wrongPlace_39 (by obtain ⟨h1, h2⟩ := Prod.mk.inj (oq7 _ (Option.some.inj hf).symm); subst h1; subst h2; exact hr.symm)
    · refine r_sub (L' := [(0, _)]) [0] rfl ?_
      exact kq7 _ (Option.some.inj hf).symm
/-! SearchEngine$Part.isFor -/
noncomputable def Pa_isFor (σ : Mem) (th : Nat) (x1 : Int32) : Option Bool :=
  (ldI σ 4 1 (some th)).bind fun v1 =>
  if v1 = (-1 : Int32) then
    some true
  else
    (ldI σ 4 1 (some th)).bind fun v3 =>
    if ¬ v3 = x1 then
      some false
    else
      some true
set_option maxRecDepth 100000 in
set_option maxHeartbeats 4000000 in
theorem t_Pa_isFor {Γ : W0} {σ : Mem} {th : Nat} {x1 : Int32} {v : Bool} (hf : Pa_isFor σ th x1 = some v) : CT Γ MD_Pa_isFor yX4_isFor [va_rf (some th), .int x1] σ (some (.int (b2i v)), σ) := by
  refine CT.of (L := [(0, va_rf (some th)), (1, .int x1)]) rfl (by decide) (fun h => Bool.noConfusion (show false = true from h)) (Nat.le_of_ble_eq_true rfl) rfl ?_
  unfold Pa_isFor at hf
  generalize hr : mkR Γ σ (some (.int (b2i v))) σ = r
  refine r_aload_n 0 dX4_isFor_0 rfl rfl ?_
  refine r_ldI hf dX4_isFor_1 fl_RX4_26 rfl (fun v1 ev1 hf => ?_)
  refine r_iconst (-1 : Int32) dX4_isFor_4 (by decide) ?_
  refine r_icmp_eq 16 hf dX4_isFor_5 (by decide) (fun c2 hf => ?_) (fun c2 hf => ?_)
  · refine r_iconst (b2i true) dX4_isFor_16 rfl ?_
    refine r_goto 21 dX4_isFor_17 (by decide) ?_
    exact r_zret rfl dX4_isFor_21 (by have h1 := (Option.some.inj hf); subst h1; exact hr.symm)
  · refine r_aload_n 0 dX4_isFor_8 rfl rfl ?_
    refine r_ldI hf dX4_isFor_9 fl_RX4_26 rfl (fun v3 ev3 hf => ?_)
    refine r_iload_n 1 dX4_isFor_12 rfl rfl ?_
    refine r_icmp_ne 20 hf dX4_isFor_13 (by decide) (fun c4 hf => ?_) (fun c4 hf => ?_)
    · refine r_iconst (b2i false) dX4_isFor_20 rfl ?_
      exact r_zret rfl dX4_isFor_21 (by have h1 := (Option.some.inj hf); subst h1; exact hr.symm)
    · refine r_iconst (b2i true) dX4_isFor_16 rfl ?_
      refine r_goto 21 dX4_isFor_17 (by decide) ?_
      exact r_zret rfl dX4_isFor_21 (by have h1 := (Option.some.inj hf); subst h1; exact hr.symm)
/-! SearchEngine$View.rareness -/
noncomputable def Vi_rareness_l19 (σ : Mem) (th : Nat) (x4 : Int32) (x5 : Int32) : Option (Int32 ⊕ Int32) :=
  if (30 : Int32) ≤ x5 then
    some (Sum.inr x5)
  else
    (ldI σ 9 5 (some th)).bind fun v5 =>
    if (shrI v5 (x5 + (1 : Int32))) < x4 then
      some (Sum.inr x5)
    else
      some (Sum.inl (x5 + (1 : Int32)))
noncomputable def Vi_rareness (σ : Mem) (th : Nat) (x1 : Int32) (x2 : Int64) : Option Int32 :=
  (chk σ 9 (some th)).bind fun a1 =>
  (Vi_holders σ a1 x1 x2).bind fun v2 =>
  if (1 : Int32) ≤ v2 then
    (lp (fun q => Vi_rareness_l19 σ th v2 q) (0 : Int32)).bind fun z8 =>
    some ((1 : Int32) + z8)
  else
    some (0 : Int32)
set_option maxRecDepth 100000 in
set_option maxHeartbeats 4000000 in
theorem x_Vi_rareness_l19 {Γ : W0} {σ0 : Mem} {r : RT} {σ : Mem} {th : Nat} {x4 : Int32} {t : Int32} (hk0 : ∀ z : Int32, z = t → V Γ MD_Vi_rareness σ0 r σ 46 [(5, .int z)] []) : ∀ q : Int32, lp (fun q => Vi_rareness_l19 σ th x4 q) q = some t → V Γ MD_Vi_rareness σ0 r σ 19 [(0, va_rf (some th)), (4, .int x4), (5, .int q)] [] := by
  refine lp_ind (fun (q : Int32) => V Γ MD_Vi_rareness σ0 r σ 19 [(0, va_rf (some th)), (4, .int x4), (5, .int q)] []) (fun q x hf ih ho => ?_)
  revert hf ih
  generalize q = x5
  intro hf ih
  show V Γ MD_Vi_rareness σ0 r σ 19 [(0, va_rf (some th)), (4, .int x4), (5, .int x5)] []
  replace hf : Vi_rareness_l19 σ th x4 x5 = some x := hf
  unfold Vi_rareness_l19 at hf
  refine r_iload 2 dX9_rareness_19 rfl ?_
  refine r_bipush (30 : Int32) dX9_rareness_21 (by decide) ?_
  refine r_icmp_ge 46 hf dX9_rareness_23 (by decide) (fun c4 hf => ?_) (fun c4 hf => ?_)
  · refine r_sub (L' := [(5, _)]) [2] rfl ?_
    exact hk0 _ (ho _ (Option.some.inj hf).symm)
  · refine r_aload_n 0 dX9_rareness_26 rfl rfl ?_
    refine r_ldI hf dX9_rareness_27 fl_RX9_35 rfl (fun v5 ev5 hf => ?_)
    refine r_iload 2 dX9_rareness_30 rfl ?_
    refine r_iconst (1 : Int32) dX9_rareness_32 (by decide) ?_
    refine r_iadd dX9_rareness_33 ?_
    refine r_ishr dX9_rareness_34 ?_
    refine r_iload 1 dX9_rareness_35 rfl ?_
    refine r_icmp_lt 46 hf dX9_rareness_37 (by decide) (fun c6 hf => ?_) (fun c6 hf => ?_)
    · refine r_sub (L' := [(5, _)]) [2] rfl ?_
      exact hk0 _ (ho _ (Option.some.inj hf).symm)
    · refine r_iinc (1 : Int32) (L' := [(5, _), (0, _), (4, _)]) 2 dX9_rareness_40 rfl (by decide) (show 5 < 6 by decide) rfl ?_
      refine r_goto 19 dX9_rareness_43 (by decide) ?_
      refine r_sub (L' := [(0, _), (4, _), (5, _)]) [1, 2, 0] rfl ?_
      exact ih _ (Option.some.inj hf).symm
set_option maxRecDepth 100000 in
set_option maxHeartbeats 4000000 in
theorem t_Vi_rareness {Γ : W0} {σ : Mem} {th : Nat} {x1 : Int32} {x2 : Int64} {v : Int32} (hf : Vi_rareness σ th x1 x2 = some v) : CT Γ MD_Vi_rareness yX9_rareness [va_rf (some th), .int x1, .long x2] σ (some (.int v), σ) := by
  refine CT.of (L := [(0, va_rf (some th)), (1, .int x1), (2, .long x2)]) rfl (by decide) (fun h => Bool.noConfusion (show false = true from h)) (Nat.le_of_ble_eq_true rfl) rfl ?_
  unfold Vi_rareness at hf
  generalize hr : mkR Γ σ (some (.int v)) σ = r
  refine r_aload_n 0 dX9_rareness_0 rfl rfl ?_
  refine r_iload_n 1 dX9_rareness_1 rfl rfl ?_
  refine r_lload_n 2 dX9_rareness_2 rfl rfl ?_
  refine r_chk hf (fun a1 xa1 ta1 hf => ?_)
  refine bnd hf (fun v2 ev2 hf => ?_)
  refine r_callVr (ci := 9) xa1 dX9_rareness_3 cs_RX9_62 ww_794 ww_795 (by decide) ta1 (by decide) rfl (rest := []) rfl (Or.inl (Nat.le_of_ble_eq_true rfl)) (t_Vi_holders ev2) ?_
  refine r_istore (L' := [(4, _), (0, _), (1, _), (2, _)]) dX9_rareness_6 (show 4 < 6 by decide) rfl ?_
  refine r_iload 0 dX9_rareness_8 rfl ?_
  refine r_iconst (1 : Int32) dX9_rareness_10 (by decide) ?_
  refine r_icmp_ge 16 hf dX9_rareness_11 (by decide) (fun c3 hf => ?_) (fun c3 hf => ?_)
  · refine r_iconst (0 : Int32) dX9_rareness_16 (by decide) ?_
    refine r_istore (L' := [(5, _), (4, _), (0, _), (1, _), (2, _)]) dX9_rareness_17 (show 5 < 6 by decide) rfl ?_
    refine bnd hf (fun t7 et7 hf => ?_)
    refine r_sub (L' := [(0, _), (4, _), (5, _)]) [2, 1, 0] rfl ?_
    refine x_Vi_rareness_l19 ?_ _ et7
    · intro z8 hz8
      subst hz8
      refine r_iconst (1 : Int32) dX9_rareness_46 (by decide) ?_
      refine r_iload 0 dX9_rareness_47 rfl ?_
      refine r_iadd dX9_rareness_49 ?_
      exact r_iret rfl dX9_rareness_50 (by have h1 := (Option.some.inj hf); subst h1; exact hr.symm)
  · refine r_iconst (0 : Int32) dX9_rareness_14 (by decide) ?_
    exact r_iret rfl dX9_rareness_15 (by have h1 := (Option.some.inj hf); subst h1; exact hr.symm)
/-! SearchEngine$Part.weigh -/
noncomputable def Pa_weigh_l24 (σ : Mem) (th : Nat) (x1 : Option Nat) (x2 : Int32) (x3 : Int32) : Option ((Int32 × Mem) ⊕ Mem) :=
  (chk σ 4 (some th)).bind fun a6 =>
  (Pa_isFor σ a6 x2).bind fun v7 =>
  if v7 = true then
    (ldI σ 4 9 (some th)).bind fun v9 =>
    if v9 ≤ x3 then
      some (Sum.inr σ)
    else
      (ldR σ 4 14 (some th)).bind fun v11 =>
      (raI σ 0 v11 x2).bind fun v12 =>
      (ldR σ 4 7 (some th)).bind fun v13 =>
      (raL σ 1 v13 x3).bind fun v14 =>
      (chk σ 9 x1).bind fun a15 =>
      (Vi_rareness σ a15 x2 v14).bind fun v16 =>
      (waI σ 0 v11 x2 (v12 + v16)).bind fun m17 =>
      some (Sum.inl ((x3 + (1 : Int32)), m17))
  else
    some (Sum.inr σ)
noncomputable def Pa_weigh_l2 (σ : Mem) (th : Nat) (x1 : Option Nat) (x2 : Int32) : Option ((Int32 × Mem) ⊕ Mem) :=
  (ldI σ 4 0 (some th)).bind fun v1 =>
  if ¬ v1 = (1 : Int32) then
    some (Sum.inr σ)
  else
    if (2 : Int32) ≤ x2 then
      some (Sum.inr σ)
    else
      (ldR σ 4 14 (some th)).bind fun v4 =>
      (waI σ 0 v4 x2 (0 : Int32)).bind fun m5 =>
      (lp (fun q => Pa_weigh_l24 q.2 th x1 x2 q.1) ((0 : Int32), m5)).bind fun z19 =>
      some (Sum.inl ((x2 + (1 : Int32)), z19))
noncomputable def Pa_weigh (σ : Mem) (th : Nat) (x1 : Option Nat) : Option Mem :=
  (lp (fun q => Pa_weigh_l2 q.2 th x1 q.1) ((0 : Int32), σ)).bind fun z21 =>
  some z21
set_option maxRecDepth 100000 in
set_option maxHeartbeats 4000000 in
theorem x_Pa_weigh_l24 {Γ : W0} {σ0 : Mem} {r : RT} {th : Nat} {x1 : Option Nat} {x2 : Int32} {t : Mem} (hk0 : ∀ z : Mem, z = t → V Γ MD_Pa_weigh σ0 r z 66 [(0, va_rf (some th)), (1, va_rf x1), (2, .int x2)] []) : ∀ q : Int32 × Mem, lp (fun q => Pa_weigh_l24 q.2 th x1 x2 q.1) q = some t → V Γ MD_Pa_weigh σ0 r q.2 24 [(0, va_rf (some th)), (1, va_rf x1), (2, .int x2), (3, .int q.1)] [] := by
  refine lp_ind (fun (q : Int32 × Mem) => V Γ MD_Pa_weigh σ0 r q.2 24 [(0, va_rf (some th)), (1, va_rf x1), (2, .int x2), (3, .int q.1)] []) (fun q x hf ih ho => ?_)
  obtain ⟨x3, σ⟩ := q
  show V Γ MD_Pa_weigh σ0 r σ 24 [(0, va_rf (some th)), (1, va_rf x1), (2, .int x2), (3, .int x3)] []
  replace hf : Pa_weigh_l24 σ th x1 x2 x3 = some x := hf
  unfold Pa_weigh_l24 at hf
  refine r_aload_n 0 dX4_weigh_24 rfl rfl ?_
  refine r_iload_n 2 dX4_weigh_25 rfl rfl ?_
  refine r_chk hf (fun a6 xa6 ta6 hf => ?_)
  refine bnd hf (fun v7 ev7 hf => ?_)
  refine r_callVr (ci := 4) xa6 dX4_weigh_26 cs_RX4_51 ww_787 ww_27 (by decide) ta6 (by decide) rfl (rest := []) rfl (Or.inl (Nat.le_of_ble_eq_true rfl)) (t_Pa_isFor ev7) ?_
  refine r_ifeqZ 66 hf dX4_weigh_29 (by decide) (fun c8 hf => ?_) (fun c8 hf => ?_)
  · refine r_iload_n 3 dX4_weigh_32 rfl rfl ?_
    refine r_aload_n 0 dX4_weigh_33 rfl rfl ?_
    refine r_ldI hf dX4_weigh_34 fl_RX4_45 rfl (fun v9 ev9 hf => ?_)
    refine r_icmp_ge 66 hf dX4_weigh_37 (by decide) (fun c10 hf => ?_) (fun c10 hf => ?_)
    · refine r_sub (L' := [(0, _), (1, _), (2, _)]) [0, 1, 2] rfl ?_
      exact hk0 _ (ho _ (Option.some.inj hf).symm)
    · refine r_aload_n 0 dX4_weigh_40 rfl rfl ?_
      refine r_ldR hf dX4_weigh_41 fl_RX4_19 rfl (fun v11 ev11 hf => ?_)
      refine r_iload_n 2 dX4_weigh_44 rfl rfl ?_
      refine r_dup2 dX4_weigh_45 rfl (cat_rf _) ?_
      refine r_raI hf dX4_weigh_46 (fun v12 ev12 hf => ?_)
      refine r_aload_n 1 dX4_weigh_47 rfl rfl ?_
      refine r_iload_n 2 dX4_weigh_48 rfl rfl ?_
      refine r_aload_n 0 dX4_weigh_49 rfl rfl ?_
      refine r_ldR hf dX4_weigh_50 fl_RX4_9 rfl (fun v13 ev13 hf => ?_)
      refine r_iload_n 3 dX4_weigh_53 rfl rfl ?_
      refine r_raL hf dX4_weigh_54 (fun v14 ev14 hf => ?_)
      refine r_chk hf (fun a15 xa15 ta15 hf => ?_)
      refine bnd hf (fun v16 ev16 hf => ?_)
      refine r_callVr (ci := 9) xa15 dX4_weigh_55 cs_RX4_55 ww_790 ww_791 (by decide) ta15 (by decide) rfl (rest := [_, _, _]) rfl (Or.inl (Nat.le_of_ble_eq_true rfl)) (t_Vi_rareness ev16) ?_
      refine r_iadd dX4_weigh_58 ?_
      refine r_waI hf dX4_weigh_59 (fun m17 em17 hf => ?_)
      refine r_iinc (1 : Int32) (L' := [(3, _), (0, _), (1, _), (2, _)]) 3 dX4_weigh_60 rfl (by decide) (show 3 < 4 by decide) rfl ?_
      refine r_goto 24 dX4_weigh_63 (by decide) ?_
      refine r_sub (L' := [(0, _), (1, _), (2, _), (3, _)]) [1, 2, 3, 0] rfl ?_
      exact ih _ (Option.some.inj hf).symm
  · refine r_sub (L' := [(0, _), (1, _), (2, _)]) [0, 1, 2] rfl ?_
    exact hk0 _ (ho _ (Option.some.inj hf).symm)
set_option maxRecDepth 100000 in
set_option maxHeartbeats 4000000 in
theorem x_Pa_weigh_l2 {Γ : W0} {σ0 : Mem} {r : RT} {th : Nat} {x1 : Option Nat} {t : Mem} (hk0 : ∀ z : Mem, z = t → V Γ MD_Pa_weigh σ0 r z 72 [] []) : ∀ q : Int32 × Mem, lp (fun q => Pa_weigh_l2 q.2 th x1 q.1) q = some t → V Γ MD_Pa_weigh σ0 r q.2 2 [(0, va_rf (some th)), (1, va_rf x1), (2, .int q.1)] [] := by
  refine lp_ind (fun (q : Int32 × Mem) => V Γ MD_Pa_weigh σ0 r q.2 2 [(0, va_rf (some th)), (1, va_rf x1), (2, .int q.1)] []) (fun q x hf ih ho => ?_)
  obtain ⟨x2, σ⟩ := q
  show V Γ MD_Pa_weigh σ0 r σ 2 [(0, va_rf (some th)), (1, va_rf x1), (2, .int x2)] []
  replace hf : Pa_weigh_l2 σ th x1 x2 = some x := hf
  unfold Pa_weigh_l2 at hf
  refine r_aload_n 0 dX4_weigh_2 rfl rfl ?_
  refine r_ldI hf dX4_weigh_3 fl_RX4_22 rfl (fun v1 ev1 hf => ?_)
  refine r_iconst (1 : Int32) dX4_weigh_6 (by decide) ?_
  refine r_icmp_ne 72 hf dX4_weigh_7 (by decide) (fun c2 hf => ?_) (fun c2 hf => ?_)
  · refine r_sub (L' := []) [] rfl ?_
    exact hk0 _ (ho _ (Option.some.inj hf).symm)
  · refine r_iload_n 2 dX4_weigh_10 rfl rfl ?_
    refine r_iconst (2 : Int32) dX4_weigh_11 (by decide) ?_
    refine r_icmp_ge 72 hf dX4_weigh_12 (by decide) (fun c3 hf => ?_) (fun c3 hf => ?_)
    · refine r_sub (L' := []) [] rfl ?_
      exact hk0 _ (ho _ (Option.some.inj hf).symm)
    · refine r_aload_n 0 dX4_weigh_15 rfl rfl ?_
      refine r_ldR hf dX4_weigh_16 fl_RX4_19 rfl (fun v4 ev4 hf => ?_)
      refine r_iload_n 2 dX4_weigh_19 rfl rfl ?_
      refine r_iconst (0 : Int32) dX4_weigh_20 (by decide) ?_
      refine r_waI hf dX4_weigh_21 (fun m5 em5 hf => ?_)
      refine r_iconst (0 : Int32) dX4_weigh_22 (by decide) ?_
      refine r_istore_n (L' := [(3, _), (0, _), (1, _), (2, _)]) dX4_weigh_23 rfl (show 3 < 4 by decide) rfl ?_
      refine bnd hf (fun t18 et18 hf => ?_)
      refine r_sub (L' := [(0, _), (1, _), (2, _), (3, _)]) [1, 2, 3, 0] rfl ?_
      refine x_Pa_weigh_l24 ?_ _ et18
      · intro z19 hz19
        subst hz19
        refine r_iinc (1 : Int32) (L' := [(2, .int (x2 + (1 : Int32))), (0, va_rf (some th)), (1, va_rf x1)]) 2 dX4_weigh_66 rfl (by decide) (show 2 < 4 by decide) (by simp [List.filter, cat_rf, cat_i, cat_l]) ?_
        refine r_goto 2 dX4_weigh_69 (by decide) ?_
        refine r_sub (L' := [(0, _), (1, _), (2, _)]) [1, 2, 0] rfl ?_
        exact ih _ (Option.some.inj hf).symm
set_option maxRecDepth 100000 in
set_option maxHeartbeats 4000000 in
theorem t_Pa_weigh {Γ : W0} {σ : Mem} {th : Nat} {x1 : Option Nat} {σ' : Mem} (hf : Pa_weigh σ th x1 = some σ') : CT Γ MD_Pa_weigh yX4_weigh [va_rf (some th), va_rf x1] σ (none, σ') := by
  refine CT.of (L := [(0, va_rf (some th)), (1, va_rf x1)]) rfl (by decide) (fun h => Bool.noConfusion (show false = true from h)) (by cases x1 <;> exact Nat.le_of_ble_eq_true rfl) (by cases x1 <;> rfl) ?_
  unfold Pa_weigh at hf
  generalize hr : mkR Γ σ (none) σ' = r
  refine r_iconst (0 : Int32) dX4_weigh_0 (by decide) ?_
  refine r_istore_n (i := 2) (L' := [(2, .int (0 : Int32)), (0, va_rf (some th)), (1, va_rf x1)]) dX4_weigh_1 rfl (show 2 < 4 by decide) (by simp [List.filter, cat_rf, cat_i, cat_l]) ?_
  refine bnd hf (fun t20 et20 hf => ?_)
  refine r_sub (L' := [(0, _), (1, _), (2, _)]) [1, 2, 0] rfl ?_
  refine x_Pa_weigh_l2 ?_ _ et20
  · intro z21 hz21
    subst hz21
    exact r_vret rfl dX4_weigh_72 (by have h1 := (Option.some.inj hf); subst h1; exact hr.symm)
