/-! methods as functions, with their walks (by program) -/
/-! SearchEngine$Query.scoreOfAny -/
noncomputable def Qu_scoreOfAny_l22 (rec : Mem → Nat → Int32 → Int32 → Option Nat → Int32 → Option Int32) (σ : Mem) (th : Nat) (x2 : Int32) (x3 : Option Nat) (x4 : Int32) (x5 : Int32) (x6 : Int32) (x7 : Int32) : Option ((Int32 × Int32 × Int32) ⊕ (Int32 × Int32)) :=
  if x2 ≤ x7 then
    some (Sum.inr (x5, x6))
  else
    (ldI σ 5 1 (some th)).bind fun v3 =>
    if v3 ≤ x7 then
      some (Sum.inr (x5, x6))
    else
      (ldR σ 5 0 (some th)).bind fun v5 =>
      (raR σ 7 v5 x7).bind fun v6 =>
      (chk σ 5 (some th)).bind fun a7 =>
      (Qu_scoreOfPart rec σ a7 x7 x3 x4).bind fun v8 =>
      (ldB σ 4 4 v6).bind fun v9 =>
      Option.bind (
        if v9 = true then
          (E_eitherScore x5 x6).bind fun v12 =>
          some (v12, v8)
        else
          (E_bothScore x6 v8).bind fun v13 =>
          some (x5, v13)) fun q10 =>
      (ldI σ 4 6 v6).bind fun v14 =>
      some (Sum.inl (q10.1, q10.2, (maxI (x7 + (1 : Int32)) v14)))
noncomputable def Qu_scoreOfAny_s (rec : Mem → Nat → Int32 → Int32 → Option Nat → Int32 → Option Int32) (σ : Mem) (th : Nat) (x1 : Int32) (x2 : Int32) (x3 : Option Nat) (x4 : Int32) : Option Int32 :=
  if x4 ≤ (8 : Int32) then
    (lp (fun q => Qu_scoreOfAny_l22 rec σ th x2 x3 x4 q.1 q.2.1 q.2.2) ((-1 : Int32), (-1 : Int32), (maxI x1 (0 : Int32)))).bind fun z16 =>
    (E_eitherScore z16.1 z16.2).bind fun v17 =>
    some v17
  else
    some (-1 : Int32)
noncomputable def Qu_scoreOfAny : Nat → Mem → Nat → Int32 → Int32 → Option Nat → Int32 → Option Int32
  | 0 => fun _ _ _ _ _ _ => none
  | d + 1 => Qu_scoreOfAny_s (Qu_scoreOfAny d)
set_option maxRecDepth 100000 in
set_option maxHeartbeats 4000000 in
theorem x_Qu_scoreOfAny_l22 {Γ : W0} {σ0 : Mem} {r : RT} {σ : Mem} {th : Nat} {x2 : Int32} {x3 : Option Nat} {x4 : Int32} {t : Int32 × Int32} {d : Nat} {rec : Mem → Nat → Int32 → Int32 → Option Nat → Int32 → Option Int32} (hrec : ∀ {Γ : W0} {σ : Mem} {th : Nat} {y1 : Int32} {y2 : Int32} {y3 : Option Nat} {y4 : Int32} {v : Int32}, rec σ th y1 y2 y3 y4 = some v → CT Γ (MD_Qu_scoreOfAny d) yX5_scoreOfAny [va_rf (some th), .int y1, .int y2, va_rf y3, .int y4] σ (some (.int v), σ)) (hk0 : ∀ z : Int32 × Int32, z = t → V Γ (MD_Qu_scoreOfAny (d + 1)) σ0 r σ 107 [(5, .int z.1), (6, .int z.2)] []) : ∀ q : Int32 × Int32 × Int32, lp (fun q => Qu_scoreOfAny_l22 rec σ th x2 x3 x4 q.1 q.2.1 q.2.2) q = some t → V Γ (MD_Qu_scoreOfAny (d + 1)) σ0 r σ 22 [(0, va_rf (some th)), (2, .int x2), (3, va_rf x3), (4, .int x4), (5, .int q.1), (6, .int q.2.1), (7, .int q.2.2)] [] := by
  refine lp_ind (fun (q : Int32 × Int32 × Int32) => V Γ (MD_Qu_scoreOfAny (d + 1)) σ0 r σ 22 [(0, va_rf (some th)), (2, .int x2), (3, va_rf x3), (4, .int x4), (5, .int q.1), (6, .int q.2.1), (7, .int q.2.2)] []) (fun q x hf ih ho => ?_)
  obtain ⟨x5, x6, x7⟩ := q
  show V Γ (MD_Qu_scoreOfAny (d + 1)) σ0 r σ 22 [(0, va_rf (some th)), (2, .int x2), (3, va_rf x3), (4, .int x4), (5, .int x5), (6, .int x6), (7, .int x7)] []
  replace hf : Qu_scoreOfAny_l22 rec σ th x2 x3 x4 x5 x6 x7 = some x := hf
  unfold Qu_scoreOfAny_l22 at hf
  refine r_iload 6 dX5_scoreOfAny_22 rfl ?_
  refine r_iload_n 1 dX5_scoreOfAny_24 rfl rfl ?_
  refine r_icmp_ge 107 hf dX5_scoreOfAny_25 (by decide) (fun c2 hf => ?_) (fun c2 hf => ?_)
  · refine r_sub (L' := [(5, _), (6, _)]) [4, 5] rfl ?_
    exact hk0 _ (ho _ (Option.some.inj hf).symm)
  · refine r_iload 6 dX5_scoreOfAny_28 rfl ?_
    refine r_aload_n 0 dX5_scoreOfAny_30 rfl rfl ?_
    refine r_ldI hf dX5_scoreOfAny_31 fl_RX5_18 rfl (fun v3 ev3 hf => ?_)
    refine r_icmp_ge 107 hf dX5_scoreOfAny_34 (by decide) (fun c4 hf => ?_) (fun c4 hf => ?_)
    · refine r_sub (L' := [(5, _), (6, _)]) [4, 5] rfl ?_
      exact hk0 _ (ho _ (Option.some.inj hf).symm)
    · refine r_aload_n 0 dX5_scoreOfAny_37 rfl rfl ?_
      refine r_ldR hf dX5_scoreOfAny_38 fl_RX5_11 rfl (fun v5 ev5 hf => ?_)
      refine r_iload 6 dX5_scoreOfAny_41 rfl ?_
      refine r_raR hf dX5_scoreOfAny_43 (by decide) (by decide) (fun v6 ev6 hf => ?_)
      refine r_astore (L' := [(8, _), (0, _), (2, _), (3, _), (4, _), (5, _), (6, _), (7, _)]) dX5_scoreOfAny_44 (show 8 < 10 by decide) rfl ?_
      refine r_aload_n 1 dX5_scoreOfAny_46 rfl rfl ?_
      refine r_iload 7 dX5_scoreOfAny_47 rfl ?_
      refine r_aload_n 3 dX5_scoreOfAny_49 rfl rfl ?_
      refine r_iload 4 dX5_scoreOfAny_50 rfl ?_
      refine r_chk hf (fun a7 xa7 ta7 hf => ?_)
      refine bnd hf (fun v8 ev8 hf => ?_)
      refine r_callVr (ci := 5) xa7 dX5_scoreOfAny_52 (cs_RX5_35 _) ww_829 ww_30 (by decide) ta7 ⟨(show 10 + 2 * (d) + 1 ≤ 9 + 2 * (d + 1) by omega), (show 8 + (6 + 11) + (267 + 80 * (d)) ≤ 227 + 80 * (d + 1) by omega)⟩ rfl (rest := []) rfl (Or.inl (Nat.le_of_ble_eq_true rfl)) (t_Qu_scoreOfPart hrec ev8) ?_
      refine r_istore (i := 9) (L' := [(9, .int v8), (8, va_rf v6), (0, va_rf (some th)), (2, .int x2), (3, va_rf x3), (4, .int x4), (5, .int x5), (6, .int x6), (7, .int x7)]) dX5_scoreOfAny_55 (show 9 < 10 by decide) (by simp [List.filter, cat_rf, cat_i, cat_l]) ?_
      refine r_aload 1 dX5_scoreOfAny_57 rfl ?_
      refine r_ldB hf dX5_scoreOfAny_59 fl_RX5_39 rfl (fun v9 ev9 hf => ?_)
      refine r_bd (fun (q10 : Int32 × Int32) => V Γ (MD_Qu_scoreOfAny (d + 1)) σ0 r σ 90 [(0, va_rf (some th)), (2, .int x2), (3, va_rf x3), (4, .int x4), (5, .int q10.1), (6, .int q10.2), (7, .int x7), (8, va_rf v6)] []) hf (fun q10 hf => ?_) (fun yq10 hf kq10 => ?_)
      · refine r_iload 6 dX5_scoreOfAny_90 rfl ?_
        refine r_iconst (1 : Int32) dX5_scoreOfAny_92 (by decide) ?_
        refine r_iadd dX5_scoreOfAny_93 ?_
        refine r_aload 7 dX5_scoreOfAny_94 rfl ?_
        refine r_ldI hf dX5_scoreOfAny_96 fl_RX5_49 rfl (fun v14 ev14 hf => ?_)
        refine r_mmax dX5_scoreOfAny_99 ww_826 ww_579 ww_103 ww_580 ⟨(show 1 ≤ 9 + 2 * (d + 1) by omega), (show 8 + 13 ≤ 227 + 80 * (d + 1) by omega)⟩ (Nat.le_of_ble_eq_true rfl) ?_
        refine r_istore (L' := [(7, _), (0, _), (2, _), (3, _), (4, _), (5, _), (6, _), (8, _)]) dX5_scoreOfAny_102 (show 7 < 10 by decide) rfl ?_
        refine r_goto 22 dX5_scoreOfAny_104 (by decide) ?_
        refine r_sub (L' := [(0, _), (2, _), (3, _), (4, _), (5, _), (6, _), (7, _)]) [1, 2, 3, 4, 5, 6, 0] rfl ?_
        exact ih _ (Option.some.inj hf).symm
      · refine r_ifeqZ 81 hf dX5_scoreOfAny_62 (by decide) (fun c11 hf => ?_) (fun c11 hf => ?_)
        · refine r_iload 6 dX5_scoreOfAny_65 rfl ?_
          refine r_iload 7 dX5_scoreOfAny_67 rfl ?_
          refine bnd hf (fun v12 ev12 hf => ?_)
          refine r_callNr dX5_scoreOfAny_69 (show (RX5, 43, yX11_eitherScore) ∈ nwM by decide +kernel) cs_RX5_43 ww_883 ⟨(show 3 + 1 ≤ 9 + 2 * (d + 1) by omega), (show 8 + (2 + 11) + (51) ≤ 227 + 80 * (d + 1) by omega)⟩ rfl (rest := []) rfl (Or.inl (Nat.le_of_ble_eq_true rfl)) (t_E_eitherScore ev12) ?_
          refine r_istore (L' := [(5, _), (9, _), (8, _), (0, _), (2, _), (3, _), (4, _), (6, _), (7, _)]) dX5_scoreOfAny_72 (show 5 < 10 by decide) rfl ?_
          refine r_iload 1 dX5_scoreOfAny_74 rfl ?_
          refine r_istore (L' := [(6, _), (5, _), (9, _), (8, _), (0, _), (2, _), (3, _), (4, _), (7, _)]) dX5_scoreOfAny_76 (show 6 < 10 by decide) rfl ?_
          refine r_goto 90 dX5_scoreOfAny_78 (by decide) ?_
          refine r_sub (L' := [(0, _), (2, _), (3, _), (4, _), (5, _), (6, _), (7, _), (8, _)]) [4, 5, 6, 7, 1, 0, 8, 3] rfl ?_
          cases (Option.some.inj hf)
          exact kq10
        · refine r_iload 7 dX5_scoreOfAny_81 rfl ?_
          refine r_iload 0 dX5_scoreOfAny_83 rfl ?_
          refine bnd hf (fun v13 ev13 hf => ?_)
          refine r_callNr dX5_scoreOfAny_85 (show (RX5, 46, yX11_bothScore) ∈ nwM by decide +kernel) cs_RX5_46 ww_889 ⟨(show 3 + 1 ≤ 9 + 2 * (d + 1) by omega), (show 8 + (2 + 11) + (51) ≤ 227 + 80 * (d + 1) by omega)⟩ rfl (rest := []) rfl (Or.inl (Nat.le_of_ble_eq_true rfl)) (t_E_bothScore ev13) ?_
          refine r_istore (L' := [(6, _), (9, _), (8, _), (0, _), (2, _), (3, _), (4, _), (5, _), (7, _)]) dX5_scoreOfAny_88 (show 6 < 10 by decide) rfl ?_
          refine r_sub (L' := [(0, _), (2, _), (3, _), (4, _), (5, _), (6, _), (7, _), (8, _)]) [3, 4, 5, 6, 7, 0, 8, 2] rfl ?_
          cases (Option.some.inj hf)
          exact kq10
set_option maxRecDepth 100000 in
set_option maxHeartbeats 4000000 in
theorem t_Qu_scoreOfAny_s {Γ : W0} {σ : Mem} {th : Nat} {x1 : Int32} {x2 : Int32} {x3 : Option Nat} {x4 : Int32} {v : Int32} {d : Nat} {rec : Mem → Nat → Int32 → Int32 → Option Nat → Int32 → Option Int32} (hrec : ∀ {Γ : W0} {σ : Mem} {th : Nat} {y1 : Int32} {y2 : Int32} {y3 : Option Nat} {y4 : Int32} {v : Int32}, rec σ th y1 y2 y3 y4 = some v → CT Γ (MD_Qu_scoreOfAny d) yX5_scoreOfAny [va_rf (some th), .int y1, .int y2, va_rf y3, .int y4] σ (some (.int v), σ)) (hf : Qu_scoreOfAny_s rec σ th x1 x2 x3 x4 = some v) : CT Γ (MD_Qu_scoreOfAny (d + 1)) yX5_scoreOfAny [va_rf (some th), .int x1, .int x2, va_rf x3, .int x4] σ (some (.int v), σ) := by
  refine CT.of (L := [(0, va_rf (some th)), (1, .int x1), (2, .int x2), (3, va_rf x3), (4, .int x4)]) rfl (by decide) (fun h => Bool.noConfusion (show false = true from h)) (by cases x3 <;> exact Nat.le_of_ble_eq_true rfl) (by cases x3 <;> rfl) ?_
  unfold Qu_scoreOfAny_s at hf
  generalize hr : mkR Γ σ (some (.int v)) σ = r
  refine r_iload 4 dX5_scoreOfAny_0 rfl ?_
  refine r_bipush (8 : Int32) dX5_scoreOfAny_2 (by decide) ?_
  refine r_icmp_le 9 hf dX5_scoreOfAny_4 (by decide) (fun c1 hf => ?_) (fun c1 hf => ?_)
  · refine r_iconst (-1 : Int32) dX5_scoreOfAny_9 (by decide) ?_
    refine r_istore (L' := [(5, _), (0, _), (1, _), (2, _), (3, _), (4, _)]) dX5_scoreOfAny_10 (show 5 < 10 by decide) rfl ?_
    refine r_iconst (-1 : Int32) dX5_scoreOfAny_12 (by decide) ?_
    refine r_istore (L' := [(6, _), (5, _), (0, _), (1, _), (2, _), (3, _), (4, _)]) dX5_scoreOfAny_13 (show 6 < 10 by decide) rfl ?_
    refine r_iload_n 3 dX5_scoreOfAny_15 rfl rfl ?_
    refine r_iconst (0 : Int32) dX5_scoreOfAny_16 (by decide) ?_
    refine r_mmax dX5_scoreOfAny_17 ww_826 ww_579 ww_103 ww_580 ⟨(show 1 ≤ 9 + 2 * (d + 1) by omega), (show 8 + 13 ≤ 227 + 80 * (d + 1) by omega)⟩ (Nat.le_of_ble_eq_true rfl) ?_
    refine r_istore (L' := [(7, _), (6, _), (5, _), (0, _), (1, _), (2, _), (3, _), (4, _)]) dX5_scoreOfAny_20 (show 7 < 10 by decide) rfl ?_
    refine bnd hf (fun t15 et15 hf => ?_)
    refine r_sub (L' := [(0, _), (2, _), (3, _), (4, _), (5, _), (6, _), (7, _)]) [3, 5, 6, 7, 2, 1, 0] rfl ?_
    refine x_Qu_scoreOfAny_l22 hrec ?_ _ et15
    · intro z16 hz16
      subst hz16
      refine r_iload 0 dX5_scoreOfAny_107 rfl ?_
      refine r_iload 1 dX5_scoreOfAny_109 rfl ?_
      refine bnd hf (fun v17 ev17 hf => ?_)
      refine r_callNr dX5_scoreOfAny_111 (show (RX5, 43, yX11_eitherScore) ∈ nwM by decide +kernel) cs_RX5_43 ww_883 ⟨(show 3 + 1 ≤ 9 + 2 * (d + 1) by omega), (show 8 + (2 + 11) + (51) ≤ 227 + 80 * (d + 1) by omega)⟩ rfl (rest := []) rfl (Or.inl (Nat.le_of_ble_eq_true rfl)) (t_E_eitherScore ev17) ?_
      exact r_iret rfl dX5_scoreOfAny_114 (by have h1 := (Option.some.inj hf); subst h1; exact hr.symm)
  · refine r_iconst (-1 : Int32) dX5_scoreOfAny_7 (by decide) ?_
    exact r_iret rfl dX5_scoreOfAny_8 (by have h1 := (Option.some.inj hf); subst h1; exact hr.symm)
set_option maxRecDepth 100000 in
set_option maxHeartbeats 4000000 in
theorem t_Qu_scoreOfAny : ∀ (d : Nat), ∀ {Γ : W0} {σ : Mem} {th : Nat} {y1 : Int32} {y2 : Int32} {y3 : Option Nat} {y4 : Int32} {v : Int32}, Qu_scoreOfAny d σ th y1 y2 y3 y4 = some v → CT Γ (MD_Qu_scoreOfAny d) yX5_scoreOfAny [va_rf (some th), .int y1, .int y2, va_rf y3, .int y4] σ (some (.int v), σ)
  | 0 => fun h => by cases h
  | d + 1 => fun h => t_Qu_scoreOfAny_s (fun h => t_Qu_scoreOfAny d h) h
/-! SearchEngine$Query.names -/
noncomputable def Qu_names_l3 (σ : Mem) (th : Nat) (x1 : Int64) (x3 : Int32) (x4 : Int32) : Option (Int32 ⊕ (Unit ⊕ Unit)) :=
  if x1 = (0 : Int64) then
    some (Sum.inr (Sum.inr ()))
  else
    (ldI σ 5 1 (some th)).bind fun v2 =>
    if v2 ≤ x4 then
      some (Sum.inr (Sum.inr ()))
    else
      (ldR σ 5 0 (some th)).bind fun v4 =>
      (raR σ 7 v4 x4).bind fun v5 =>
      (chk σ 4 v5).bind fun a6 =>
      (Pa_names σ a6 x1 x3).bind fun v7 =>
      if v7 = true then
        some (Sum.inr (Sum.inl ()))
      else
        some (Sum.inl (x4 + (1 : Int32)))
noncomputable def Qu_names (σ : Mem) (th : Nat) (x1 : Int64) (x3 : Int32) : Option Bool :=
  (lp (fun q => Qu_names_l3 σ th x1 x3 q) (0 : Int32)).bind 
    (se (fun z10 =>
      some true)
      (fun z11 =>
        some false))
set_option maxRecDepth 100000 in
set_option maxHeartbeats 4000000 in
theorem x_Qu_names_l3 {Γ : W0} {σ0 : Mem} {r : RT} {σ : Mem} {th : Nat} {x1 : Int64} {x3 : Int32} {t : Unit ⊕ Unit} (hk0 : ∀ z : Unit, (Sum.inl z) = t → V Γ MD_Qu_names σ0 r σ 33 [] []) (hk1 : ∀ z : Unit, (Sum.inr z) = t → V Γ MD_Qu_names σ0 r σ 41 [] []) : ∀ q : Int32, lp (fun q => Qu_names_l3 σ th x1 x3 q) q = some t → V Γ MD_Qu_names σ0 r σ 3 [(0, va_rf (some th)), (1, .long x1), (3, .int x3), (4, .int q)] [] := by
  refine lp_ind (fun (q : Int32) => V Γ MD_Qu_names σ0 r σ 3 [(0, va_rf (some th)), (1, .long x1), (3, .int x3), (4, .int q)] []) (fun q x hf ih ho => ?_)
  revert hf ih
  generalize q = x4
  intro hf ih
  show V Γ MD_Qu_names σ0 r σ 3 [(0, va_rf (some th)), (1, .long x1), (3, .int x3), (4, .int x4)] []
  replace hf : Qu_names_l3 σ th x1 x3 x4 = some x := hf
  unfold Qu_names_l3 at hf
  refine r_lload_n 1 dX5_names_3 rfl rfl ?_
  refine r_lconst (0 : Int64) dX5_names_4 (by decide) ?_
  refine r_lcmp_eq 41 hf dX5_names_5 dX5_names_6 (by decide) (fun c1 hf => ?_) (fun c1 hf => ?_)
  · refine r_sub (L' := []) [] rfl ?_
    exact hk1 _ (ho _ (Option.some.inj hf).symm)
  · refine r_iload 3 dX5_names_9 rfl ?_
    refine r_aload_n 0 dX5_names_11 rfl rfl ?_
    refine r_ldI hf dX5_names_12 fl_RX5_18 rfl (fun v2 ev2 hf => ?_)
    refine r_icmp_ge 41 hf dX5_names_15 (by decide) (fun c3 hf => ?_) (fun c3 hf => ?_)
    · refine r_sub (L' := []) [] rfl ?_
      exact hk1 _ (ho _ (Option.some.inj hf).symm)
    · refine r_aload_n 0 dX5_names_18 rfl rfl ?_
      refine r_ldR hf dX5_names_19 fl_RX5_11 rfl (fun v4 ev4 hf => ?_)
      refine r_iload 3 dX5_names_22 rfl ?_
      refine r_raR hf dX5_names_24 (by decide) (by decide) (fun v5 ev5 hf => ?_)
      refine r_lload_n 1 dX5_names_25 rfl rfl ?_
      refine r_iload_n 2 dX5_names_26 rfl rfl ?_
      refine r_chk hf (fun a6 xa6 ta6 hf => ?_)
      refine bnd hf (fun v7 ev7 hf => ?_)
      refine r_callVr (ci := 4) xa6 dX5_names_27 cs_RX5_73 ww_945 ww_946 (by decide) ta6 (by decide) rfl (rest := []) rfl (Or.inl (Nat.le_of_ble_eq_true rfl)) (t_Pa_names ev7) ?_
      refine r_ifeqZ 35 hf dX5_names_30 (by decide) (fun c8 hf => ?_) (fun c8 hf => ?_)
      · refine r_sub (L' := []) [] rfl ?_
        exact hk0 _ (ho _ (Option.some.inj hf).symm)
      · refine r_iinc (1 : Int32) (L' := [(4, _), (0, _), (1, _), (3, _)]) 3 dX5_names_35 rfl (by decide) (show 4 < 5 by decide) rfl ?_
        refine r_goto 3 dX5_names_38 (by decide) ?_
        refine r_sub (L' := [(0, _), (1, _), (3, _), (4, _)]) [1, 2, 3, 0] rfl ?_
        exact ih _ (Option.some.inj hf).symm
set_option maxRecDepth 100000 in
set_option maxHeartbeats 4000000 in
theorem t_Qu_names {Γ : W0} {σ : Mem} {th : Nat} {x1 : Int64} {x3 : Int32} {v : Bool} (hf : Qu_names σ th x1 x3 = some v) : CT Γ MD_Qu_names yX5_names [va_rf (some th), .long x1, .int x3] σ (some (.int (b2i v)), σ) := by
  refine CT.of (L := [(0, va_rf (some th)), (1, .long x1), (3, .int x3)]) rfl (by decide) (fun h => Bool.noConfusion (show false = true from h)) (Nat.le_of_ble_eq_true rfl) rfl ?_
  unfold Qu_names at hf
  generalize hr : mkR Γ σ (some (.int (b2i v))) σ = r
  refine r_iconst (0 : Int32) dX5_names_0 (by decide) ?_
  refine r_istore (L' := [(4, _), (0, _), (1, _), (3, _)]) dX5_names_1 (show 4 < 5 by decide) rfl ?_
  refine bnd hf (fun t9 et9 hf => ?_)
  refine r_sub (L' := [(0, _), (1, _), (3, _), (4, _)]) [1, 2, 3, 0] rfl ?_
  refine x_Qu_names_l3 ?_ ?_ _ et9
  · intro z10 hz10
    subst hz10
    simp only [se] at hf
    refine r_iconst (b2i true) dX5_names_33 rfl ?_
    exact r_zret rfl dX5_names_34 (by have h1 := (Option.some.inj hf); subst h1; exact hr.symm)
  · intro z11 hz11
    subst hz11
    simp only [se] at hf
    refine r_iconst (b2i false) dX5_names_41 rfl ?_
    exact r_zret rfl dX5_names_42 (by have h1 := (Option.some.inj hf); subst h1; exact hr.symm)
/-! SearchEngine$Segment.termsOf -/
noncomputable def Se_termsOf_l4 (σ : Mem) (x0 : Option Nat) (x1 : Int32) (x2 : Int32) (x3 : Int32) : Option ((Int32 × Int32) ⊕ Int32) :=
  (alen σ 4 x0).bind fun v1 =>
  if v1 ≤ x3 then
    some (Sum.inr x2)
  else
    (raR σ 4 x0 x3).bind fun v3 =>
    Option.bind (
      if v3 = none then
        some x2
      else
        (raR σ 4 x0 x3).bind fun v6 =>
        (chk σ 1 v6).bind fun a7 =>
        (Do_textOf σ a7 x1).bind fun v8 =>
        (ldR σ 8 3 v8).bind fun v9 =>
        (chk σ 10 v9).bind fun a10 =>
        (Vo_size σ a10).bind fun v11 =>
        some (x2 + v11)) fun q4 =>
    some (Sum.inl (q4, (x3 + (1 : Int32))))
noncomputable def Se_termsOf_l78 (σ : Mem) (x0 : Option Nat) (x1 : Int32) (x2 : Int32) (x3 : Option Nat) (x4 : Int32) (x5 : Int32) (x6 : Option Nat) (x7 : Int32) : Option ((Int32 × Int32 × Mem) ⊕ (Int32 × Mem)) :=
  (chk σ 10 x6).bind fun a24 =>
  (Vo_size σ a24).bind fun v25 =>
  if v25 ≤ x7 then
    some (Sum.inr (x4, σ))
  else
    if x2 ≤ x4 then
      some (Sum.inr (x4, σ))
    else
      (chk σ 10 x6).bind fun a28 =>
      (Vo_termAt σ a28 x7).bind fun v29 =>
      (waL σ 1 x3 x4 v29).bind fun m30 =>
      some (Sum.inl ((x4 + (1 : Int32)), (x7 + (1 : Int32)), m30))
noncomputable def Se_termsOf_l48 (σ : Mem) (x0 : Option Nat) (x1 : Int32) (x2 : Int32) (x3 : Option Nat) (x4 : Int32) (x5 : Int32) : Option ((Int32 × Int32 × Mem) ⊕ Mem) :=
  (alen σ 4 x0).bind fun v15 =>
  if v15 ≤ x5 then
    some (Sum.inr σ)
  else
    (raR σ 4 x0 x5).bind fun v17 =>
    Option.bind (
      if v17 = none then
        some (x4, σ)
      else
        (raR σ 4 x0 x5).bind fun v20 =>
        (chk σ 1 v20).bind fun a21 =>
        (Do_textOf σ a21 x1).bind fun v22 =>
        (ldR σ 8 3 v22).bind fun v23 =>
        (lp (fun q => Se_termsOf_l78 q.2.2 x0 x1 x2 x3 q.1 x5 v23 q.2.1) (x4, (0 : Int32), σ)).bind fun z32 =>
        some (z32.1, z32.2)) fun q18 =>
    some (Sum.inl (q18.1, (x5 + (1 : Int32)), q18.2))
noncomputable def Se_termsOf (σ : Mem) (x0 : Option Nat) (x1 : Int32) : Option ((Option Nat) × Mem) :=
  (lp (fun q => Se_termsOf_l4 σ x0 x1 q.1 q.2) ((0 : Int32), (0 : Int32))).bind fun z13 =>
  (nwA σ 1 z13).bind fun m14 =>
  (lp (fun q => Se_termsOf_l48 q.2.2 x0 x1 z13 (some (gN σ)) q.1 q.2.1) ((0 : Int32), (0 : Int32), m14)).bind fun z34 =>
  some ((some (gN σ)), z34)
set_option maxRecDepth 100000 in
set_option maxHeartbeats 4000000 in
theorem x_Se_termsOf_l4 {Γ : W0} {σ0 : Mem} {r : RT} {σ : Mem} {x0 : Option Nat} {x1 : Int32} {t : Int32} (hk0 : ∀ z : Int32, z = t → V Γ MD_Se_termsOf σ0 r σ 38 [(0, va_rf x0), (1, .int x1), (2, .int z)] []) : ∀ q : Int32 × Int32, lp (fun q => Se_termsOf_l4 σ x0 x1 q.1 q.2) q = some t → V Γ MD_Se_termsOf σ0 r σ 4 [(0, va_rf x0), (1, .int x1), (2, .int q.1), (3, .int q.2)] [] := by
  refine lp_ind (fun (q : Int32 × Int32) => V Γ MD_Se_termsOf σ0 r σ 4 [(0, va_rf x0), (1, .int x1), (2, .int q.1), (3, .int q.2)] []) (fun q x hf ih ho => ?_)
  obtain ⟨x2, x3⟩ := q
  show V Γ MD_Se_termsOf σ0 r σ 4 [(0, va_rf x0), (1, .int x1), (2, .int x2), (3, .int x3)] []
  replace hf : Se_termsOf_l4 σ x0 x1 x2 x3 = some x := hf
  unfold Se_termsOf_l4 at hf
  refine r_iload_n 3 dX6_termsOf_4 rfl rfl ?_
  refine r_aload_n 0 dX6_termsOf_5 rfl rfl ?_
  refine r_alen hf dX6_termsOf_6 (by decide) (fun v1 ev1 hf => ?_)
  refine r_icmp_ge 38 hf dX6_termsOf_7 (by decide) (fun c2 hf => ?_) (fun c2 hf => ?_)
  · refine r_sub (L' := [(0, _), (1, _), (2, _)]) [0, 1, 2] rfl ?_
    exact hk0 _ (ho _ (Option.some.inj hf).symm)
  · refine r_aload_n 0 dX6_termsOf_10 rfl rfl ?_
    refine r_iload_n 3 dX6_termsOf_11 rfl rfl ?_
    refine r_raR hf dX6_termsOf_12 (by decide) (by decide) (fun v3 ev3 hf => ?_)
    refine r_bd (fun (q4 : Int32) => V Γ MD_Se_termsOf σ0 r σ 32 [(0, va_rf x0), (1, .int x1), (2, .int q4), (3, .int x3)] []) hf (fun q4 hf => ?_) (fun yq4 hf kq4 => ?_)
    · refine r_iinc (1 : Int32) (L' := [(3, _), (0, _), (1, _), (2, _)]) 3 dX6_termsOf_32 rfl (by decide) (show 3 < 8 by decide) rfl ?_
      refine r_goto 4 dX6_termsOf_35 (by decide) ?_
      refine r_sub (L' := [(0, _), (1, _), (2, _), (3, _)]) [1, 2, 3, 0] rfl ?_
      exact ih _ (Option.some.inj hf).symm
    · refine r_ifnull 32 hf dX6_termsOf_13 (by decide) (fun c5 hf => ?_) (fun c5 hf => ?_)
      · refine r_sub (L' := [(0, _), (1, _), (2, _), (3, _)]) [0, 1, 2, 3] rfl ?_
        cases (Option.some.inj hf)
        exact kq4
      · refine r_iload_n 2 dX6_termsOf_16 rfl rfl ?_
        refine r_aload_n 0 dX6_termsOf_17 rfl rfl ?_
        refine r_iload_n 3 dX6_termsOf_18 rfl rfl ?_
        refine r_raR hf dX6_termsOf_19 (by decide) (by decide) (fun v6 ev6 hf => ?_)
        refine r_iload_n 1 dX6_termsOf_20 rfl rfl ?_
        refine r_chk hf (fun a7 xa7 ta7 hf => ?_)
        refine bnd hf (fun v8 ev8 hf => ?_)
        refine r_callVr (ci := 1) xa7 dX6_termsOf_21 cs_RX6_46 ww_587 ww_588 (by decide) ta7 (by decide) rfl (rest := [_]) rfl (Or.inl (Nat.le_of_ble_eq_true rfl)) (t_Do_textOf ev8) ?_
        refine r_ldR hf dX6_termsOf_24 fl_RX6_50 rfl (fun v9 ev9 hf => ?_)
        refine r_chk hf (fun a10 xa10 ta10 hf => ?_)
        refine bnd hf (fun v11 ev11 hf => ?_)
        refine r_callVr (ci := 10) xa10 dX6_termsOf_27 cs_RX6_55 ww_591 ww_592 (by decide) ta10 (by decide) rfl (rest := [_]) rfl (Or.inl (Nat.le_of_ble_eq_true rfl)) (t_Vo_size ev11) ?_
        refine r_iadd dX6_termsOf_30 ?_
        refine r_istore_n (L' := [(2, _), (0, _), (1, _), (3, _)]) dX6_termsOf_31 rfl (show 2 < 8 by decide) rfl ?_
        refine r_sub (L' := [(0, _), (1, _), (2, _), (3, _)]) [1, 2, 0, 3] rfl ?_
        cases (Option.some.inj hf)
        exact kq4
set_option maxRecDepth 100000 in
set_option maxHeartbeats 4000000 in
theorem x_Se_termsOf_l78 {Γ : W0} {σ0 : Mem} {r : RT} {x0 : Option Nat} {x1 : Int32} {x2 : Int32} {x3 : Option Nat} {x5 : Int32} {x6 : Option Nat} {t : Int32 × Mem} (hk0 : ∀ z : Int32 × Mem, z = t → V Γ MD_Se_termsOf σ0 r z.2 114 [(0, va_rf x0), (1, .int x1), (2, .int x2), (3, va_rf x3), (4, .int z.1), (5, .int x5)] []) : ∀ q : Int32 × Int32 × Mem, lp (fun q => Se_termsOf_l78 q.2.2 x0 x1 x2 x3 q.1 x5 x6 q.2.1) q = some t → V Γ MD_Se_termsOf σ0 r q.2.2 78 [(0, va_rf x0), (1, .int x1), (2, .int x2), (3, va_rf x3), (4, .int q.1), (5, .int x5), (6, va_rf x6), (7, .int q.2.1)] [] := by
  refine lp_ind (fun (q : Int32 × Int32 × Mem) => V Γ MD_Se_termsOf σ0 r q.2.2 78 [(0, va_rf x0), (1, .int x1), (2, .int x2), (3, va_rf x3), (4, .int q.1), (5, .int x5), (6, va_rf x6), (7, .int q.2.1)] []) (fun q x hf ih ho => ?_)
  obtain ⟨x4, x7, σ⟩ := q
  show V Γ MD_Se_termsOf σ0 r σ 78 [(0, va_rf x0), (1, .int x1), (2, .int x2), (3, va_rf x3), (4, .int x4), (5, .int x5), (6, va_rf x6), (7, .int x7)] []
  replace hf : Se_termsOf_l78 σ x0 x1 x2 x3 x4 x5 x6 x7 = some x := hf
  unfold Se_termsOf_l78 at hf
  refine r_iload 7 dX6_termsOf_78 rfl ?_
  refine r_aload 6 dX6_termsOf_80 rfl ?_
  refine r_chk hf (fun a24 xa24 ta24 hf => ?_)
  refine bnd hf (fun v25 ev25 hf => ?_)
  refine r_callVr (ci := 10) xa24 dX6_termsOf_82 cs_RX6_55 ww_591 ww_592 (by decide) ta24 (by decide) rfl (rest := [_]) rfl (Or.inl (Nat.le_of_ble_eq_true rfl)) (t_Vo_size ev25) ?_
  refine r_icmp_ge 114 hf dX6_termsOf_85 (by decide) (fun c26 hf => ?_) (fun c26 hf => ?_)
  · refine r_sub (L' := [(0, _), (1, _), (2, _), (3, _), (4, _), (5, _)]) [0, 1, 2, 3, 4, 5] rfl ?_
    exact hk0 _ (ho _ (Option.some.inj hf).symm)
  · refine r_iload 4 dX6_termsOf_88 rfl ?_
    refine r_iload_n 2 dX6_termsOf_90 rfl rfl ?_
    refine r_icmp_ge 114 hf dX6_termsOf_91 (by decide) (fun c27 hf => ?_) (fun c27 hf => ?_)
    · refine r_sub (L' := [(0, _), (1, _), (2, _), (3, _), (4, _), (5, _)]) [0, 1, 2, 3, 4, 5] rfl ?_
      exact hk0 _ (ho _ (Option.some.inj hf).symm)
    · refine r_aload_n 3 dX6_termsOf_94 rfl rfl ?_
      refine r_iload 4 dX6_termsOf_95 rfl ?_
      refine r_aload 6 dX6_termsOf_97 rfl ?_
      refine r_iload 7 dX6_termsOf_99 rfl ?_
      refine r_chk hf (fun a28 xa28 ta28 hf => ?_)
      refine bnd hf (fun v29 ev29 hf => ?_)
      refine r_callVr (ci := 10) xa28 dX6_termsOf_101 cs_RX6_59 ww_595 ww_596 (by decide) ta28 (by decide) rfl (rest := [_, _]) rfl (Or.inl (Nat.le_of_ble_eq_true rfl)) (t_Vo_termAt ev29) ?_
      refine r_waL hf dX6_termsOf_104 (fun m30 em30 hf => ?_)
      refine r_iinc (1 : Int32) (L' := [(4, .int (x4 + (1 : Int32))), (0, va_rf x0), (1, .int x1), (2, .int x2), (3, va_rf x3), (5, .int x5), (6, va_rf x6), (7, .int x7)]) 4 dX6_termsOf_105 rfl (by decide) (show 4 < 8 by decide) (by simp [List.filter, cat_rf, cat_i, cat_l]) ?_
      refine r_iinc (1 : Int32) (L' := [(7, .int (x7 + (1 : Int32))), (4, .int (x4 + (1 : Int32))), (0, va_rf x0), (1, .int x1), (2, .int x2), (3, va_rf x3), (5, .int x5), (6, va_rf x6)]) 7 dX6_termsOf_108 rfl (by decide) (show 7 < 8 by decide) (by simp [List.filter, cat_rf, cat_i, cat_l]) ?_
      refine r_goto 78 dX6_termsOf_111 (by decide) ?_
      refine r_sub (L' := [(0, _), (1, _), (2, _), (3, _), (4, _), (5, _), (6, _), (7, _)]) [2, 3, 4, 5, 1, 6, 7, 0] rfl ?_
      exact ih _ (Option.some.inj hf).symm
set_option maxRecDepth 100000 in
set_option maxHeartbeats 4000000 in
theorem x_Se_termsOf_l48 {Γ : W0} {σ0 : Mem} {r : RT} {x0 : Option Nat} {x1 : Int32} {x2 : Int32} {x3 : Option Nat} {t : Mem} (hk0 : ∀ z : Mem, z = t → V Γ MD_Se_termsOf σ0 r z 120 [(3, va_rf x3)] []) : ∀ q : Int32 × Int32 × Mem, lp (fun q => Se_termsOf_l48 q.2.2 x0 x1 x2 x3 q.1 q.2.1) q = some t → V Γ MD_Se_termsOf σ0 r q.2.2 48 [(0, va_rf x0), (1, .int x1), (2, .int x2), (3, va_rf x3), (4, .int q.1), (5, .int q.2.1)] [] := by
  refine lp_ind (fun (q : Int32 × Int32 × Mem) => V Γ MD_Se_termsOf σ0 r q.2.2 48 [(0, va_rf x0), (1, .int x1), (2, .int x2), (3, va_rf x3), (4, .int q.1), (5, .int q.2.1)] []) (fun q x hf ih ho => ?_)
  obtain ⟨x4, x5, σ⟩ := q
  show V Γ MD_Se_termsOf σ0 r σ 48 [(0, va_rf x0), (1, .int x1), (2, .int x2), (3, va_rf x3), (4, .int x4), (5, .int x5)] []
  replace hf : Se_termsOf_l48 σ x0 x1 x2 x3 x4 x5 = some x := hf
  unfold Se_termsOf_l48 at hf
  refine r_iload 5 dX6_termsOf_48 rfl ?_
  refine r_aload_n 0 dX6_termsOf_50 rfl rfl ?_
  refine r_alen hf dX6_termsOf_51 (by decide) (fun v15 ev15 hf => ?_)
  refine r_icmp_ge 120 hf dX6_termsOf_52 (by decide) (fun c16 hf => ?_) (fun c16 hf => ?_)
  · refine r_sub (L' := [(3, _)]) [3] rfl ?_
    exact hk0 _ (ho _ (Option.some.inj hf).symm)
  · refine r_aload_n 0 dX6_termsOf_55 rfl rfl ?_
    refine r_iload 5 dX6_termsOf_56 rfl ?_
    refine r_raR hf dX6_termsOf_58 (by decide) (by decide) (fun v17 ev17 hf => ?_)
    refine r_bd (fun (q18 : Int32 × Mem) => V Γ MD_Se_termsOf σ0 r q18.2 114 [(0, va_rf x0), (1, .int x1), (2, .int x2), (3, va_rf x3), (4, .int q18.1), (5, .int x5)] []) hf (fun q18 hf => ?_) (fun yq18 hf kq18 => ?_)
    · refine r_iinc (1 : Int32) (L' := [(5, _), (0, _), (1, _), (2, _), (3, _), (4, _)]) 5 dX6_termsOf_114 rfl (by decide) (show 5 < 8 by decide) rfl ?_
      refine r_goto 48 dX6_termsOf_117 (by decide) ?_
      refine r_sub (L' := [(0, _), (1, _), (2, _), (3, _), (4, _), (5, _)]) [1, 2, 3, 4, 5, 0] rfl ?_
      exact ih _ (Option.some.inj hf).symm
    · refine r_ifnull 114 hf dX6_termsOf_59 (by decide) (fun c19 hf => ?_) (fun c19 hf => ?_)
      · refine r_sub (L' := [(0, _), (1, _), (2, _), (3, _), (4, _), (5, _)]) [0, 1, 2, 3, 4, 5] rfl ?_
        cases (Option.some.inj hf)
        exact kq18
      · refine r_aload_n 0 dX6_termsOf_62 rfl rfl ?_
        refine r_iload 5 dX6_termsOf_63 rfl ?_
        refine r_raR hf dX6_termsOf_65 (by decide) (by decide) (fun v20 ev20 hf => ?_)
        refine r_iload_n 1 dX6_termsOf_66 rfl rfl ?_
        refine r_chk hf (fun a21 xa21 ta21 hf => ?_)
        refine bnd hf (fun v22 ev22 hf => ?_)
        refine r_callVr (ci := 1) xa21 dX6_termsOf_67 cs_RX6_46 ww_587 ww_588 (by decide) ta21 (by decide) rfl (rest := []) rfl (Or.inl (Nat.le_of_ble_eq_true rfl)) (t_Do_textOf ev22) ?_
        refine r_ldR hf dX6_termsOf_70 fl_RX6_50 rfl (fun v23 ev23 hf => ?_)
        refine r_astore (L' := [(6, _), (0, _), (1, _), (2, _), (3, _), (4, _), (5, _)]) dX6_termsOf_73 (show 6 < 8 by decide) rfl ?_
        refine r_iconst (0 : Int32) dX6_termsOf_75 (by decide) ?_
        refine r_istore (i := 7) (L' := [(7, .int (0 : Int32)), (6, va_rf v23), (0, va_rf x0), (1, .int x1), (2, .int x2), (3, va_rf x3), (4, .int x4), (5, .int x5)]) dX6_termsOf_76 (show 7 < 8 by decide) (by simp [List.filter, cat_rf, cat_i, cat_l]) ?_
        refine bnd hf (fun t31 et31 hf => ?_)
        refine r_sub (L' := [(0, _), (1, _), (2, _), (3, _), (4, _), (5, _), (6, _), (7, _)]) [2, 3, 4, 5, 6, 7, 1, 0] rfl ?_
        refine x_Se_termsOf_l78 ?_ _ et31
        · intro z32 hz32
          subst hz32
          refine r_sub (L' := [(0, _), (1, _), (2, _), (3, _), (4, _), (5, _)]) [0, 1, 2, 3, 4, 5] rfl ?_
          cases (Option.some.inj hf)
          exact kq18
set_option maxRecDepth 100000 in
set_option maxHeartbeats 4000000 in
theorem t_Se_termsOf {Γ : W0} {σ : Mem} {x0 : Option Nat} {x1 : Int32} {v : Option Nat} {σ' : Mem} (hf : Se_termsOf σ x0 x1 = some (v, σ')) : CT Γ MD_Se_termsOf yX6_termsOf [va_rf x0, .int x1] σ (some (va_rf v), σ') := by
  refine CT.of (L := [(0, va_rf x0), (1, .int x1)]) rfl (by decide) (fun h => Bool.noConfusion (show false = true from h)) (by cases x0 <;> exact Nat.le_of_ble_eq_true rfl) (by cases x0 <;> rfl) ?_
  unfold Se_termsOf at hf
  generalize hr : mkR Γ σ (some (va_rf v)) σ' = r
  refine r_iconst (0 : Int32) dX6_termsOf_0 (by decide) ?_
  refine r_istore_n (L' := [(2, _), (0, _), (1, _)]) dX6_termsOf_1 rfl (show 2 < 8 by decide) rfl ?_
  refine r_iconst (0 : Int32) dX6_termsOf_2 (by decide) ?_
  refine r_istore_n (L' := [(3, _), (2, _), (0, _), (1, _)]) dX6_termsOf_3 rfl (show 3 < 8 by decide) rfl ?_
  refine bnd hf (fun t12 et12 hf => ?_)
  refine r_sub (L' := [(0, _), (1, _), (2, _), (3, _)]) [2, 3, 1, 0] rfl ?_
  refine x_Se_termsOf_l4 ?_ _ et12
  · intro z13 hz13
    subst hz13
    refine r_iload_n 2 dX6_termsOf_38 rfl rfl ?_
    refine r_newL hf dX6_termsOf_39 ww_189 (fun m14 em14 hf => ?_)
    refine r_astore_n (L' := [(3, _), (0, _), (1, _), (2, _)]) dX6_termsOf_41 rfl (show 3 < 8 by decide) rfl ?_
    refine r_iconst (0 : Int32) dX6_termsOf_42 (by decide) ?_
    refine r_istore (L' := [(4, _), (3, _), (0, _), (1, _), (2, _)]) dX6_termsOf_43 (show 4 < 8 by decide) rfl ?_
    refine r_iconst (0 : Int32) dX6_termsOf_45 (by decide) ?_
    refine r_istore (L' := [(5, _), (4, _), (3, _), (0, _), (1, _), (2, _)]) dX6_termsOf_46 (show 5 < 8 by decide) rfl ?_
    refine bnd hf (fun t33 et33 hf => ?_)
    refine r_sub (L' := [(0, _), (1, _), (2, _), (3, _), (4, _), (5, _)]) [3, 4, 5, 2, 1, 0] rfl ?_
    refine x_Se_termsOf_l48 ?_ _ et33
    · intro z34 hz34
      subst hz34
      refine r_aload_n 0 dX6_termsOf_120 rfl rfl ?_
      exact r_aret rfl (Or.inr ⟨_, rfl⟩) dX6_termsOf_121 (by obtain ⟨h1, h2⟩ := Prod.mk.inj (Option.some.inj hf); subst h1; subst h2; exact hr.symm)
/-! SearchEngine$Vocabulary.sort -/
noncomputable def Vo_sort_l24 (σ : Mem) (x0 : Option Nat) (x1 : Int32) (x2 : Int32) (x3 : Int64) (x5 : Int32) : Option ((Int32 × Mem) ⊕ (Int32 × Mem)) :=
  if x5 < x1 then
    some (Sum.inr (x5, σ))
  else
    (raL σ 1 x0 (x5 - x1)).bind fun v7 =>
    if v7 ≤ x3 then
      some (Sum.inr (x5, σ))
    else
      (raL σ 1 x0 (x5 - x1)).bind fun v9 =>
      (waL σ 1 x0 x5 v9).bind fun m10 =>
      some (Sum.inl ((x5 - x1), m10))
noncomputable def Vo_sort_l11 (σ : Mem) (x0 : Option Nat) (x1 : Int32) (x2 : Int32) : Option ((Int32 × Mem) ⊕ Mem) :=
  (alen σ 1 x0).bind fun v3 =>
  if v3 ≤ x2 then
    some (Sum.inr σ)
  else
    (raL σ 1 x0 x2).bind fun v5 =>
    (lp (fun q => Vo_sort_l24 q.2 x0 x1 x2 v5 q.1) (x2, σ)).bind fun z12 =>
    (waL z12.2 1 x0 z12.1 v5).bind fun m13 =>
    some (Sum.inl ((x2 + (1 : Int32)), m13))
noncomputable def Vo_sort_l5 (σ : Mem) (x0 : Option Nat) (x1 : Int32) : Option ((Int32 × Mem) ⊕ Mem) :=
  if x1 ≤ 0 then
    some (Sum.inr σ)
  else
    (lp (fun q => Vo_sort_l11 q.2 x0 x1 q.1) (x1, σ)).bind fun z15 =>
    some (Sum.inl ((x1 / (2 : Int32)), z15))
noncomputable def Vo_sort (σ : Mem) (x0 : Option Nat) : Option Mem :=
  (alen σ 1 x0).bind fun v1 =>
  (lp (fun q => Vo_sort_l5 q.2 x0 q.1) ((v1 / (2 : Int32)), σ)).bind fun z17 =>
  some z17
set_option maxRecDepth 100000 in
set_option maxHeartbeats 4000000 in
theorem x_Vo_sort_l24 {Γ : W0} {σ0 : Mem} {r : RT} {x0 : Option Nat} {x1 : Int32} {x2 : Int32} {x3 : Int64} {t : Int32 × Mem} (hk0 : ∀ z : Int32 × Mem, z = t → V Γ MD_Vo_sort σ0 r z.2 60 [(0, va_rf x0), (1, .int x1), (2, .int x2), (3, .long x3), (5, .int z.1)] []) : ∀ q : Int32 × Mem, lp (fun q => Vo_sort_l24 q.2 x0 x1 x2 x3 q.1) q = some t → V Γ MD_Vo_sort σ0 r q.2 24 [(0, va_rf x0), (1, .int x1), (2, .int x2), (3, .long x3), (5, .int q.1)] [] := by
  refine lp_ind (fun (q : Int32 × Mem) => V Γ MD_Vo_sort σ0 r q.2 24 [(0, va_rf x0), (1, .int x1), (2, .int x2), (3, .long x3), (5, .int q.1)] []) (fun q x hf ih ho => ?_)
  obtain ⟨x5, σ⟩ := q
  show V Γ MD_Vo_sort σ0 r σ 24 [(0, va_rf x0), (1, .int x1), (2, .int x2), (3, .long x3), (5, .int x5)] []
  replace hf : Vo_sort_l24 σ x0 x1 x2 x3 x5 = some x := hf
  unfold Vo_sort_l24 at hf
  refine r_iload 4 dX10_sort_24 rfl ?_
  refine r_iload_n 1 dX10_sort_26 rfl rfl ?_
  refine r_icmp_lt 60 hf dX10_sort_27 (by decide) (fun c6 hf => ?_) (fun c6 hf => ?_)
  · refine r_sub (L' := [(0, _), (1, _), (2, _), (3, _), (5, _)]) [0, 1, 2, 3, 4] rfl ?_
    exact hk0 _ (ho _ (Option.some.inj hf).symm)
  · refine r_aload_n 0 dX10_sort_30 rfl rfl ?_
    refine r_iload 4 dX10_sort_31 rfl ?_
    refine r_iload_n 1 dX10_sort_33 rfl rfl ?_
    refine r_isub dX10_sort_34 ?_
    refine r_raL hf dX10_sort_35 (fun v7 ev7 hf => ?_)
    refine r_lload_n 3 dX10_sort_36 rfl rfl ?_
    refine r_lcmp_le 60 hf dX10_sort_37 dX10_sort_38 (by decide) (fun c8 hf => ?_) (fun c8 hf => ?_)
    · refine r_sub (L' := [(0, _), (1, _), (2, _), (3, _), (5, _)]) [0, 1, 2, 3, 4] rfl ?_
      exact hk0 _ (ho _ (Option.some.inj hf).symm)
    · refine r_aload_n 0 dX10_sort_41 rfl rfl ?_
      refine r_iload 4 dX10_sort_42 rfl ?_
      refine r_aload_n 0 dX10_sort_44 rfl rfl ?_
      refine r_iload 4 dX10_sort_45 rfl ?_
      refine r_iload_n 1 dX10_sort_47 rfl rfl ?_
      refine r_isub dX10_sort_48 ?_
      refine r_raL hf dX10_sort_49 (fun v9 ev9 hf => ?_)
      refine r_waL hf dX10_sort_50 (fun m10 em10 hf => ?_)
      refine r_iload 4 dX10_sort_51 rfl ?_
      refine r_iload_n 1 dX10_sort_53 rfl rfl ?_
      refine r_isub dX10_sort_54 ?_
      refine r_istore (L' := [(5, _), (0, _), (1, _), (2, _), (3, _)]) dX10_sort_55 (show 5 < 6 by decide) rfl ?_
      refine r_goto 24 dX10_sort_57 (by decide) ?_
      refine r_sub (L' := [(0, _), (1, _), (2, _), (3, _), (5, _)]) [1, 2, 3, 4, 0] rfl ?_
      exact ih _ (Option.some.inj hf).symm
set_option maxRecDepth 100000 in
set_option maxHeartbeats 4000000 in
theorem x_Vo_sort_l11 {Γ : W0} {σ0 : Mem} {r : RT} {x0 : Option Nat} {x1 : Int32} {t : Mem} (hk0 : ∀ z : Mem, z = t → V Γ MD_Vo_sort σ0 r z 71 [(0, va_rf x0), (1, .int x1)] []) : ∀ q : Int32 × Mem, lp (fun q => Vo_sort_l11 q.2 x0 x1 q.1) q = some t → V Γ MD_Vo_sort σ0 r q.2 11 [(0, va_rf x0), (1, .int x1), (2, .int q.1)] [] := by
  refine lp_ind (fun (q : Int32 × Mem) => V Γ MD_Vo_sort σ0 r q.2 11 [(0, va_rf x0), (1, .int x1), (2, .int q.1)] []) (fun q x hf ih ho => ?_)
  obtain ⟨x2, σ⟩ := q
  show V Γ MD_Vo_sort σ0 r σ 11 [(0, va_rf x0), (1, .int x1), (2, .int x2)] []
  replace hf : Vo_sort_l11 σ x0 x1 x2 = some x := hf
  unfold Vo_sort_l11 at hf
  refine r_iload_n 2 dX10_sort_11 rfl rfl ?_
  refine r_aload_n 0 dX10_sort_12 rfl rfl ?_
  refine r_alen hf dX10_sort_13 (by decide) (fun v3 ev3 hf => ?_)
  refine r_icmp_ge 71 hf dX10_sort_14 (by decide) (fun c4 hf => ?_) (fun c4 hf => ?_)
  · refine r_sub (L' := [(0, _), (1, _)]) [0, 1] rfl ?_
    exact hk0 _ (ho _ (Option.some.inj hf).symm)
  · refine r_aload_n 0 dX10_sort_17 rfl rfl ?_
    refine r_iload_n 2 dX10_sort_18 rfl rfl ?_
    refine r_raL hf dX10_sort_19 (fun v5 ev5 hf => ?_)
    refine r_lstore_n (L' := [(3, _), (0, _), (1, _), (2, _)]) dX10_sort_20 rfl (show 4 < 6 by decide) rfl ?_
    refine r_iload_n 3 dX10_sort_21 rfl rfl ?_
    refine r_istore (L' := [(5, _), (3, _), (0, _), (1, _), (2, _)]) dX10_sort_22 (show 5 < 6 by decide) rfl ?_
    refine bnd hf (fun t11 et11 hf => ?_)
    refine r_sub (L' := [(0, _), (1, _), (2, _), (3, _), (5, _)]) [2, 3, 4, 1, 0] rfl ?_
    refine x_Vo_sort_l24 ?_ _ et11
    · intro z12 hz12
      subst hz12
      refine r_aload_n 0 dX10_sort_60 rfl rfl ?_
      refine r_iload 4 dX10_sort_61 rfl ?_
      refine r_lload_n 3 dX10_sort_63 rfl rfl ?_
      refine r_waL hf dX10_sort_64 (fun m13 em13 hf => ?_)
      refine r_iinc (1 : Int32) (L' := [(2, _), (0, _), (1, _), (3, _), (5, _)]) 2 dX10_sort_65 rfl (by decide) (show 2 < 6 by decide) rfl ?_
      refine r_goto 11 dX10_sort_68 (by decide) ?_
      refine r_sub (L' := [(0, _), (1, _), (2, _)]) [1, 2, 0] rfl ?_
      exact ih _ (Option.some.inj hf).symm
set_option maxRecDepth 100000 in
set_option maxHeartbeats 4000000 in
theorem x_Vo_sort_l5 {Γ : W0} {σ0 : Mem} {r : RT} {x0 : Option Nat} {t : Mem} (hk0 : ∀ z : Mem, z = t → V Γ MD_Vo_sort σ0 r z 78 [] []) : ∀ q : Int32 × Mem, lp (fun q => Vo_sort_l5 q.2 x0 q.1) q = some t → V Γ MD_Vo_sort σ0 r q.2 5 [(0, va_rf x0), (1, .int q.1)] [] := by
  refine lp_ind (fun (q : Int32 × Mem) => V Γ MD_Vo_sort σ0 r q.2 5 [(0, va_rf x0), (1, .int q.1)] []) (fun q x hf ih ho => ?_)
  obtain ⟨x1, σ⟩ := q
  show V Γ MD_Vo_sort σ0 r σ 5 [(0, va_rf x0), (1, .int x1)] []
  replace hf : Vo_sort_l5 σ x0 x1 = some x := hf
  unfold Vo_sort_l5 at hf
  refine r_iload_n 1 dX10_sort_5 rfl rfl ?_
  refine r_if_le 78 hf dX10_sort_6 (by decide) (fun c2 hf => ?_) (fun c2 hf => ?_)
  · refine r_sub (L' := []) [] rfl ?_
    exact hk0 _ (ho _ (Option.some.inj hf).symm)
  · refine r_iload_n 1 dX10_sort_9 rfl rfl ?_
    refine r_istore_n (L' := [(2, _), (0, _), (1, _)]) dX10_sort_10 rfl (show 2 < 6 by decide) rfl ?_
    refine bnd hf (fun t14 et14 hf => ?_)
    refine r_sub (L' := [(0, _), (1, _), (2, _)]) [1, 2, 0] rfl ?_
    refine x_Vo_sort_l11 ?_ _ et14
    · intro z15 hz15
      subst hz15
      refine r_iload_n 1 dX10_sort_71 rfl rfl ?_
      refine r_iconst (2 : Int32) dX10_sort_72 (by decide) ?_
      refine r_idiv dX10_sort_73 (by decide) ?_
      refine r_istore_n (i := 1) (L' := [(1, .int (x1 / (2 : Int32))), (0, va_rf x0)]) dX10_sort_74 rfl (show 1 < 6 by decide) (by simp [List.filter, cat_rf, cat_i, cat_l]) ?_
      refine r_goto 5 dX10_sort_75 (by decide) ?_
      refine r_sub (L' := [(0, _), (1, _)]) [1, 0] rfl ?_
      exact ih _ (Option.some.inj hf).symm
set_option maxRecDepth 100000 in
set_option maxHeartbeats 4000000 in
theorem t_Vo_sort {Γ : W0} {σ : Mem} {x0 : Option Nat} {σ' : Mem} (hf : Vo_sort σ x0 = some σ') : CT Γ MD_Vo_sort yX10_sort [va_rf x0] σ (none, σ') := by
  refine CT.of (L := [(0, va_rf x0)]) rfl (by decide) (fun h => Bool.noConfusion (show false = true from h)) (by cases x0 <;> exact Nat.le_of_ble_eq_true rfl) (by cases x0 <;> rfl) ?_
  unfold Vo_sort at hf
  generalize hr : mkR Γ σ (none) σ' = r
  refine r_aload_n 0 dX10_sort_0 rfl rfl ?_
  refine r_alen hf dX10_sort_1 (by decide) (fun v1 ev1 hf => ?_)
  refine r_iconst (2 : Int32) dX10_sort_2 (by decide) ?_
  refine r_idiv dX10_sort_3 (by decide) ?_
  refine r_istore_n (i := 1) (L' := [(1, .int (v1 / (2 : Int32))), (0, va_rf x0)]) dX10_sort_4 rfl (show 1 < 6 by decide) (by simp [List.filter, cat_rf, cat_i, cat_l]) ?_
  refine bnd hf (fun t16 et16 hf => ?_)
  refine r_sub (L' := [(0, _), (1, _)]) [1, 0] rfl ?_
  refine x_Vo_sort_l5 ?_ _ et16
  · intro z17 hz17
    subst hz17
    exact r_vret rfl dX10_sort_78 (by have h1 := (Option.some.inj hf); subst h1; exact hr.symm)
/-! SearchEngine$Vocabulary.isFirst -/
noncomputable def Vo_isFirst (σ : Mem) (x0 : Option Nat) (x1 : Int32) : Option Bool :=
  if x1 < 0 then
    some false
  else
    (alen σ 1 x0).bind fun v2 =>
    if v2 ≤ x1 then
      some false
    else
      (raL σ 1 x0 x1).bind fun v4 =>
      if v4 = (0 : Int64) then
        some false
      else
        if x1 = 0 then
          some true
        else
          (raL σ 1 x0 (x1 - (1 : Int32))).bind fun v7 =>
          (raL σ 1 x0 x1).bind fun v8 =>
          if v7 = v8 then
            some false
          else
            some true
set_option maxRecDepth 100000 in
set_option maxHeartbeats 4000000 in
theorem t_Vo_isFirst {Γ : W0} {σ : Mem} {x0 : Option Nat} {x1 : Int32} {v : Bool} (hf : Vo_isFirst σ x0 x1 = some v) : CT Γ MD_Vo_isFirst yX10_isFirst [va_rf x0, .int x1] σ (some (.int (b2i v)), σ) := by
  refine CT.of (L := [(0, va_rf x0), (1, .int x1)]) rfl (by decide) (fun h => Bool.noConfusion (show false = true from h)) (by cases x0 <;> exact Nat.le_of_ble_eq_true rfl) (by cases x0 <;> rfl) ?_
  unfold Vo_isFirst at hf
  generalize hr : mkR Γ σ (some (.int (b2i v))) σ = r
  refine r_iload_n 1 dX10_isFirst_0 rfl rfl ?_
  refine r_if_lt 38 hf dX10_isFirst_1 (by decide) (fun c1 hf => ?_) (fun c1 hf => ?_)
  · refine r_iconst (b2i false) dX10_isFirst_38 rfl ?_
    exact r_zret rfl dX10_isFirst_39 (by have h1 := (Option.some.inj hf); subst h1; exact hr.symm)
  · refine r_iload_n 1 dX10_isFirst_4 rfl rfl ?_
    refine r_aload_n 0 dX10_isFirst_5 rfl rfl ?_
    refine r_alen hf dX10_isFirst_6 (by decide) (fun v2 ev2 hf => ?_)
    refine r_icmp_ge 38 hf dX10_isFirst_7 (by decide) (fun c3 hf => ?_) (fun c3 hf => ?_)
    · refine r_iconst (b2i false) dX10_isFirst_38 rfl ?_
      exact r_zret rfl dX10_isFirst_39 (by have h1 := (Option.some.inj hf); subst h1; exact hr.symm)
    · refine r_aload_n 0 dX10_isFirst_10 rfl rfl ?_
      refine r_iload_n 1 dX10_isFirst_11 rfl rfl ?_
      refine r_raL hf dX10_isFirst_12 (fun v4 ev4 hf => ?_)
      refine r_lconst (0 : Int64) dX10_isFirst_13 (by decide) ?_
      refine r_lcmp_eq 38 hf dX10_isFirst_14 dX10_isFirst_15 (by decide) (fun c5 hf => ?_) (fun c5 hf => ?_)
      · refine r_iconst (b2i false) dX10_isFirst_38 rfl ?_
        exact r_zret rfl dX10_isFirst_39 (by have h1 := (Option.some.inj hf); subst h1; exact hr.symm)
      · refine r_iload_n 1 dX10_isFirst_18 rfl rfl ?_
        refine r_if_eq 34 hf dX10_isFirst_19 (by decide) (fun c6 hf => ?_) (fun c6 hf => ?_)
        · refine r_iconst (b2i true) dX10_isFirst_34 rfl ?_
          refine r_goto 39 dX10_isFirst_35 (by decide) ?_
          exact r_zret rfl dX10_isFirst_39 (by have h1 := (Option.some.inj hf); subst h1; exact hr.symm)
        · refine r_aload_n 0 dX10_isFirst_22 rfl rfl ?_
          refine r_iload_n 1 dX10_isFirst_23 rfl rfl ?_
          refine r_iconst (1 : Int32) dX10_isFirst_24 (by decide) ?_
          refine r_isub dX10_isFirst_25 ?_
          refine r_raL hf dX10_isFirst_26 (fun v7 ev7 hf => ?_)
          refine r_aload_n 0 dX10_isFirst_27 rfl rfl ?_
          refine r_iload_n 1 dX10_isFirst_28 rfl rfl ?_
          refine r_raL hf dX10_isFirst_29 (fun v8 ev8 hf => ?_)
          refine r_lcmp_eq 38 hf dX10_isFirst_30 dX10_isFirst_31 (by decide) (fun c9 hf => ?_) (fun c9 hf => ?_)
          · refine r_iconst (b2i false) dX10_isFirst_38 rfl ?_
            exact r_zret rfl dX10_isFirst_39 (by have h1 := (Option.some.inj hf); subst h1; exact hr.symm)
          · refine r_iconst (b2i true) dX10_isFirst_34 rfl ?_
            refine r_goto 39 dX10_isFirst_35 (by decide) ?_
            exact r_zret rfl dX10_isFirst_39 (by have h1 := (Option.some.inj hf); subst h1; exact hr.symm)
/-! SearchEngine$Vocabulary.<init> -/
noncomputable def Vo_init_l12 (σ : Mem) (th : Nat) (x1 : Option Nat) (x2 : Int32) (x3 : Int32) : Option ((Int32 × Int32) ⊕ Int32) :=
  (alen σ 1 x1).bind fun v2 =>
  if v2 ≤ x3 then
    some (Sum.inr x2)
  else
    (Vo_isFirst σ x1 x3).bind fun v4 =>
    Option.bind (
      if v4 = true then
        some (x2 + (1 : Int32))
      else
        some x2) fun q5 =>
    some (Sum.inl (q5, (x3 + (1 : Int32))))
noncomputable def Vo_init_l54 (σ : Mem) (th : Nat) (x1 : Option Nat) (x2 : Int32) (x3 : Int32) (x4 : Int32) : Option ((Int32 × Int32 × Mem) ⊕ Mem) :=
  (alen σ 1 x1).bind fun v13 =>
  if v13 ≤ x4 then
    some (Sum.inr σ)
  else
    (Vo_isFirst σ x1 x4).bind fun v15 =>
    Option.bind (
      if v15 = true then
        if x2 ≤ (x3 + (1 : Int32)) then
          some (x3, σ)
        else
          (ldR σ 10 0 (some th)).bind fun v19 =>
          (raL σ 1 x1 x4).bind fun v20 =>
          (waL σ 1 v19 (x3 + (1 : Int32)) v20).bind fun m21 =>
          some ((x3 + (1 : Int32)), m21)
      else
        some (x3, σ)) fun q16 =>
    Option.bind (
      if q16.1 < 0 then
        some q16.2
      else
        (ldR q16.2 10 1 (some th)).bind fun v24 =>
        (raI q16.2 0 v24 q16.1).bind fun v25 =>
        (waI q16.2 0 v24 q16.1 (v25 + (1 : Int32))).bind fun m26 =>
        some m26) fun q22 =>
    some (Sum.inl (q16.1, (x4 + (1 : Int32)), q22))
noncomputable def Vo_init (σ : Mem) (th : Nat) (x1 : Option Nat) : Option Mem :=
  (Vo_sort σ x1).bind fun v1 =>
  (lp (fun q => Vo_init_l12 v1 th x1 q.1 q.2) ((0 : Int32), (0 : Int32))).bind fun z8 =>
  (nwA v1 1 z8).bind fun m9 =>
  (stR m9 10 0 (some th) (some (gN v1))).bind fun m10 =>
  (nwA m10 0 z8).bind fun m11 =>
  (stR m11 10 1 (some th) (some (gN m10))).bind fun m12 =>
  (lp (fun q => Vo_init_l54 q.2.2 th x1 z8 q.1 q.2.1) ((-1 : Int32), (0 : Int32), m12)).bind fun z28 =>
  some z28
set_option maxRecDepth 100000 in
set_option maxHeartbeats 4000000 in
theorem x_Vo_init_l12 {Γ : W0} {σ0 : Mem} {r : RT} {σ : Mem} {th : Nat} {x1 : Option Nat} {t : Int32} (hk0 : ∀ z : Int32, z = t → V Γ MD_Vo_init σ0 r σ 35 [(0, va_rf (some th)), (1, va_rf x1), (2, .int z)] []) : ∀ q : Int32 × Int32, lp (fun q => Vo_init_l12 σ th x1 q.1 q.2) q = some t → V Γ MD_Vo_init σ0 r σ 12 [(0, va_rf (some th)), (1, va_rf x1), (2, .int q.1), (3, .int q.2)] [] := by
  refine lp_ind (fun (q : Int32 × Int32) => V Γ MD_Vo_init σ0 r σ 12 [(0, va_rf (some th)), (1, va_rf x1), (2, .int q.1), (3, .int q.2)] []) (fun q x hf ih ho => ?_)
  obtain ⟨x2, x3⟩ := q
  show V Γ MD_Vo_init σ0 r σ 12 [(0, va_rf (some th)), (1, va_rf x1), (2, .int x2), (3, .int x3)] []
  replace hf : Vo_init_l12 σ th x1 x2 x3 = some x := hf
  unfold Vo_init_l12 at hf
  refine r_iload_n 3 dX10_init_12 rfl rfl ?_
  refine r_aload_n 1 dX10_init_13 rfl rfl ?_
  refine r_alen hf dX10_init_14 (by decide) (fun v2 ev2 hf => ?_)
  refine r_icmp_ge 35 hf dX10_init_15 (by decide) (fun c3 hf => ?_) (fun c3 hf => ?_)
  · refine r_sub (L' := [(0, _), (1, _), (2, _)]) [0, 1, 2] rfl ?_
    exact hk0 _ (ho _ (Option.some.inj hf).symm)
  · refine r_aload_n 1 dX10_init_18 rfl rfl ?_
    refine r_iload_n 3 dX10_init_19 rfl rfl ?_
    refine bnd hf (fun v4 ev4 hf => ?_)
    refine r_callSr dX10_init_20 cs_RX10_13 ww_499 (by decide) rfl (rest := []) rfl (Or.inl (Nat.le_of_ble_eq_true rfl)) (t_Vo_isFirst ev4) ?_
    refine r_bd (fun (q5 : Int32) => V Γ MD_Vo_init σ0 r σ 29 [(0, va_rf (some th)), (1, va_rf x1), (2, .int q5), (3, .int x3)] []) hf (fun q5 hf => ?_) (fun yq5 hf kq5 => ?_)
    · refine r_iinc (1 : Int32) (L' := [(3, _), (0, _), (1, _), (2, _)]) 3 dX10_init_29 rfl (by decide) (show 3 < 5 by decide) rfl ?_
      refine r_goto 12 dX10_init_32 (by decide) ?_
      refine r_sub (L' := [(0, _), (1, _), (2, _), (3, _)]) [1, 2, 3, 0] rfl ?_
      exact ih _ (Option.some.inj hf).symm
    · refine r_ifeqZ 29 hf dX10_init_23 (by decide) (fun c6 hf => ?_) (fun c6 hf => ?_)
      · refine r_iinc (1 : Int32) (L' := [(2, .int (x2 + (1 : Int32))), (0, va_rf (some th)), (1, va_rf x1), (3, .int x3)]) 2 dX10_init_26 rfl (by decide) (show 2 < 5 by decide) (by simp [List.filter, cat_rf, cat_i, cat_l]) ?_
        refine r_sub (L' := [(0, _), (1, _), (2, _), (3, _)]) [1, 2, 0, 3] rfl ?_
        cases (Option.some.inj hf)
        exact kq5
      · refine r_sub (L' := [(0, _), (1, _), (2, _), (3, _)]) [0, 1, 2, 3] rfl ?_
        cases (Option.some.inj hf)
        exact kq5
set_option maxRecDepth 100000 in
set_option maxHeartbeats 4000000 in
theorem x_Vo_init_l54 {Γ : W0} {σ0 : Mem} {r : RT} {th : Nat} {x1 : Option Nat} {x2 : Int32} {t : Mem} (hk0 : ∀ z : Mem, z = t → V Γ MD_Vo_init σ0 r z 110 [] []) : ∀ q : Int32 × Int32 × Mem, lp (fun q => Vo_init_l54 q.2.2 th x1 x2 q.1 q.2.1) q = some t → V Γ MD_Vo_init σ0 r q.2.2 54 [(0, va_rf (some th)), (1, va_rf x1), (2, .int x2), (3, .int q.1), (4, .int q.2.1)] [] := by
  refine lp_ind (fun (q : Int32 × Int32 × Mem) => V Γ MD_Vo_init σ0 r q.2.2 54 [(0, va_rf (some th)), (1, va_rf x1), (2, .int x2), (3, .int q.1), (4, .int q.2.1)] []) (fun q x hf ih ho => ?_)
  obtain ⟨x3, x4, σ⟩ := q
  show V Γ MD_Vo_init σ0 r σ 54 [(0, va_rf (some th)), (1, va_rf x1), (2, .int x2), (3, .int x3), (4, .int x4)] []
  replace hf : Vo_init_l54 σ th x1 x2 x3 x4 = some x := hf
  unfold Vo_init_l54 at hf
  refine r_iload 4 dX10_init_54 rfl ?_
  refine r_aload_n 1 dX10_init_56 rfl rfl ?_
  refine r_alen hf dX10_init_57 (by decide) (fun v13 ev13 hf => ?_)
  refine r_icmp_ge 110 hf dX10_init_58 (by decide) (fun c14 hf => ?_) (fun c14 hf => ?_)
  · refine r_sub (L' := []) [] rfl ?_
    exact hk0 _ (ho _ (Option.some.inj hf).symm)
  · refine r_aload_n 1 dX10_init_61 rfl rfl ?_
    refine r_iload 4 dX10_init_62 rfl ?_
    refine bnd hf (fun v15 ev15 hf => ?_)
    refine r_callSr dX10_init_64 cs_RX10_13 ww_499 (by decide) rfl (rest := []) rfl (Or.inl (Nat.le_of_ble_eq_true rfl)) (t_Vo_isFirst ev15) ?_
    refine r_bd (fun (q16 : Int32 × Mem) => V Γ MD_Vo_init σ0 r q16.2 90 [(0, va_rf (some th)), (1, va_rf x1), (2, .int x2), (3, .int q16.1), (4, .int x4)] []) hf (fun q16 hf => ?_) (fun yq16 hf kq16 => ?_)
    · refine r_iload_n 3 dX10_init_90 rfl rfl ?_
      refine r_bd (fun (q22 : Mem) => V Γ MD_Vo_init σ0 r q22 104 [(0, va_rf (some th)), (1, va_rf x1), (2, .int x2), (3, .int q16.1), (4, .int x4)] []) hf (fun q22 hf => ?_) (fun yq22 hf kq22 => ?_)
      · refine r_iinc (1 : Int32) (L' := [(4, _), (0, _), (1, _), (2, _), (3, _)]) 4 dX10_init_104 rfl (by decide) (show 4 < 5 by decide) rfl ?_
        refine r_goto 54 dX10_init_107 (by decide) ?_
        refine r_sub (L' := [(0, _), (1, _), (2, _), (3, _), (4, _)]) [1, 2, 3, 4, 0] rfl ?_
        exact ih _ (Option.some.inj hf).symm
      · refine r_if_lt 104 hf dX10_init_91 (by decide) (fun c23 hf => ?_) (fun c23 hf => ?_)
        · refine r_sub (L' := [(0, _), (1, _), (2, _), (3, _), (4, _)]) [0, 1, 2, 3, 4] rfl ?_
          cases (Option.some.inj hf)
          exact kq22
        · refine r_aload_n 0 dX10_init_94 rfl rfl ?_
          refine r_ldR hf dX10_init_95 fl_RX10_21 rfl (fun v24 ev24 hf => ?_)
          refine r_iload_n 3 dX10_init_98 rfl rfl ?_
          refine r_dup2 dX10_init_99 rfl (cat_rf _) ?_
          refine r_raI hf dX10_init_100 (fun v25 ev25 hf => ?_)
          refine r_iconst (1 : Int32) dX10_init_101 (by decide) ?_
          refine r_iadd dX10_init_102 ?_
          refine r_waI hf dX10_init_103 (fun m26 em26 hf => ?_)
          refine r_sub (L' := [(0, _), (1, _), (2, _), (3, _), (4, _)]) [0, 1, 2, 3, 4] rfl ?_
          cases (Option.some.inj hf)
          exact kq22
    · refine r_ifeqZ 90 hf dX10_init_67 (by decide) (fun c17 hf => ?_) (fun c17 hf => ?_)
      · refine r_iload_n 3 dX10_init_70 rfl rfl ?_
        refine r_iconst (1 : Int32) dX10_init_71 (by decide) ?_
        refine r_iadd dX10_init_72 ?_
        refine r_iload_n 2 dX10_init_73 rfl rfl ?_
        refine r_icmp_ge 90 hf dX10_init_74 (by decide) (fun c18 hf => ?_) (fun c18 hf => ?_)
        · refine r_sub (L' := [(0, _), (1, _), (2, _), (3, _), (4, _)]) [0, 1, 2, 3, 4] rfl ?_
          cases (Option.some.inj hf)
          exact kq16
        · refine r_iinc (1 : Int32) (L' := [(3, _), (0, _), (1, _), (2, _), (4, _)]) 3 dX10_init_77 rfl (by decide) (show 3 < 5 by decide) rfl ?_
          refine r_aload_n 1 dX10_init_80 rfl rfl ?_
          refine r_ldR hf dX10_init_81 fl_RX10_17 rfl (fun v19 ev19 hf => ?_)
          refine r_iload_n 0 dX10_init_84 rfl rfl ?_
          refine r_aload_n 2 dX10_init_85 rfl rfl ?_
          refine r_iload 4 dX10_init_86 rfl ?_
          refine r_raL hf dX10_init_88 (fun v20 ev20 hf => ?_)
          refine r_waL hf dX10_init_89 (fun m21 em21 hf => ?_)
          refine r_sub (L' := [(0, _), (1, _), (2, _), (3, _), (4, _)]) [1, 2, 3, 0, 4] rfl ?_
          cases (Option.some.inj hf)
          exact kq16
      · refine r_sub (L' := [(0, _), (1, _), (2, _), (3, _), (4, _)]) [0, 1, 2, 3, 4] rfl ?_
        cases (Option.some.inj hf)
        exact kq16
set_option maxRecDepth 100000 in
set_option maxHeartbeats 4000000 in
theorem t_Vo_init {Γ : W0} {σ : Mem} {th : Nat} {x1 : Option Nat} {σ' : Mem} (hf : Vo_init σ th x1 = some σ') : CT Γ MD_Vo_init yX10_init [va_rf (some th), va_rf x1] σ (none, σ') := by
  refine CT.of (L := [(0, va_rf (some th)), (1, va_rf x1)]) rfl (by decide) (fun _ => rfl) (by cases x1 <;> exact Nat.le_of_ble_eq_true rfl) (by cases x1 <;> rfl) ?_
  unfold Vo_init at hf
  generalize hr : mkR Γ σ (none) σ' = r
  refine r_aload_n 0 dX10_init_0 rfl rfl ?_
  refine r_objInit dX10_init_1 ww_494 ww_115 ww_116 (by decide) (Nat.le_of_ble_eq_true rfl) ?_
  refine r_aload_n 1 dX10_init_4 rfl rfl ?_
  refine bnd hf (fun v1 ev1 hf => ?_)
  refine r_callSv dX10_init_5 cs_RX10_7 ww_496 (by decide) rfl (rest := []) rfl (Or.inl (Nat.le_of_ble_eq_true rfl)) (t_Vo_sort ev1) ?_
  refine r_iconst (0 : Int32) dX10_init_8 (by decide) ?_
  refine r_istore_n (i := 2) (L' := [(2, .int (0 : Int32)), (0, va_rf (some th)), (1, va_rf x1)]) dX10_init_9 rfl (show 2 < 5 by decide) (by simp [List.filter, cat_rf, cat_i, cat_l]) ?_
  refine r_iconst (0 : Int32) dX10_init_10 (by decide) ?_
  refine r_istore_n (L' := [(3, _), (2, _), (0, _), (1, _)]) dX10_init_11 rfl (show 3 < 5 by decide) rfl ?_
  refine bnd hf (fun t7 et7 hf => ?_)
  refine r_sub (L' := [(0, _), (1, _), (2, _), (3, _)]) [2, 3, 1, 0] rfl ?_
  refine x_Vo_init_l12 ?_ _ et7
  · intro z8 hz8
    subst hz8
    refine r_aload_n 0 dX10_init_35 rfl rfl ?_
    refine r_iload_n 2 dX10_init_36 rfl rfl ?_
    refine r_newL hf dX10_init_37 ww_189 (fun m9 em9 hf => ?_)
    refine r_stRF hf dX10_init_39 fl_RX10_17 rfl rfl rfl rfl (fun m10 em10 hf => ?_)
    refine r_aload_n 0 dX10_init_42 rfl rfl ?_
    refine r_iload_n 2 dX10_init_43 rfl rfl ?_
    refine r_newI hf dX10_init_44 ww_313 (fun m11 em11 hf => ?_)
    refine r_stRF hf dX10_init_46 fl_RX10_21 rfl rfl rfl rfl (fun m12 em12 hf => ?_)
    refine r_iconst (-1 : Int32) dX10_init_49 (by decide) ?_
    refine r_istore_n (L' := [(3, _), (0, _), (1, _), (2, _)]) dX10_init_50 rfl (show 3 < 5 by decide) rfl ?_
    refine r_iconst (0 : Int32) dX10_init_51 (by decide) ?_
    refine r_istore (L' := [(4, _), (3, _), (0, _), (1, _), (2, _)]) dX10_init_52 (show 4 < 5 by decide) rfl ?_
    refine bnd hf (fun t27 et27 hf => ?_)
    refine r_sub (L' := [(0, _), (1, _), (2, _), (3, _), (4, _)]) [2, 3, 4, 1, 0] rfl ?_
    refine x_Vo_init_l54 ?_ _ et27
    · intro z28 hz28
      subst hz28
      exact r_vret rfl dX10_init_110 (by have h1 := (Option.some.inj hf); subst h1; exact hr.symm)
/-! SearchEngine$Segment.<init> -/
noncomputable def Se_init_l29 (σ : Mem) (th : Nat) (x2 : Option Nat) (x4 : Int32) : Option ((Int32 × Mem) ⊕ Mem) :=
  (ldR σ 6 1 (some th)).bind fun v5 =>
  (alen σ 4 v5).bind fun v6 =>
  if v6 ≤ x4 then
    some (Sum.inr σ)
  else
    (ldR σ 6 1 (some th)).bind fun v8 =>
    (raR σ 4 x2 x4).bind fun v9 =>
    (waR σ 4 1 v8 x4 v9).bind fun m10 =>
    some (Sum.inl ((x4 + (1 : Int32)), m10))
noncomputable def Se_init (σ : Mem) (th : Nat) (x1 : Int32) (x2 : Option Nat) (x3 : Int32) : Option Mem :=
  (stI σ 6 0 (some th) x1).bind fun m1 =>
  (alen m1 4 x2).bind fun v2 =>
  (nwA m1 4 (maxI (0 : Int32) (minI x3 v2))).bind fun m3 =>
  (stR m3 6 1 (some th) (some (gN m1))).bind fun m4 =>
  (lp (fun q => Se_init_l29 q.2 th x2 q.1) ((0 : Int32), m4)).bind fun z12 =>
  (some (nwO z12 10)).bind fun m13 =>
  (ldR m13 6 1 (some th)).bind fun v14 =>
  (Se_termsOf m13 v14 (0 : Int32)).bind fun v15 =>
  (Vo_init v15.2 (gN z12) v15.1).bind fun v16 =>
  (stR v16 6 2 (some th) (some (gN z12))).bind fun m17 =>
  (some (nwO m17 10)).bind fun m18 =>
  (ldR m18 6 1 (some th)).bind fun v19 =>
  (Se_termsOf m18 v19 (1 : Int32)).bind fun v20 =>
  (Vo_init v20.2 (gN m17) v20.1).bind fun v21 =>
  (stR v21 6 3 (some th) (some (gN m17))).bind fun m22 =>
  some m22
set_option maxRecDepth 100000 in
set_option maxHeartbeats 4000000 in
theorem x_Se_init_l29 {Γ : W0} {σ0 : Mem} {r : RT} {th : Nat} {x2 : Option Nat} {t : Mem} (hk0 : ∀ z : Mem, z = t → V Γ MD_Se_init σ0 r z 56 [(0, va_rf (some th))] []) : ∀ q : Int32 × Mem, lp (fun q => Se_init_l29 q.2 th x2 q.1) q = some t → V Γ MD_Se_init σ0 r q.2 29 [(0, va_rf (some th)), (2, va_rf x2), (4, .int q.1)] [] := by
  refine lp_ind (fun (q : Int32 × Mem) => V Γ MD_Se_init σ0 r q.2 29 [(0, va_rf (some th)), (2, va_rf x2), (4, .int q.1)] []) (fun q x hf ih ho => ?_)
  obtain ⟨x4, σ⟩ := q
  show V Γ MD_Se_init σ0 r σ 29 [(0, va_rf (some th)), (2, va_rf x2), (4, .int x4)] []
  replace hf : Se_init_l29 σ th x2 x4 = some x := hf
  unfold Se_init_l29 at hf
  refine r_iload 2 dX6_init_29 rfl ?_
  refine r_aload_n 0 dX6_init_31 rfl rfl ?_
  refine r_ldR hf dX6_init_32 fl_RX6_26 rfl (fun v5 ev5 hf => ?_)
  refine r_alen hf dX6_init_35 (by decide) (fun v6 ev6 hf => ?_)
  refine r_icmp_ge 56 hf dX6_init_36 (by decide) (fun c7 hf => ?_) (fun c7 hf => ?_)
  · refine r_sub (L' := [(0, _)]) [0] rfl ?_
    exact hk0 _ (ho _ (Option.some.inj hf).symm)
  · refine r_aload_n 0 dX6_init_39 rfl rfl ?_
    refine r_ldR hf dX6_init_40 fl_RX6_26 rfl (fun v8 ev8 hf => ?_)
    refine r_iload 2 dX6_init_43 rfl ?_
    refine r_aload_n 1 dX6_init_45 rfl rfl ?_
    refine r_iload 2 dX6_init_46 rfl ?_
    refine r_raR hf dX6_init_48 (by decide) (by decide) (fun v9 ev9 hf => ?_)
    refine r_waR hf dX6_init_49 (by decide) (by decide) (by decide) rfl (fun m10 em10 hf => ?_)
    refine r_iinc (1 : Int32) (L' := [(4, _), (0, _), (2, _)]) 2 dX6_init_50 rfl (by decide) (show 4 < 5 by decide) rfl ?_
    refine r_goto 29 dX6_init_53 (by decide) ?_
    refine r_sub (L' := [(0, _), (2, _), (4, _)]) [1, 2, 0] rfl ?_
    exact ih _ (Option.some.inj hf).symm
set_option maxRecDepth 100000 in
set_option maxHeartbeats 4000000 in
theorem t_Se_init {Γ : W0} {σ : Mem} {th : Nat} {x1 : Int32} {x2 : Option Nat} {x3 : Int32} {σ' : Mem} (hf : Se_init σ th x1 x2 x3 = some σ') : CT Γ MD_Se_init yX6_init [va_rf (some th), .int x1, va_rf x2, .int x3] σ (none, σ') := by
  refine CT.of (L := [(0, va_rf (some th)), (1, .int x1), (2, va_rf x2), (3, .int x3)]) rfl (by decide) (fun _ => rfl) (by cases x2 <;> exact Nat.le_of_ble_eq_true rfl) (by cases x2 <;> rfl) ?_
  unfold Se_init at hf
  generalize hr : mkR Γ σ (none) σ' = r
  refine r_aload_n 0 dX6_init_0 rfl rfl ?_
  refine r_objInit dX6_init_1 ww_576 ww_115 ww_116 (by decide) (Nat.le_of_ble_eq_true rfl) ?_
  refine r_aload_n 0 dX6_init_4 rfl rfl ?_
  refine r_iload_n 1 dX6_init_5 rfl rfl ?_
  refine r_stIF hf dX6_init_6 fl_RX6_9 rfl rfl rfl rfl rfl (fun m1 em1 hf => ?_)
  refine r_aload_n 0 dX6_init_9 rfl rfl ?_
  refine r_iconst (0 : Int32) dX6_init_10 (by decide) ?_
  refine r_iload_n 3 dX6_init_11 rfl rfl ?_
  refine r_aload_n 2 dX6_init_12 rfl rfl ?_
  refine r_alen hf dX6_init_13 (by decide) (fun v2 ev2 hf => ?_)
  refine r_mmin dX6_init_14 ww_577 ww_439 ww_103 ww_440 (by decide) (Nat.le_of_ble_eq_true rfl) ?_
  refine r_mmax dX6_init_17 ww_578 ww_579 ww_103 ww_580 (by decide) (Nat.le_of_ble_eq_true rfl) ?_
  refine r_newR hf dX6_init_20 (by decide) (by decide) rfl ww_581 (fun m3 em3 hf => ?_)
  refine r_stRF hf dX6_init_23 fl_RX6_26 rfl rfl rfl rfl (fun m4 em4 hf => ?_)
  refine r_iconst (0 : Int32) dX6_init_26 (by decide) ?_
  refine r_istore (L' := [(4, _), (0, _), (1, _), (2, _), (3, _)]) dX6_init_27 (show 4 < 5 by decide) rfl ?_
  refine bnd hf (fun t11 et11 hf => ?_)
  refine r_sub (L' := [(0, _), (2, _), (4, _)]) [1, 3, 0] rfl ?_
  refine x_Se_init_l29 ?_ _ et11
  · intro z12 hz12
    subst hz12
    refine r_aload_n 0 dX6_init_56 rfl rfl ?_
    refine r_newX hf dX6_init_57 (by decide) ww_582 ww_483 ww_105 (fun m13 em13 hf => ?_)
    refine r_dup dX6_init_60 (cat_rf _) ?_
    refine r_aload_n 0 dX6_init_61 rfl rfl ?_
    refine r_ldR hf dX6_init_62 fl_RX6_26 rfl (fun v14 ev14 hf => ?_)
    refine r_iconst (0 : Int32) dX6_init_65 (by decide) ?_
    refine bnd hf (fun v15 ev15 hf => ?_)
    refine r_callSr dX6_init_66 cs_RX6_32 ww_584 (by decide) rfl (rest := [_, _, _]) rfl (Or.inl (Nat.le_of_ble_eq_true rfl)) (t_Se_termsOf ev15) ?_
    refine bnd hf (fun v16 ev16 hf => ?_)
    refine r_callIv dX6_init_69 cs_RX6_36 rfl rfl ww_492 (by decide) rfl (rest := [_, _]) rfl (Or.inl (Nat.le_of_ble_eq_true rfl)) (t_Vo_init ev16) ?_
    refine r_stRF hf dX6_init_72 fl_RX6_39 rfl rfl rfl rfl (fun m17 em17 hf => ?_)
    refine r_aload_n 0 dX6_init_75 rfl rfl ?_
    refine r_newX hf dX6_init_76 (by decide) ww_582 ww_483 ww_105 (fun m18 em18 hf => ?_)
    refine r_dup dX6_init_79 (cat_rf _) ?_
    refine r_aload_n 0 dX6_init_80 rfl rfl ?_
    refine r_ldR hf dX6_init_81 fl_RX6_26 rfl (fun v19 ev19 hf => ?_)
    refine r_iconst (1 : Int32) dX6_init_84 (by decide) ?_
    refine bnd hf (fun v20 ev20 hf => ?_)
    refine r_callSr dX6_init_85 cs_RX6_32 ww_584 (by decide) rfl (rest := [_, _, _]) rfl (Or.inl (Nat.le_of_ble_eq_true rfl)) (t_Se_termsOf ev20) ?_
    refine bnd hf (fun v21 ev21 hf => ?_)
    refine r_callIv dX6_init_88 cs_RX6_36 rfl rfl ww_492 (by decide) rfl (rest := [_, _]) rfl (Or.inl (Nat.le_of_ble_eq_true rfl)) (t_Vo_init ev21) ?_
    refine r_stRF hf dX6_init_91 fl_RX6_43 rfl rfl rfl rfl (fun m22 em22 hf => ?_)
    exact r_vret rfl dX6_init_94 (by have h1 := (Option.some.inj hf); subst h1; exact hr.symm)
/-! SearchEngine$Segment.deletedDocuments -/
noncomputable def Se_deletedDocuments_l4 (σ : Mem) (th : Nat) (x1 : Int32) (x2 : Int32) : Option ((Int32 × Int32) ⊕ Int32) :=
  (ldR σ 6 1 (some th)).bind fun v1 =>
  (alen σ 4 v1).bind fun v2 =>
  if v2 ≤ x2 then
    some (Sum.inr x1)
  else
    (ldR σ 6 1 (some th)).bind fun v4 =>
    (raR σ 4 v4 x2).bind fun v5 =>
    Option.bind (
      if v5 = none then
        some x1
      else
        (ldR σ 6 1 (some th)).bind fun v8 =>
        (raR σ 4 v8 x2).bind fun v9 =>
        (ldB σ 1 6 v9).bind fun v10 =>
        if v10 = true then
          some (x1 + (1 : Int32))
        else
          some x1) fun q6 =>
    some (Sum.inl (q6, (x2 + (1 : Int32))))
noncomputable def Se_deletedDocuments (σ : Mem) (th : Nat) : Option Int32 :=
  (lp (fun q => Se_deletedDocuments_l4 σ th q.1 q.2) ((0 : Int32), (0 : Int32))).bind fun z13 =>
  some z13
set_option maxRecDepth 100000 in
set_option maxHeartbeats 4000000 in
theorem x_Se_deletedDocuments_l4 {Γ : W0} {σ0 : Mem} {r : RT} {σ : Mem} {th : Nat} {t : Int32} (hk0 : ∀ z : Int32, z = t → V Γ MD_Se_deletedDocuments σ0 r σ 43 [(1, .int z)] []) : ∀ q : Int32 × Int32, lp (fun q => Se_deletedDocuments_l4 σ th q.1 q.2) q = some t → V Γ MD_Se_deletedDocuments σ0 r σ 4 [(0, va_rf (some th)), (1, .int q.1), (2, .int q.2)] [] := by
  refine lp_ind (fun (q : Int32 × Int32) => V Γ MD_Se_deletedDocuments σ0 r σ 4 [(0, va_rf (some th)), (1, .int q.1), (2, .int q.2)] []) (fun q x hf ih ho => ?_)
  obtain ⟨x1, x2⟩ := q
  show V Γ MD_Se_deletedDocuments σ0 r σ 4 [(0, va_rf (some th)), (1, .int x1), (2, .int x2)] []
  replace hf : Se_deletedDocuments_l4 σ th x1 x2 = some x := hf
  unfold Se_deletedDocuments_l4 at hf
  refine r_iload_n 2 dX6_deletedDocuments_4 rfl rfl ?_
  refine r_aload_n 0 dX6_deletedDocuments_5 rfl rfl ?_
  refine r_ldR hf dX6_deletedDocuments_6 fl_RX6_26 rfl (fun v1 ev1 hf => ?_)
  refine r_alen hf dX6_deletedDocuments_9 (by decide) (fun v2 ev2 hf => ?_)
  refine r_icmp_ge 43 hf dX6_deletedDocuments_10 (by decide) (fun c3 hf => ?_) (fun c3 hf => ?_)
  · refine r_sub (L' := [(1, _)]) [1] rfl ?_
    exact hk0 _ (ho _ (Option.some.inj hf).symm)
  · refine r_aload_n 0 dX6_deletedDocuments_13 rfl rfl ?_
    refine r_ldR hf dX6_deletedDocuments_14 fl_RX6_26 rfl (fun v4 ev4 hf => ?_)
    refine r_iload_n 2 dX6_deletedDocuments_17 rfl rfl ?_
    refine r_raR hf dX6_deletedDocuments_18 (by decide) (by decide) (fun v5 ev5 hf => ?_)
    refine r_bd (fun (q6 : Int32) => V Γ MD_Se_deletedDocuments σ0 r σ 37 [(0, va_rf (some th)), (1, .int q6), (2, .int x2)] []) hf (fun q6 hf => ?_) (fun yq6 hf kq6 => ?_)
    · refine r_iinc (1 : Int32) (L' := [(2, _), (0, _), (1, _)]) 2 dX6_deletedDocuments_37 rfl (by decide) (show 2 < 3 by decide) rfl ?_
      refine r_goto 4 dX6_deletedDocuments_40 (by decide) ?_
      refine r_sub (L' := [(0, _), (1, _), (2, _)]) [1, 2, 0] rfl ?_
      exact ih _ (Option.some.inj hf).symm
    · refine r_ifnull 37 hf dX6_deletedDocuments_19 (by decide) (fun c7 hf => ?_) (fun c7 hf => ?_)
      · refine r_sub (L' := [(0, _), (1, _), (2, _)]) [0, 1, 2] rfl ?_
        cases (Option.some.inj hf)
        exact kq6
      · refine r_aload_n 0 dX6_deletedDocuments_22 rfl rfl ?_
        refine r_ldR hf dX6_deletedDocuments_23 fl_RX6_26 rfl (fun v8 ev8 hf => ?_)
        refine r_iload_n 2 dX6_deletedDocuments_26 rfl rfl ?_
        refine r_raR hf dX6_deletedDocuments_27 (by decide) (by decide) (fun v9 ev9 hf => ?_)
        refine r_ldB hf dX6_deletedDocuments_28 fl_RX6_63 rfl (fun v10 ev10 hf => ?_)
        refine r_ifeqZ 37 hf dX6_deletedDocuments_31 (by decide) (fun c11 hf => ?_) (fun c11 hf => ?_)
        · refine r_iinc (1 : Int32) (L' := [(1, _), (0, _), (2, _)]) 1 dX6_deletedDocuments_34 rfl (by decide) (show 1 < 3 by decide) rfl ?_
          refine r_sub (L' := [(0, _), (1, _), (2, _)]) [1, 0, 2] rfl ?_
          cases (Option.some.inj hf)
          exact kq6
        · refine r_sub (L' := [(0, _), (1, _), (2, _)]) [0, 1, 2] rfl ?_
          cases (Option.some.inj hf)
          exact kq6
set_option maxRecDepth 100000 in
set_option maxHeartbeats 4000000 in
theorem t_Se_deletedDocuments {Γ : W0} {σ : Mem} {th : Nat} {v : Int32} (hf : Se_deletedDocuments σ th = some v) : CT Γ MD_Se_deletedDocuments yX6_deletedDocuments [va_rf (some th)] σ (some (.int v), σ) := by
  refine CT.of (L := [(0, va_rf (some th))]) rfl (by decide) (fun h => Bool.noConfusion (show false = true from h)) (Nat.le_of_ble_eq_true rfl) rfl ?_
  unfold Se_deletedDocuments at hf
  generalize hr : mkR Γ σ (some (.int v)) σ = r
  refine r_iconst (0 : Int32) dX6_deletedDocuments_0 (by decide) ?_
  refine r_istore_n (L' := [(1, _), (0, _)]) dX6_deletedDocuments_1 rfl (show 1 < 3 by decide) rfl ?_
  refine r_iconst (0 : Int32) dX6_deletedDocuments_2 (by decide) ?_
  refine r_istore_n (L' := [(2, _), (1, _), (0, _)]) dX6_deletedDocuments_3 rfl (show 2 < 3 by decide) rfl ?_
  refine bnd hf (fun t12 et12 hf => ?_)
  refine r_sub (L' := [(0, _), (1, _), (2, _)]) [2, 1, 0] rfl ?_
  refine x_Se_deletedDocuments_l4 ?_ _ et12
  · intro z13 hz13
    subst hz13
    refine r_iload_n 0 dX6_deletedDocuments_43 rfl rfl ?_
    exact r_iret rfl dX6_deletedDocuments_44 (by have h1 := (Option.some.inj hf); subst h1; exact hr.symm)
/-! SearchEngine$Speller.<init> -/
noncomputable def Sp_init_l33 (σ : Mem) (th : Nat) (x3 : Int32) (x4 : Int32) (x5 : Int64) (x7 : Int32) : Option ((Int32 × Int32 × Int64 × Int32 × Mem) ⊕ Mem) :=
  (sLen 0).bind fun v5 =>
  if v5 ≤ x7 then
    some (Sum.inr σ)
  else
    (sCh 0 x7).bind fun v7 =>
    (Sp_signOf v7).bind fun v8 =>
    Option.bind (
      if v8 = 0 then
        if (11 : Int32) ≤ x3 then
          some (x3, x4, x5, σ)
        else
          (ldR σ 7 2 (some th)).bind fun v12 =>
          (Sp_padded x5 x4).bind fun v13 =>
          (waL σ 1 v12 x3 v13).bind fun m14 =>
          some ((x3 + (1 : Int32)), (0 : Int32), (0 : Int64), m14)
      else
        some (x3, (x4 + (1 : Int32)), ((x5 * (37 : Int64)) + v8.toInt64), σ)) fun q9 =>
    some (Sum.inl (q9.1, q9.2.1, q9.2.2.1, (x7 + (1 : Int32)), q9.2.2.2))
noncomputable def Sp_init (σ : Mem) (th : Nat) (x1 : Bool) (x2 : Bool) : Option Mem :=
  (stB σ 7 0 (some th) x1).bind fun m1 =>
  (stB m1 7 1 (some th) x2).bind fun m2 =>
  (nwA m2 1 (11 : Int32)).bind fun m3 =>
  (stR m3 7 2 (some th) (some (gN m2))).bind fun m4 =>
  (lp (fun q => Sp_init_l33 q.2.2.2.2 th q.1 q.2.1 q.2.2.1 q.2.2.2.1) ((0 : Int32), (0 : Int32), (0 : Int64), (0 : Int32), m4)).bind fun z16 =>
  some z16
set_option maxRecDepth 100000 in
set_option maxHeartbeats 4000000 in
theorem x_Sp_init_l33 {Γ : W0} {σ0 : Mem} {r : RT} {th : Nat} {t : Mem} (hk0 : ∀ z : Mem, z = t → V Γ MD_Sp_init σ0 r z 112 [] []) : ∀ q : Int32 × Int32 × Int64 × Int32 × Mem, lp (fun q => Sp_init_l33 q.2.2.2.2 th q.1 q.2.1 q.2.2.1 q.2.2.2.1) q = some t → V Γ MD_Sp_init σ0 r q.2.2.2.2 33 [(0, va_rf (some th)), (3, .int q.1), (4, .int q.2.1), (5, .long q.2.2.1), (7, .int q.2.2.2.1)] [] := by
  refine lp_ind (fun (q : Int32 × Int32 × Int64 × Int32 × Mem) => V Γ MD_Sp_init σ0 r q.2.2.2.2 33 [(0, va_rf (some th)), (3, .int q.1), (4, .int q.2.1), (5, .long q.2.2.1), (7, .int q.2.2.2.1)] []) (fun q x hf ih ho => ?_)
  obtain ⟨x3, x4, x5, x7, σ⟩ := q
  show V Γ MD_Sp_init σ0 r σ 33 [(0, va_rf (some th)), (3, .int x3), (4, .int x4), (5, .long x5), (7, .int x7)] []
  replace hf : Sp_init_l33 σ th x3 x4 x5 x7 = some x := hf
  unfold Sp_init_l33 at hf
  refine r_iload 4 dX7_init_33 rfl ?_
  refine r_ldcS (i := 0) "a an and in is it of on or the to " dX7_init_35 (by decide +kernel) ?_
  refine r_sLen hf dX7_init_37 ww_124 (by decide) (Nat.le_of_ble_eq_true rfl) (fun v5 ev5 hf => ?_)
  refine r_icmp_ge 112 hf dX7_init_40 (by decide) (fun c6 hf => ?_) (fun c6 hf => ?_)
  · refine r_sub (L' := []) [] rfl ?_
    exact hk0 _ (ho _ (Option.some.inj hf).symm)
  · refine r_ldcS (i := 0) "a an and in is it of on or the to " dX7_init_43 (by decide +kernel) ?_
    refine r_iload 4 dX7_init_45 rfl ?_
    refine r_sCh hf dX7_init_47 ww_134 (by decide) (Nat.le_of_ble_eq_true rfl) (fun v7 ev7 hf => ?_)
    refine bnd hf (fun v8 ev8 hf => ?_)
    refine r_callSr dX7_init_50 cs_RX7_32 ww_173 (by decide) rfl (rest := []) rfl (Or.inl (Nat.le_of_ble_eq_true rfl)) (t_Sp_signOf ev8) ?_
    refine r_istore (L' := [(8, _), (0, _), (3, _), (4, _), (5, _), (7, _)]) dX7_init_53 (show 8 < 9 by decide) rfl ?_
    refine r_iload 0 dX7_init_55 rfl ?_
    refine r_bd (fun (q9 : Int32 × Int32 × Int64 × Mem) => V Γ MD_Sp_init σ0 r q9.2.2.2 106 [(0, va_rf (some th)), (3, .int q9.1), (4, .int q9.2.1), (5, .long q9.2.2.1), (7, .int x7)] []) hf (fun q9 hf => ?_) (fun yq9 hf kq9 => ?_)
    · refine r_iinc (1 : Int32) (L' := [(7, _), (0, _), (3, _), (4, _), (5, _)]) 4 dX7_init_106 rfl (by decide) (show 7 < 9 by decide) rfl ?_
      refine r_goto 33 dX7_init_109 (by decide) ?_
      refine r_sub (L' := [(0, _), (3, _), (4, _), (5, _), (7, _)]) [1, 2, 3, 4, 0] rfl ?_
      exact ih _ (Option.some.inj hf).symm
    · refine r_if_eq 78 hf dX7_init_57 (by decide) (fun c10 hf => ?_) (fun c10 hf => ?_)
      · refine r_iload_n 2 dX7_init_78 rfl rfl ?_
        refine r_bipush (11 : Int32) dX7_init_79 (by decide) ?_
        refine r_icmp_ge 106 hf dX7_init_81 (by decide) (fun c11 hf => ?_) (fun c11 hf => ?_)
        · refine r_sub (L' := [(0, _), (3, _), (4, _), (5, _), (7, _)]) [1, 2, 3, 4, 5] rfl ?_
          cases (Option.some.inj hf)
          exact kq9
        · refine r_aload_n 1 dX7_init_84 rfl rfl ?_
          refine r_ldR hf dX7_init_85 fl_RX7_16 rfl (fun v12 ev12 hf => ?_)
          refine r_iload_n 2 dX7_init_88 rfl rfl ?_
          refine r_lload 4 dX7_init_89 rfl ?_
          refine r_iload 3 dX7_init_91 rfl ?_
          refine bnd hf (fun v13 ev13 hf => ?_)
          refine r_callSr dX7_init_93 cs_RX7_38 ww_177 (by decide) rfl (rest := [_, _]) rfl (Or.inl (Nat.le_of_ble_eq_true rfl)) (t_Sp_padded ev13) ?_
          refine r_waL hf dX7_init_96 (fun m14 em14 hf => ?_)
          refine r_iinc (1 : Int32) (L' := [(3, _), (8, _), (0, _), (4, _), (5, _), (7, _)]) 2 dX7_init_97 rfl (by decide) (show 3 < 9 by decide) rfl ?_
          refine r_iconst (0 : Int32) dX7_init_100 (by decide) ?_
          refine r_istore (L' := [(4, _), (3, _), (8, _), (0, _), (5, _), (7, _)]) dX7_init_101 (show 4 < 9 by decide) rfl ?_
          refine r_lconst (0 : Int64) dX7_init_103 (by decide) ?_
          refine r_lstore (L' := [(5, _), (4, _), (3, _), (8, _), (0, _), (7, _)]) dX7_init_104 (show 6 < 9 by decide) rfl ?_
          refine r_sub (L' := [(0, _), (3, _), (4, _), (5, _), (7, _)]) [4, 2, 1, 0, 5] rfl ?_
          cases (Option.some.inj hf)
          exact kq9
      · refine r_lload 4 dX7_init_60 rfl ?_
        refine r_ldc2 (37 : Int64) dX7_init_62 ww_175 ?_
        refine r_lmul dX7_init_65 ?_
        refine r_iload 0 dX7_init_66 rfl ?_
        refine r_i2l dX7_init_68 ?_
        refine r_ladd dX7_init_69 ?_
        refine r_lstore (L' := [(5, _), (8, _), (0, _), (3, _), (4, _), (7, _)]) dX7_init_70 (show 6 < 9 by decide) rfl ?_
        refine r_iinc (1 : Int32) (L' := [(4, _), (5, _), (8, _), (0, _), (3, _), (7, _)]) 4 dX7_init_72 rfl (by decide) (show 4 < 9 by decide) rfl ?_
        refine r_goto 106 dX7_init_75 (by decide) ?_
        refine r_sub (L' := [(0, _), (3, _), (4, _), (5, _), (7, _)]) [3, 4, 0, 1, 5] rfl ?_
        cases (Option.some.inj hf)
        exact kq9
set_option maxRecDepth 100000 in
set_option maxHeartbeats 4000000 in
theorem t_Sp_init {Γ : W0} {σ : Mem} {th : Nat} {x1 : Bool} {x2 : Bool} {σ' : Mem} (hf : Sp_init σ th x1 x2 = some σ') : CT Γ MD_Sp_init yX7_init [va_rf (some th), .int (b2i x1), .int (b2i x2)] σ (none, σ') := by
  refine CT.of (L := [(0, va_rf (some th)), (1, .int (b2i x1)), (2, .int (b2i x2))]) rfl (by decide) (fun _ => rfl) (Nat.le_of_ble_eq_true rfl) rfl ?_
  unfold Sp_init at hf
  generalize hr : mkR Γ σ (none) σ' = r
  refine r_aload_n 0 dX7_init_0 rfl rfl ?_
  refine r_objInit dX7_init_1 ww_122 ww_115 ww_116 (by decide) (Nat.le_of_ble_eq_true rfl) ?_
  refine r_aload_n 0 dX7_init_4 rfl rfl ?_
  refine r_iload_n 1 dX7_init_5 rfl rfl ?_
  refine r_stBF hf dX7_init_6 fl_RX7_9 rfl rfl rfl rfl (fun m1 em1 hf => ?_)
  refine r_aload_n 0 dX7_init_9 rfl rfl ?_
  refine r_iload_n 2 dX7_init_10 rfl rfl ?_
  refine r_stBF hf dX7_init_11 fl_RX7_13 rfl rfl rfl rfl (fun m2 em2 hf => ?_)
  refine r_aload_n 0 dX7_init_14 rfl rfl ?_
  refine r_bipush (11 : Int32) dX7_init_15 (by decide) ?_
  refine r_newL hf dX7_init_17 ww_189 (fun m3 em3 hf => ?_)
  refine r_stRF hf dX7_init_19 fl_RX7_16 rfl rfl rfl rfl (fun m4 em4 hf => ?_)
  refine r_iconst (0 : Int32) dX7_init_22 (by decide) ?_
  refine r_istore_n (L' := [(3, _), (0, _), (1, _), (2, _)]) dX7_init_23 rfl (show 3 < 9 by decide) rfl ?_
  refine r_iconst (0 : Int32) dX7_init_24 (by decide) ?_
  refine r_istore (L' := [(4, _), (3, _), (0, _), (1, _), (2, _)]) dX7_init_25 (show 4 < 9 by decide) rfl ?_
  refine r_lconst (0 : Int64) dX7_init_27 (by decide) ?_
  refine r_lstore (L' := [(5, _), (4, _), (3, _), (0, _), (1, _), (2, _)]) dX7_init_28 (show 6 < 9 by decide) rfl ?_
  refine r_iconst (0 : Int32) dX7_init_30 (by decide) ?_
  refine r_istore (L' := [(7, _), (5, _), (4, _), (3, _), (0, _), (1, _), (2, _)]) dX7_init_31 (show 7 < 9 by decide) rfl ?_
  refine bnd hf (fun t15 et15 hf => ?_)
  refine r_sub (L' := [(0, _), (3, _), (4, _), (5, _), (7, _)]) [4, 3, 2, 1, 0] rfl ?_
  refine x_Sp_init_l33 ?_ _ et15
  · intro z16 hz16
    subst hz16
    exact r_vret rfl dX7_init_112 (by have h1 := (Option.some.inj hf); subst h1; exact hr.symm)
/-! SearchEngine$Speller.wordStart -/
noncomputable def Sp_wordStart_l2 (σ : Mem) (x0 : Option Nat) (x2 : Int32) (x3 : Int32) : Option (Int32 ⊕ Int32) :=
  if x3 < 0 then
    some (Sum.inr x3)
  else
    if x2 ≤ x3 then
      some (Sum.inr x3)
    else
      (alen σ 2 x0).bind fun v3 =>
      if v3 ≤ x3 then
        some (Sum.inr x3)
      else
        (raI σ 2 x0 x3).bind fun v5 =>
        (Sp_signOf v5).bind fun v6 =>
        if ¬ v6 = 0 then
          some (Sum.inr x3)
        else
          some (Sum.inl (x3 + (1 : Int32)))
noncomputable def Sp_wordStart (σ : Mem) (x0 : Option Nat) (x1 : Int32) (x2 : Int32) : Option Int32 :=
  (lp (fun q => Sp_wordStart_l2 σ x0 x2 q) x1).bind fun z9 =>
  some z9
set_option maxRecDepth 100000 in
set_option maxHeartbeats 4000000 in
theorem x_Sp_wordStart_l2 {Γ : W0} {σ0 : Mem} {r : RT} {σ : Mem} {x0 : Option Nat} {x2 : Int32} {t : Int32} (hk0 : ∀ z : Int32, z = t → V Γ MD_Sp_wordStart σ0 r σ 32 [(3, .int z)] []) : ∀ q : Int32, lp (fun q => Sp_wordStart_l2 σ x0 x2 q) q = some t → V Γ MD_Sp_wordStart σ0 r σ 2 [(0, va_rf x0), (2, .int x2), (3, .int q)] [] := by
  refine lp_ind (fun (q : Int32) => V Γ MD_Sp_wordStart σ0 r σ 2 [(0, va_rf x0), (2, .int x2), (3, .int q)] []) (fun q x hf ih ho => ?_)
  revert hf ih
  generalize q = x3
  intro hf ih
  show V Γ MD_Sp_wordStart σ0 r σ 2 [(0, va_rf x0), (2, .int x2), (3, .int x3)] []
  replace hf : Sp_wordStart_l2 σ x0 x2 x3 = some x := hf
  unfold Sp_wordStart_l2 at hf
  refine r_iload_n 2 dX7_wordStart_2 rfl rfl ?_
  refine r_if_lt 32 hf dX7_wordStart_3 (by decide) (fun c1 hf => ?_) (fun c1 hf => ?_)
  · refine r_sub (L' := [(3, _)]) [2] rfl ?_
    exact hk0 _ (ho _ (Option.some.inj hf).symm)
  · refine r_iload_n 2 dX7_wordStart_6 rfl rfl ?_
    refine r_iload_n 1 dX7_wordStart_7 rfl rfl ?_
    refine r_icmp_ge 32 hf dX7_wordStart_8 (by decide) (fun c2 hf => ?_) (fun c2 hf => ?_)
    · refine r_sub (L' := [(3, _)]) [2] rfl ?_
      exact hk0 _ (ho _ (Option.some.inj hf).symm)
    · refine r_iload_n 2 dX7_wordStart_11 rfl rfl ?_
      refine r_aload_n 0 dX7_wordStart_12 rfl rfl ?_
      refine r_alen hf dX7_wordStart_13 (by decide) (fun v3 ev3 hf => ?_)
      refine r_icmp_ge 32 hf dX7_wordStart_14 (by decide) (fun c4 hf => ?_) (fun c4 hf => ?_)
      · refine r_sub (L' := [(3, _)]) [2] rfl ?_
        exact hk0 _ (ho _ (Option.some.inj hf).symm)
      · refine r_aload_n 0 dX7_wordStart_17 rfl rfl ?_
        refine r_iload_n 2 dX7_wordStart_18 rfl rfl ?_
        refine r_raY hf dX7_wordStart_19 (fun v5 ev5 hf => ?_)
        refine bnd hf (fun v6 ev6 hf => ?_)
        refine r_callSr dX7_wordStart_20 cs_RX7_32 ww_173 (by decide) rfl (rest := []) rfl (Or.inl (Nat.le_of_ble_eq_true rfl)) (t_Sp_signOf ev6) ?_
        refine r_if_ne 32 hf dX7_wordStart_23 (by decide) (fun c7 hf => ?_) (fun c7 hf => ?_)
        · refine r_sub (L' := [(3, _)]) [2] rfl ?_
          exact hk0 _ (ho _ (Option.some.inj hf).symm)
        · refine r_iinc (1 : Int32) (L' := [(3, _), (0, _), (2, _)]) 2 dX7_wordStart_26 rfl (by decide) (show 3 < 4 by decide) rfl ?_
          refine r_goto 2 dX7_wordStart_29 (by decide) ?_
          refine r_sub (L' := [(0, _), (2, _), (3, _)]) [1, 2, 0] rfl ?_
          exact ih _ (Option.some.inj hf).symm
set_option maxRecDepth 100000 in
set_option maxHeartbeats 4000000 in
theorem t_Sp_wordStart {Γ : W0} {σ : Mem} {x0 : Option Nat} {x1 : Int32} {x2 : Int32} {v : Int32} (hf : Sp_wordStart σ x0 x1 x2 = some v) : CT Γ MD_Sp_wordStart yX7_wordStart [va_rf x0, .int x1, .int x2] σ (some (.int v), σ) := by
  refine CT.of (L := [(0, va_rf x0), (1, .int x1), (2, .int x2)]) rfl (by decide) (fun h => Bool.noConfusion (show false = true from h)) (by cases x0 <;> exact Nat.le_of_ble_eq_true rfl) (by cases x0 <;> rfl) ?_
  unfold Sp_wordStart at hf
  generalize hr : mkR Γ σ (some (.int v)) σ = r
  refine r_iload_n 1 dX7_wordStart_0 rfl rfl ?_
  refine r_istore_n (L' := [(3, _), (0, _), (1, _), (2, _)]) dX7_wordStart_1 rfl (show 3 < 4 by decide) rfl ?_
  refine bnd hf (fun t8 et8 hf => ?_)
  refine r_sub (L' := [(0, _), (2, _), (3, _)]) [1, 3, 0] rfl ?_
  refine x_Sp_wordStart_l2 ?_ _ et8
  · intro z9 hz9
    subst hz9
    refine r_iload_n 0 dX7_wordStart_32 rfl rfl ?_
    exact r_iret rfl dX7_wordStart_33 (by have h1 := (Option.some.inj hf); subst h1; exact hr.symm)
/-! SearchEngine$Speller.isWord -/
noncomputable def Sp_isWord (σ : Mem) (x0 : Option Nat) (x1 : Int32) : Option Bool :=
  if x1 ≤ 0 then
    some false
  else
    (Sp_wordEnd σ x0 (0 : Int32) x1).bind fun v2 =>
    if ¬ v2 = x1 then
      some false
    else
      some true
set_option maxRecDepth 100000 in
set_option maxHeartbeats 4000000 in
theorem t_Sp_isWord {Γ : W0} {σ : Mem} {x0 : Option Nat} {x1 : Int32} {v : Bool} (hf : Sp_isWord σ x0 x1 = some v) : CT Γ MD_Sp_isWord yX7_isWord [va_rf x0, .int x1] σ (some (.int (b2i v)), σ) := by
  refine CT.of (L := [(0, va_rf x0), (1, .int x1)]) rfl (by decide) (fun h => Bool.noConfusion (show false = true from h)) (by cases x0 <;> exact Nat.le_of_ble_eq_true rfl) (by cases x0 <;> rfl) ?_
  unfold Sp_isWord at hf
  generalize hr : mkR Γ σ (some (.int (b2i v))) σ = r
  refine r_iload_n 1 dX7_isWord_0 rfl rfl ?_
  refine r_if_le 18 hf dX7_isWord_1 (by decide) (fun c1 hf => ?_) (fun c1 hf => ?_)
  · refine r_iconst (b2i false) dX7_isWord_18 rfl ?_
    exact r_zret rfl dX7_isWord_19 (by have h1 := (Option.some.inj hf); subst h1; exact hr.symm)
  · refine r_aload_n 0 dX7_isWord_4 rfl rfl ?_
    refine r_iconst (0 : Int32) dX7_isWord_5 (by decide) ?_
    refine r_iload_n 1 dX7_isWord_6 rfl rfl ?_
    refine bnd hf (fun v2 ev2 hf => ?_)
    refine r_callSr dX7_isWord_7 cs_RX7_42 ww_465 (by decide) rfl (rest := []) rfl (Or.inl (Nat.le_of_ble_eq_true rfl)) (t_Sp_wordEnd ev2) ?_
    refine r_iload_n 1 dX7_isWord_10 rfl rfl ?_
    refine r_icmp_ne 18 hf dX7_isWord_11 (by decide) (fun c3 hf => ?_) (fun c3 hf => ?_)
    · refine r_iconst (b2i false) dX7_isWord_18 rfl ?_
      exact r_zret rfl dX7_isWord_19 (by have h1 := (Option.some.inj hf); subst h1; exact hr.symm)
    · refine r_iconst (b2i true) dX7_isWord_14 rfl ?_
      refine r_goto 19 dX7_isWord_15 (by decide) ?_
      exact r_zret rfl dX7_isWord_19 (by have h1 := (Option.some.inj hf); subst h1; exact hr.symm)
/-! SearchEngine$Text.countTokens -/
noncomputable def Te_countTokens_l13 (σ : Mem) (x0 : Option Nat) (x2 : Int32) (x3 : Int32) (x4 : Int32) (x5 : Int32) : Option ((Int32 × Int32 × Int32) ⊕ Int32) :=
  if x2 ≤ x5 then
    some (Sum.inr x3)
  else
    if x2 ≤ x4 then
      some (Sum.inr x3)
    else
      (Sp_wordEnd σ x0 x4 x2).bind fun v4 =>
      (Sp_wordStart σ x0 v4 x2).bind fun v5 =>
      some (Sum.inl ((x3 + (1 : Int32)), v5, (x5 + (1 : Int32))))
noncomputable def Te_countTokens (σ : Mem) (x0 : Option Nat) (x1 : Int32) (x2 : Int32) : Option Int32 :=
  (Sp_wordStart σ x0 x1 x2).bind fun v1 =>
  (lp (fun q => Te_countTokens_l13 σ x0 x2 q.1 q.2.1 q.2.2) ((0 : Int32), v1, x1)).bind fun z7 =>
  some z7
set_option maxRecDepth 100000 in
set_option maxHeartbeats 4000000 in
theorem x_Te_countTokens_l13 {Γ : W0} {σ0 : Mem} {r : RT} {σ : Mem} {x0 : Option Nat} {x2 : Int32} {t : Int32} (hk0 : ∀ z : Int32, z = t → V Γ MD_Te_countTokens σ0 r σ 48 [(3, .int z)] []) : ∀ q : Int32 × Int32 × Int32, lp (fun q => Te_countTokens_l13 σ x0 x2 q.1 q.2.1 q.2.2) q = some t → V Γ MD_Te_countTokens σ0 r σ 13 [(0, va_rf x0), (2, .int x2), (3, .int q.1), (4, .int q.2.1), (5, .int q.2.2)] [] := by
  refine lp_ind (fun (q : Int32 × Int32 × Int32) => V Γ MD_Te_countTokens σ0 r σ 13 [(0, va_rf x0), (2, .int x2), (3, .int q.1), (4, .int q.2.1), (5, .int q.2.2)] []) (fun q x hf ih ho => ?_)
  obtain ⟨x3, x4, x5⟩ := q
  show V Γ MD_Te_countTokens σ0 r σ 13 [(0, va_rf x0), (2, .int x2), (3, .int x3), (4, .int x4), (5, .int x5)] []
  replace hf : Te_countTokens_l13 σ x0 x2 x3 x4 x5 = some x := hf
  unfold Te_countTokens_l13 at hf
  refine r_iload 4 dX8_countTokens_13 rfl ?_
  refine r_iload_n 1 dX8_countTokens_15 rfl rfl ?_
  refine r_icmp_ge 48 hf dX8_countTokens_16 (by decide) (fun c2 hf => ?_) (fun c2 hf => ?_)
  · refine r_sub (L' := [(3, _)]) [2] rfl ?_
    exact hk0 _ (ho _ (Option.some.inj hf).symm)
  · refine r_iload 3 dX8_countTokens_19 rfl ?_
    refine r_iload_n 1 dX8_countTokens_21 rfl rfl ?_
    refine r_icmp_ge 48 hf dX8_countTokens_22 (by decide) (fun c3 hf => ?_) (fun c3 hf => ?_)
    · refine r_sub (L' := [(3, _)]) [2] rfl ?_
      exact hk0 _ (ho _ (Option.some.inj hf).symm)
    · refine r_iinc (1 : Int32) (L' := [(3, _), (0, _), (2, _), (4, _), (5, _)]) 2 dX8_countTokens_25 rfl (by decide) (show 3 < 6 by decide) rfl ?_
      refine r_aload_n 1 dX8_countTokens_28 rfl rfl ?_
      refine r_aload_n 1 dX8_countTokens_29 rfl rfl ?_
      refine r_iload 3 dX8_countTokens_30 rfl ?_
      refine r_iload_n 2 dX8_countTokens_32 rfl rfl ?_
      refine bnd hf (fun v4 ev4 hf => ?_)
      refine r_callSr dX8_countTokens_33 cs_RX8_31 ww_465 (by decide) rfl (rest := [_]) rfl (Or.inl (Nat.le_of_ble_eq_true rfl)) (t_Sp_wordEnd ev4) ?_
      refine r_iload_n 2 dX8_countTokens_36 rfl rfl ?_
      refine bnd hf (fun v5 ev5 hf => ?_)
      refine r_callSr dX8_countTokens_37 cs_RX8_26 ww_462 (by decide) rfl (rest := []) rfl (Or.inl (Nat.le_of_ble_eq_true rfl)) (t_Sp_wordStart ev5) ?_
      refine r_istore (L' := [(4, _), (3, _), (0, _), (2, _), (5, _)]) dX8_countTokens_40 (show 4 < 6 by decide) rfl ?_
      refine r_iinc (1 : Int32) (L' := [(5, _), (4, _), (3, _), (0, _), (2, _)]) 4 dX8_countTokens_42 rfl (by decide) (show 5 < 6 by decide) rfl ?_
      refine r_goto 13 dX8_countTokens_45 (by decide) ?_
      refine r_sub (L' := [(0, _), (2, _), (3, _), (4, _), (5, _)]) [3, 4, 2, 1, 0] rfl ?_
      exact ih _ (Option.some.inj hf).symm
set_option maxRecDepth 100000 in
set_option maxHeartbeats 4000000 in
theorem t_Te_countTokens {Γ : W0} {σ : Mem} {x0 : Option Nat} {x1 : Int32} {x2 : Int32} {v : Int32} (hf : Te_countTokens σ x0 x1 x2 = some v) : CT Γ MD_Te_countTokens yX8_countTokens [va_rf x0, .int x1, .int x2] σ (some (.int v), σ) := by
  refine CT.of (L := [(0, va_rf x0), (1, .int x1), (2, .int x2)]) rfl (by decide) (fun h => Bool.noConfusion (show false = true from h)) (by cases x0 <;> exact Nat.le_of_ble_eq_true rfl) (by cases x0 <;> rfl) ?_
  unfold Te_countTokens at hf
  generalize hr : mkR Γ σ (some (.int v)) σ = r
  refine r_iconst (0 : Int32) dX8_countTokens_0 (by decide) ?_
  refine r_istore_n (L' := [(3, _), (0, _), (1, _), (2, _)]) dX8_countTokens_1 rfl (show 3 < 6 by decide) rfl ?_
  refine r_aload_n 1 dX8_countTokens_2 rfl rfl ?_
  refine r_iload_n 2 dX8_countTokens_3 rfl rfl ?_
  refine r_iload_n 3 dX8_countTokens_4 rfl rfl ?_
  refine bnd hf (fun v1 ev1 hf => ?_)
  refine r_callSr dX8_countTokens_5 cs_RX8_26 ww_462 (by decide) rfl (rest := []) rfl (Or.inl (Nat.le_of_ble_eq_true rfl)) (t_Sp_wordStart ev1) ?_
  refine r_istore (L' := [(4, _), (3, _), (0, _), (1, _), (2, _)]) dX8_countTokens_8 (show 4 < 6 by decide) rfl ?_
  refine r_iload_n 3 dX8_countTokens_10 rfl rfl ?_
  refine r_istore (L' := [(5, _), (4, _), (3, _), (0, _), (1, _), (2, _)]) dX8_countTokens_11 (show 5 < 6 by decide) rfl ?_
  refine bnd hf (fun t6 et6 hf => ?_)
  refine r_sub (L' := [(0, _), (2, _), (3, _), (4, _), (5, _)]) [3, 5, 2, 1, 0] rfl ?_
  refine x_Te_countTokens_l13 ?_ _ et6
  · intro z7 hz7
    subst hz7
    refine r_iload_n 0 dX8_countTokens_48 rfl rfl ?_
    exact r_iret rfl dX8_countTokens_49 (by have h1 := (Option.some.inj hf); subst h1; exact hr.symm)
/-! SearchEngine$Text.<init> -/
noncomputable def Te_init_l42 (σ : Mem) (th : Nat) (x1 : Option Nat) (x2 : Int32) (x3 : Int32) (x4 : Option Nat) (x5 : Int32) (x6 : Int32) (x7 : Int32) : Option ((Int32 × Int32 × Mem) ⊕ Mem) :=
  if x5 ≤ x7 then
    some (Sum.inr σ)
  else
    (Sp_wordStart σ x1 x6 x3).bind fun v9 =>
    (Sp_wordEnd σ x1 v9 x3).bind fun v10 =>
    (ldR σ 8 0 (some th)).bind fun v11 =>
    (waI σ 0 v11 x7 (v9 - x2)).bind fun m12 =>
    (ldR m12 8 1 (some th)).bind fun v13 =>
    (waI m12 0 v13 x7 (v10 - v9)).bind fun m14 =>
    (ldR m14 8 2 (some th)).bind fun v15 =>
    (chk m14 7 x4).bind fun a16 =>
    (Sp_termOf m14 a16 x1 v9 (v10 - v9)).bind fun v17 =>
    (waL m14 1 v15 x7 v17).bind fun m18 =>
    some (Sum.inl (v10, (x7 + (1 : Int32)), m18))
noncomputable def Te_init (σ : Mem) (th : Nat) (x1 : Option Nat) (x2 : Int32) (x3 : Int32) (x4 : Option Nat) : Option Mem :=
  (Te_countTokens σ x1 x2 x3).bind fun v1 =>
  (nwA σ 0 v1).bind fun m2 =>
  (stR m2 8 0 (some th) (some (gN σ))).bind fun m3 =>
  (nwA m3 0 v1).bind fun m4 =>
  (stR m4 8 1 (some th) (some (gN m3))).bind fun m5 =>
  (nwA m5 1 v1).bind fun m6 =>
  (stR m6 8 2 (some th) (some (gN m5))).bind fun m7 =>
  (lp (fun q => Te_init_l42 q.2.2 th x1 x2 x3 x4 v1 q.1 q.2.1) (x2, (0 : Int32), m7)).bind fun z20 =>
  (some (nwO z20 10)).bind fun m21 =>
  (ldR m21 8 2 (some th)).bind fun v22 =>
  (nwK m21 v22).bind fun m23 =>
  (Vo_init m23 (gN z20) (some (gN m21))).bind fun v24 =>
  (stR v24 8 3 (some th) (some (gN z20))).bind fun m25 =>
  some m25
set_option maxRecDepth 100000 in
set_option maxHeartbeats 4000000 in
theorem x_Te_init_l42 {Γ : W0} {σ0 : Mem} {r : RT} {th : Nat} {x1 : Option Nat} {x2 : Int32} {x3 : Int32} {x4 : Option Nat} {x5 : Int32} {t : Mem} (hk0 : ∀ z : Mem, z = t → V Γ MD_Te_init σ0 r z 116 [(0, va_rf (some th))] []) : ∀ q : Int32 × Int32 × Mem, lp (fun q => Te_init_l42 q.2.2 th x1 x2 x3 x4 x5 q.1 q.2.1) q = some t → V Γ MD_Te_init σ0 r q.2.2 42 [(0, va_rf (some th)), (1, va_rf x1), (2, .int x2), (3, .int x3), (4, va_rf x4), (5, .int x5), (6, .int q.1), (7, .int q.2.1)] [] := by
  refine lp_ind (fun (q : Int32 × Int32 × Mem) => V Γ MD_Te_init σ0 r q.2.2 42 [(0, va_rf (some th)), (1, va_rf x1), (2, .int x2), (3, .int x3), (4, va_rf x4), (5, .int x5), (6, .int q.1), (7, .int q.2.1)] []) (fun q x hf ih ho => ?_)
  obtain ⟨x6, x7, σ⟩ := q
  show V Γ MD_Te_init σ0 r σ 42 [(0, va_rf (some th)), (1, va_rf x1), (2, .int x2), (3, .int x3), (4, va_rf x4), (5, .int x5), (6, .int x6), (7, .int x7)] []
  replace hf : Te_init_l42 σ th x1 x2 x3 x4 x5 x6 x7 = some x := hf
  unfold Te_init_l42 at hf
  refine r_iload 7 dX8_init_42 rfl ?_
  refine r_iload 5 dX8_init_44 rfl ?_
  refine r_icmp_ge 116 hf dX8_init_46 (by decide) (fun c8 hf => ?_) (fun c8 hf => ?_)
  · refine r_sub (L' := [(0, _)]) [0] rfl ?_
    exact hk0 _ (ho _ (Option.some.inj hf).symm)
  · refine r_aload_n 1 dX8_init_49 rfl rfl ?_
    refine r_iload 6 dX8_init_50 rfl ?_
    refine r_iload_n 3 dX8_init_52 rfl rfl ?_
    refine bnd hf (fun v9 ev9 hf => ?_)
    refine r_callSr dX8_init_53 cs_RX8_26 ww_462 (by decide) rfl (rest := []) rfl (Or.inl (Nat.le_of_ble_eq_true rfl)) (t_Sp_wordStart ev9) ?_
    refine r_istore (L' := [(8, _), (0, _), (1, _), (2, _), (3, _), (4, _), (5, _), (6, _), (7, _)]) dX8_init_56 (show 8 < 9 by decide) rfl ?_
    refine r_aload_n 2 dX8_init_58 rfl rfl ?_
    refine r_iload 0 dX8_init_59 rfl ?_
    refine r_iload_n 4 dX8_init_61 rfl rfl ?_
    refine bnd hf (fun v10 ev10 hf => ?_)
    refine r_callSr dX8_init_62 cs_RX8_31 ww_465 (by decide) rfl (rest := []) rfl (Or.inl (Nat.le_of_ble_eq_true rfl)) (t_Sp_wordEnd ev10) ?_
    refine r_istore (L' := [(6, _), (8, _), (0, _), (1, _), (2, _), (3, _), (4, _), (5, _), (7, _)]) dX8_init_65 (show 6 < 9 by decide) rfl ?_
    refine r_aload_n 2 dX8_init_67 rfl rfl ?_
    refine r_ldR hf dX8_init_68 fl_RX8_15 rfl (fun v11 ev11 hf => ?_)
    refine r_iload 8 dX8_init_71 rfl ?_
    refine r_iload 1 dX8_init_73 rfl ?_
    refine r_iload_n 4 dX8_init_75 rfl rfl ?_
    refine r_isub dX8_init_76 ?_
    refine r_waI hf dX8_init_77 (fun m12 em12 hf => ?_)
    refine r_aload_n 2 dX8_init_78 rfl rfl ?_
    refine r_ldR hf dX8_init_79 fl_RX8_19 rfl (fun v13 ev13 hf => ?_)
    refine r_iload 8 dX8_init_82 rfl ?_
    refine r_iload 0 dX8_init_84 rfl ?_
    refine r_iload 1 dX8_init_86 rfl ?_
    refine r_isub dX8_init_88 ?_
    refine r_waI hf dX8_init_89 (fun m14 em14 hf => ?_)
    refine r_aload_n 2 dX8_init_90 rfl rfl ?_
    refine r_ldR hf dX8_init_91 fl_RX8_22 rfl (fun v15 ev15 hf => ?_)
    refine r_iload 8 dX8_init_94 rfl ?_
    refine r_aload 6 dX8_init_96 rfl ?_
    refine r_aload_n 3 dX8_init_98 rfl rfl ?_
    refine r_iload 1 dX8_init_99 rfl ?_
    refine r_iload 0 dX8_init_101 rfl ?_
    refine r_iload 1 dX8_init_103 rfl ?_
    refine r_isub dX8_init_105 ?_
    refine r_chk hf (fun a16 xa16 ta16 hf => ?_)
    refine bnd hf (fun v17 ev17 hf => ?_)
    refine r_callVr (ci := 7) xa16 dX8_init_106 cs_RX8_34 ww_468 ww_469 (by decide) ta16 (by decide) rfl (rest := [_, _]) rfl (Or.inl (Nat.le_of_ble_eq_true rfl)) (t_Sp_termOf ev17) ?_
    refine r_waL hf dX8_init_109 (fun m18 em18 hf => ?_)
    refine r_iinc (1 : Int32) (L' := [(7, _), (6, _), (8, _), (0, _), (1, _), (2, _), (3, _), (4, _), (5, _)]) 8 dX8_init_110 rfl (by decide) (show 7 < 9 by decide) rfl ?_
    refine r_goto 42 dX8_init_113 (by decide) ?_
    refine r_sub (L' := [(0, _), (1, _), (2, _), (3, _), (4, _), (5, _), (6, _), (7, _)]) [3, 4, 5, 6, 7, 8, 1, 0] rfl ?_
    exact ih _ (Option.some.inj hf).symm
set_option maxRecDepth 100000 in
set_option maxHeartbeats 4000000 in
theorem t_Te_init {Γ : W0} {σ : Mem} {th : Nat} {x1 : Option Nat} {x2 : Int32} {x3 : Int32} {x4 : Option Nat} {σ' : Mem} (hf : Te_init σ th x1 x2 x3 x4 = some σ') : CT Γ MD_Te_init yX8_init [va_rf (some th), va_rf x1, .int x2, .int x3, va_rf x4] σ (none, σ') := by
  refine CT.of (L := [(0, va_rf (some th)), (1, va_rf x1), (2, .int x2), (3, .int x3), (4, va_rf x4)]) rfl (by decide) (fun _ => rfl) (by cases x1 <;> cases x4 <;> exact Nat.le_of_ble_eq_true rfl) (by cases x1 <;> cases x4 <;> rfl) ?_
  unfold Te_init at hf
  generalize hr : mkR Γ σ (none) σ' = r
  refine r_aload_n 0 dX8_init_0 rfl rfl ?_
  refine r_objInit dX8_init_1 ww_457 ww_115 ww_116 (by decide) (Nat.le_of_ble_eq_true rfl) ?_
  refine r_aload_n 1 dX8_init_4 rfl rfl ?_
  refine r_iload_n 2 dX8_init_5 rfl rfl ?_
  refine r_iload_n 3 dX8_init_6 rfl rfl ?_
  refine bnd hf (fun v1 ev1 hf => ?_)
  refine r_callSr dX8_init_7 cs_RX8_9 ww_459 (by decide) rfl (rest := []) rfl (Or.inl (Nat.le_of_ble_eq_true rfl)) (t_Te_countTokens ev1) ?_
  refine r_istore (i := 5) (L' := [(5, .int v1), (0, va_rf (some th)), (1, va_rf x1), (2, .int x2), (3, .int x3), (4, va_rf x4)]) dX8_init_10 (show 5 < 9 by decide) (by simp [List.filter, cat_rf, cat_i, cat_l]) ?_
  refine r_aload_n 1 dX8_init_12 rfl rfl ?_
  refine r_iload 0 dX8_init_13 rfl ?_
  refine r_newI hf dX8_init_15 ww_313 (fun m2 em2 hf => ?_)
  refine r_stRF hf dX8_init_17 fl_RX8_15 rfl rfl rfl rfl (fun m3 em3 hf => ?_)
  refine r_aload_n 1 dX8_init_20 rfl rfl ?_
  refine r_iload 0 dX8_init_21 rfl ?_
  refine r_newI hf dX8_init_23 ww_313 (fun m4 em4 hf => ?_)
  refine r_stRF hf dX8_init_25 fl_RX8_19 rfl rfl rfl rfl (fun m5 em5 hf => ?_)
  refine r_aload_n 1 dX8_init_28 rfl rfl ?_
  refine r_iload 0 dX8_init_29 rfl ?_
  refine r_newL hf dX8_init_31 ww_189 (fun m6 em6 hf => ?_)
  refine r_stRF hf dX8_init_33 fl_RX8_22 rfl rfl rfl rfl (fun m7 em7 hf => ?_)
  refine r_iload_n 3 dX8_init_36 rfl rfl ?_
  refine r_istore (L' := [(6, _), (5, _), (0, _), (1, _), (2, _), (3, _), (4, _)]) dX8_init_37 (show 6 < 9 by decide) rfl ?_
  refine r_iconst (0 : Int32) dX8_init_39 (by decide) ?_
  refine r_istore (L' := [(7, _), (6, _), (5, _), (0, _), (1, _), (2, _), (3, _), (4, _)]) dX8_init_40 (show 7 < 9 by decide) rfl ?_
  refine bnd hf (fun t19 et19 hf => ?_)
  refine r_sub (L' := [(0, _), (1, _), (2, _), (3, _), (4, _), (5, _), (6, _), (7, _)]) [3, 4, 5, 6, 7, 2, 1, 0] rfl ?_
  refine x_Te_init_l42 ?_ _ et19
  · intro z20 hz20
    subst hz20
    refine r_aload_n 0 dX8_init_116 rfl rfl ?_
    refine r_newX hf dX8_init_117 (by decide) ww_482 ww_483 ww_105 (fun m21 em21 hf => ?_)
    refine r_dup dX8_init_120 (cat_rf _) ?_
    refine r_aload_n 0 dX8_init_121 rfl rfl ?_
    refine r_ldR hf dX8_init_122 fl_RX8_22 rfl (fun v22 ev22 hf => ?_)
    refine r_clone hf dX8_init_125 ww_484 ww_485 ww_486 ww_487 ww_488 (by decide) (Nat.le_of_ble_eq_true rfl) (fun m23 em23 hf => ?_)
    refine r_castJ dX8_init_128 ww_490 (nwK_t em23) ?_
    refine bnd hf (fun v24 ev24 hf => ?_)
    refine r_callIv dX8_init_131 cs_RX8_45 rfl rfl ww_492 (by decide) rfl (rest := [_, _]) rfl (Or.inl (Nat.le_of_ble_eq_true rfl)) (t_Vo_init ev24) ?_
    refine r_stRF hf dX8_init_134 fl_RX8_48 rfl rfl rfl rfl (fun m25 em25 hf => ?_)
    exact r_vret rfl dX8_init_137 (by have h1 := (Option.some.inj hf); subst h1; exact hr.symm)
/-! SearchEngine$Text.startAt -/
noncomputable def Te_startAt (σ : Mem) (th : Nat) (x1 : Int32) : Option Int32 :=
  if x1 < 0 then
    some (-1 : Int32)
  else
    (ldR σ 8 0 (some th)).bind fun v2 =>
    (alen σ 0 v2).bind fun v3 =>
    if v3 ≤ x1 then
      some (-1 : Int32)
    else
      (ldR σ 8 0 (some th)).bind fun v5 =>
      (raI σ 0 v5 x1).bind fun v6 =>
      some v6
set_option maxRecDepth 100000 in
set_option maxHeartbeats 4000000 in
theorem t_Te_startAt {Γ : W0} {σ : Mem} {th : Nat} {x1 : Int32} {v : Int32} (hf : Te_startAt σ th x1 = some v) : CT Γ MD_Te_startAt yX8_startAt [va_rf (some th), .int x1] σ (some (.int v), σ) := by
  refine CT.of (L := [(0, va_rf (some th)), (1, .int x1)]) rfl (by decide) (fun h => Bool.noConfusion (show false = true from h)) (Nat.le_of_ble_eq_true rfl) rfl ?_
  unfold Te_startAt at hf
  generalize hr : mkR Γ σ (some (.int v)) σ = r
  refine r_iload_n 1 dX8_startAt_0 rfl rfl ?_
  refine r_if_lt 22 hf dX8_startAt_1 (by decide) (fun c1 hf => ?_) (fun c1 hf => ?_)
  · refine r_iconst (-1 : Int32) dX8_startAt_22 (by decide) ?_
    exact r_iret rfl dX8_startAt_23 (by have h1 := (Option.some.inj hf); subst h1; exact hr.symm)
  · refine r_iload_n 1 dX8_startAt_4 rfl rfl ?_
    refine r_aload_n 0 dX8_startAt_5 rfl rfl ?_
    refine r_ldR hf dX8_startAt_6 fl_RX8_15 rfl (fun v2 ev2 hf => ?_)
    refine r_alen hf dX8_startAt_9 (by decide) (fun v3 ev3 hf => ?_)
    refine r_icmp_ge 22 hf dX8_startAt_10 (by decide) (fun c4 hf => ?_) (fun c4 hf => ?_)
    · refine r_iconst (-1 : Int32) dX8_startAt_22 (by decide) ?_
      exact r_iret rfl dX8_startAt_23 (by have h1 := (Option.some.inj hf); subst h1; exact hr.symm)
    · refine r_aload_n 0 dX8_startAt_13 rfl rfl ?_
      refine r_ldR hf dX8_startAt_14 fl_RX8_15 rfl (fun v5 ev5 hf => ?_)
      refine r_iload_n 1 dX8_startAt_17 rfl rfl ?_
      refine r_raI hf dX8_startAt_18 (fun v6 ev6 hf => ?_)
      refine r_goto 23 dX8_startAt_19 (by decide) ?_
      exact r_iret rfl dX8_startAt_23 (by have h1 := (Option.some.inj hf); subst h1; exact hr.symm)
