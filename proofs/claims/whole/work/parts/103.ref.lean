/-! methods as functions, with their walks (by program) -/
/-! SearchEngineModel.rare -/
noncomputable def M_rare_l14 (R : RS) (x3 : Int32) (x4 : Int32) : Option (Int32 ⊕ Int32) :=
  (rdI R 17 4 (R.1 0 63)).bind fun v2 =>
  if (shrI v2 (x4 + (1 : Int32))) < x3 then
    some (Sum.inr x4)
  else
    some (Sum.inl (x4 + (1 : Int32)))
noncomputable def M_rare (R : RS) (x1 : Int32) (x2 : Int32) : Option Int32 :=
  (M_df R (R.1 0 63) x1 x2).bind fun v1 =>
  (lp (fun q => M_rare_l14 R v1 q) (0 : Int32)).bind fun z5 =>
  some ((1 : Int32) + z5)
set_option maxRecDepth 100000 in
set_option maxHeartbeats 4000000 in
theorem x_M_rare_l14 {Γ : W0} {σ0 : Mem} {r : RT} {τ : Mem} {B : Nat} {R : RS} {x3 : Int32} {t : Int32} (hB : RB τ B) (hk0 : ∀ z : Int32, z = t → V Γ MD_M_rare σ0 r (emb τ B R) 38 [(4, .int z)] []) : ∀ q : Int32, lp (fun q => M_rare_l14 R x3 q) q = some t → V Γ MD_M_rare σ0 r (emb τ B R) 14 [(0, va_rf (some B)), (3, .int x3), (4, .int q)] [] := by
  refine lp_ind (fun (q : Int32) => V Γ MD_M_rare σ0 r (emb τ B R) 14 [(0, va_rf (some B)), (3, .int x3), (4, .int q)] []) (fun q x hf ih ho => ?_)
  revert hf ih
  generalize q = x4
  intro hf ih
  show V Γ MD_M_rare σ0 r (emb τ B R) 14 [(0, va_rf (some B)), (3, .int x3), (4, .int x4)] []
  replace hf : M_rare_l14 R x3 x4 = some x := hf
  unfold M_rare_l14 at hf
  refine r_aload_n 0 dX12_rare_14 rfl rfl ?_
  refine rr_ldR (c := 17) hB dX12_rare_15 fl_RX12_63 rfl rfl (by decide) ?_
  refine r_aload_n 0 dX12_rare_18 rfl rfl ?_
  refine rr_ldI (k := 63) hB dX12_rare_19 fl_RX12_331 rfl ?_
  refine rr_raI hf hB dX12_rare_22 (by decide) rfl (fun v2 ev2 hf => ?_)
  refine r_iload 2 dX12_rare_23 rfl ?_
  refine r_iconst (1 : Int32) dX12_rare_25 (by decide) ?_
  refine r_iadd dX12_rare_26 ?_
  refine r_ishr dX12_rare_27 ?_
  refine r_iload_n 1 dX12_rare_28 rfl rfl ?_
  refine r_icmp_lt 38 hf dX12_rare_29 (by decide) (fun c3 hf => ?_) (fun c3 hf => ?_)
  · refine r_sub (L' := [(4, _)]) [2] rfl ?_
    exact hk0 _ (ho _ (Option.some.inj hf).symm)
  · refine r_iinc (1 : Int32) (L' := [(4, _), (0, _), (3, _)]) 2 dX12_rare_32 rfl (by decide) (show 4 < 5 by decide) rfl ?_
    refine r_goto 14 dX12_rare_35 (by decide) ?_
    refine r_sub (L' := [(0, _), (3, _), (4, _)]) [1, 2, 0] rfl ?_
    exact ih _ (Option.some.inj hf).symm
set_option maxRecDepth 100000 in
set_option maxHeartbeats 4000000 in
theorem t_M_rare {Γ : W0} {τ : Mem} {B : Nat} {R : RS} {x1 : Int32} {x2 : Int32} {v : Int32} (hB : RB τ B) (hf : M_rare R x1 x2 = some v) : CT Γ MD_M_rare yX12_rare [va_rf (some B), .int x1, .int x2] (emb τ B R) (some (.int v), (emb τ B R)) := by
  refine CT.of (L := [(0, va_rf (some B)), (1, .int x1), (2, .int x2)]) rfl (by decide) (fun h => Bool.noConfusion (show false = true from h)) (Nat.le_of_ble_eq_true rfl) rfl ?_
  unfold M_rare at hf
  generalize hr : mkR Γ (emb τ B R) (some (.int v)) (emb τ B R) = r
  refine r_aload_n 0 dX12_rare_0 rfl rfl ?_
  refine r_aload_n 0 dX12_rare_1 rfl rfl ?_
  refine rr_ldI (k := 63) hB dX12_rare_2 fl_RX12_331 rfl ?_
  refine r_iload_n 1 dX12_rare_5 rfl rfl ?_
  refine r_iload_n 2 dX12_rare_6 rfl rfl ?_
  refine bnd hf (fun v1 ev1 hf => ?_)
  refine r_callVr (ci := 12) rfl dX12_rare_7 cs_RX12_334 ww_1428 ww_71 (by decide) (hB.t0 _) (by decide) rfl (rest := []) rfl (Or.inl (Nat.le_of_ble_eq_true rfl)) (t_M_df hB ev1) ?_
  refine r_istore_n (L' := [(3, _), (0, _), (1, _), (2, _)]) dX12_rare_10 rfl (show 3 < 5 by decide) rfl ?_
  refine r_iconst (0 : Int32) dX12_rare_11 (by decide) ?_
  refine r_istore (L' := [(4, _), (3, _), (0, _), (1, _), (2, _)]) dX12_rare_12 (show 4 < 5 by decide) rfl ?_
  refine bnd hf (fun t4 et4 hf => ?_)
  refine r_sub (L' := [(0, _), (3, _), (4, _)]) [2, 1, 0] rfl ?_
  refine x_M_rare_l14 hB ?_ _ et4
  · intro z5 hz5
    subst hz5
    refine r_iconst (1 : Int32) dX12_rare_38 (by decide) ?_
    refine r_iload 0 dX12_rare_39 rfl ?_
    refine r_iadd dX12_rare_41 ?_
    exact r_iret rfl dX12_rare_42 (by have h1 := (Option.some.inj hf); subst h1; exact hr.symm)
/-! SearchEngineModel.least -/
noncomputable def M_least (x0 : Int64) : Option Int32 :=
  if x0 ≤ (1000000000 : Int64) then
    some x0.toInt32
  else
    some (1000000000 : Int32)
set_option maxRecDepth 100000 in
set_option maxHeartbeats 4000000 in
theorem t_M_least {Γ : W0} {σ : Mem} {x0 : Int64} {v : Int32} (hf : M_least x0 = some v) : CT Γ MD_M_least yX12_least [.long x0] σ (some (.int v), σ) := by
  refine CT.of (L := [(0, .long x0)]) rfl (by decide) (fun h => Bool.noConfusion (show false = true from h)) (Nat.le_of_ble_eq_true rfl) rfl ?_
  unfold M_least at hf
  generalize hr : mkR Γ σ (some (.int v)) σ = r
  refine r_lload_n 0 dX12_least_0 rfl rfl ?_
  refine r_ldc2 (1000000000 : Int64) dX12_least_1 ww_1438 ?_
  refine r_lcmp_le 14 hf dX12_least_4 dX12_least_5 (by decide) (fun c1 hf => ?_) (fun c1 hf => ?_)
  · refine r_lload_n 0 dX12_least_14 rfl rfl ?_
    refine r_l2i dX12_least_15 ?_
    exact r_iret rfl dX12_least_16 (by have h1 := (Option.some.inj hf); subst h1; exact hr.symm)
  · refine r_ldcw (1000000000 : Int32) dX12_least_8 ww_1439 ?_
    refine r_goto 16 dX12_least_11 (by decide) ?_
    exact r_iret rfl dX12_least_16 (by have h1 := (Option.some.inj hf); subst h1; exact hr.symm)
/-! SearchEngineModel.score -/
noncomputable def M_score (R : RS) (x1 : Int32) (x2 : Int32) (x3 : Int32) (x4 : Int32) : Option Int32 :=
  (M_least ((64 : Int64) * x3.toInt64)).bind fun v1 =>
  (M_least (v1.toInt64 * x4.toInt64)).bind fun v2 =>
  Option.bind (
    if ¬ x2 = 0 then
      some (1 : Int64)
    else
      some (3 : Int64)) fun q3 =>
  (M_least (v2.toInt64 * q3)).bind fun v5 =>
  (rdI R 6 800 (((2 : Int32) * x1) + x2)).bind fun v6 =>
  (divL v5.toInt64 (((8 : Int32) + v6).toInt64)).bind fun v7 =>
  some v7.toInt32
set_option maxRecDepth 100000 in
set_option maxHeartbeats 4000000 in
theorem t_M_score {Γ : W0} {τ : Mem} {B : Nat} {R : RS} {x1 : Int32} {x2 : Int32} {x3 : Int32} {x4 : Int32} {v : Int32} (hB : RB τ B) (hf : M_score R x1 x2 x3 x4 = some v) : CT Γ MD_M_score yX12_score [va_rf (some B), .int x1, .int x2, .int x3, .int x4] (emb τ B R) (some (.int v), (emb τ B R)) := by
  refine CT.of (L := [(0, va_rf (some B)), (1, .int x1), (2, .int x2), (3, .int x3), (4, .int x4)]) rfl (by decide) (fun h => Bool.noConfusion (show false = true from h)) (Nat.le_of_ble_eq_true rfl) rfl ?_
  unfold M_score at hf
  generalize hr : mkR Γ (emb τ B R) (some (.int v)) (emb τ B R) = r
  refine r_ldc2 (64 : Int64) dX12_score_0 ww_1434 ?_
  refine r_iload_n 3 dX12_score_3 rfl rfl ?_
  refine r_i2l dX12_score_4 ?_
  refine r_lmul dX12_score_5 ?_
  refine bnd hf (fun v1 ev1 hf => ?_)
  refine r_callSr dX12_score_6 cs_RX12_342 ww_1436 (by decide) rfl (rest := []) rfl (Or.inl (Nat.le_of_ble_eq_true rfl)) (t_M_least ev1) ?_
  refine r_i2l dX12_score_9 ?_
  refine r_iload 4 dX12_score_10 rfl ?_
  refine r_i2l dX12_score_12 ?_
  refine r_lmul dX12_score_13 ?_
  refine bnd hf (fun v2 ev2 hf => ?_)
  refine r_callSr dX12_score_14 cs_RX12_342 ww_1436 (by decide) rfl (rest := []) rfl (Or.inl (Nat.le_of_ble_eq_true rfl)) (t_M_least ev2) ?_
  refine r_i2l dX12_score_17 ?_
  refine r_iload_n 2 dX12_score_18 rfl rfl ?_
  refine r_bd (fun (q3 : Int64) => V Γ MD_M_score (emb τ B R) r (emb τ B R) 29 [(0, va_rf (some B)), (1, .int x1), (2, .int x2)] [.long q3, .long v2.toInt64]) hf (fun q3 hf => ?_) (fun yq3 hf kq3 => ?_)
  · refine r_lmul dX12_score_29 ?_
    refine bnd hf (fun v5 ev5 hf => ?_)
    refine r_callSr dX12_score_30 cs_RX12_342 ww_1436 (by decide) rfl (rest := []) rfl (Or.inl (Nat.le_of_ble_eq_true rfl)) (t_M_least ev5) ?_
    refine r_i2l dX12_score_33 ?_
    refine r_lstore (L' := [(5, _), (0, _), (1, _), (2, _)]) dX12_score_34 (show 6 < 7 by decide) rfl ?_
    refine r_lload 0 dX12_score_36 rfl ?_
    refine r_bipush (8 : Int32) dX12_score_38 (by decide) ?_
    refine r_aload_n 1 dX12_score_40 rfl rfl ?_
    refine rr_ldR (c := 6) hB dX12_score_41 fl_RX12_27 rfl rfl (by decide) ?_
    refine r_iconst (2 : Int32) dX12_score_44 (by decide) ?_
    refine r_iload_n 2 dX12_score_45 rfl rfl ?_
    refine r_imul dX12_score_46 ?_
    refine r_iload_n 3 dX12_score_47 rfl rfl ?_
    refine r_iadd dX12_score_48 ?_
    refine rr_raI hf hB dX12_score_49 (by decide) rfl (fun v6 ev6 hf => ?_)
    refine r_iadd dX12_score_50 ?_
    refine r_i2l dX12_score_51 ?_
    refine r_divL hf dX12_score_52 (fun v7 ev7 hf => ?_)
    refine r_l2i dX12_score_53 ?_
    exact r_iret rfl dX12_score_54 (by have h1 := (Option.some.inj hf); subst h1; exact hr.symm)
  · refine r_if_ne 28 hf dX12_score_19 (by decide) (fun c4 hf => ?_) (fun c4 hf => ?_)
    · refine r_lconst (1 : Int64) dX12_score_28 (by decide) ?_
      refine r_sub (L' := [(0, _), (1, _), (2, _)]) [0, 1, 2] rfl ?_
      cases (Option.some.inj hf)
      exact kq3
    · refine r_ldc2 (3 : Int64) dX12_score_22 ww_1440 ?_
      refine r_goto 29 dX12_score_25 (by decide) ?_
      refine r_sub (L' := [(0, _), (1, _), (2, _)]) [0, 1, 2] rfl ?_
      cases (Option.some.inj hf)
      exact kq3
/-! SearchEngineModel.come -/
noncomputable def M_come (R : RS) (x1 : Int32) : Option RS :=
  (some (pB R 64 true)).bind fun R1 =>
  (M_least ((R1.2.1 0 65) + x1.toInt64)).bind fun v2 =>
  (some (pL R1 65 v2.toInt64)).bind fun R3 =>
  some R3
set_option maxRecDepth 100000 in
set_option maxHeartbeats 4000000 in
theorem t_M_come {Γ : W0} {τ : Mem} {B : Nat} {R : RS} {x1 : Int32} {R' : RS} (hB : RB τ B) (hf : M_come R x1 = some R') : CT Γ MD_M_come yX12_come [va_rf (some B), .int x1] (emb τ B R) (none, (emb τ B R')) := by
  refine CT.of (L := [(0, va_rf (some B)), (1, .int x1)]) rfl (by decide) (fun h => Bool.noConfusion (show false = true from h)) (Nat.le_of_ble_eq_true rfl) rfl ?_
  unfold M_come at hf
  generalize hr : mkR Γ (emb τ B R) (none) (emb τ B R') = r
  refine r_aload_n 0 dX12_come_0 rfl rfl ?_
  refine r_iconst (b2i true) dX12_come_1 rfl ?_
  refine rr_stB hf hB dX12_come_2 fl_RX12_347 rfl rfl (fun R1 eR1 hf => ?_)
  refine r_aload_n 0 dX12_come_5 rfl rfl ?_
  refine r_aload_n 0 dX12_come_6 rfl rfl ?_
  refine rr_ldL (k := 65) hB dX12_come_7 fl_RX12_350 rfl ?_
  refine r_iload_n 1 dX12_come_10 rfl rfl ?_
  refine r_i2l dX12_come_11 ?_
  refine r_ladd dX12_come_12 ?_
  refine bnd hf (fun v2 ev2 hf => ?_)
  refine r_callSr dX12_come_13 cs_RX12_342 ww_1436 (by decide) rfl (rest := [_]) rfl (Or.inl (Nat.le_of_ble_eq_true rfl)) (t_M_least ev2) ?_
  refine r_i2l dX12_come_16 ?_
  refine rr_stL hf hB dX12_come_17 fl_RX12_350 rfl rfl (fun R3 eR3 hf => ?_)
  exact r_vret rfl dX12_come_20 (by have h1 := (Option.some.inj hf); subst h1; exact hr.symm)
/-! SearchEngineModel.matchWord -/
noncomputable def M_matchWord_l25 (R : RS) (x1 : Int32) (x2 : Int32) (x3 : Int32) (x4 : Int32) : Option ((Int32 × RS) ⊕ RS) :=
  if (2 : Int32) ≤ x4 then
    some (Sum.inr R)
  else
    (rdI R 30 400 x2).bind fun v5 =>
    Option.bind (
      jn (
        if v5 = (-1 : Int32) then
          some (Sum.inr ())
        else
          (rdI R 30 400 x2).bind fun v9 =>
          if v9 = x4 then
            some (Sum.inr ())
          else
            some (Sum.inl R)) fun q7 =>
      (M_tf R x1 x4 x3).bind fun v11 =>
      if v11 ≤ 0 then
        some R
      else
        (M_rare R x4 x3).bind fun v13 =>
        (M_score R x1 x4 v11 v13).bind fun v14 =>
        (M_come R v14).bind fun v15 =>
        some v15) fun q6 =>
    some (Sum.inl ((x4 + (1 : Int32)), q6))
noncomputable def M_matchWord (R : RS) (x1 : Int32) (x2 : Int32) : Option RS :=
  (rdI R 31 400 x2).bind fun v1 =>
  (rdI R 33 400 v1).bind fun v2 =>
  if ¬ v2 = 0 then
    (lp (fun q => M_matchWord_l25 q.2 x1 x2 v1 q.1) ((0 : Int32), R)).bind fun z17 =>
    some z17
  else
    (some (pB R 64 true)).bind fun R18 =>
    some R18
set_option maxRecDepth 100000 in
set_option maxHeartbeats 4000000 in
theorem x_M_matchWord_l25 {Γ : W0} {σ0 : Mem} {r : RT} {τ : Mem} {B : Nat} {x1 : Int32} {x2 : Int32} {x3 : Int32} {t : RS} (hB : RB τ B) (hk0 : ∀ z : RS, z = t → V Γ MD_M_matchWord σ0 r (emb τ B z) 96 [] []) : ∀ q : Int32 × RS, lp (fun q => M_matchWord_l25 q.2 x1 x2 x3 q.1) q = some t → V Γ MD_M_matchWord σ0 r (emb τ B q.2) 25 [(0, va_rf (some B)), (1, .int x1), (2, .int x2), (3, .int x3), (4, .int q.1)] [] := by
  refine lp_ind (fun (q : Int32 × RS) => V Γ MD_M_matchWord σ0 r (emb τ B q.2) 25 [(0, va_rf (some B)), (1, .int x1), (2, .int x2), (3, .int x3), (4, .int q.1)] []) (fun q x hf ih ho => ?_)
  obtain ⟨x4, R⟩ := q
  show V Γ MD_M_matchWord σ0 r (emb τ B R) 25 [(0, va_rf (some B)), (1, .int x1), (2, .int x2), (3, .int x3), (4, .int x4)] []
  replace hf : M_matchWord_l25 R x1 x2 x3 x4 = some x := hf
  unfold M_matchWord_l25 at hf
  refine r_iload 4 dX12_matchWord_25 rfl ?_
  refine r_iconst (2 : Int32) dX12_matchWord_27 (by decide) ?_
  refine r_icmp_ge 96 hf dX12_matchWord_28 (by decide) (fun c4 hf => ?_) (fun c4 hf => ?_)
  · refine r_sub (L' := []) [] rfl ?_
    exact hk0 _ (ho _ (Option.some.inj hf).symm)
  · refine r_aload_n 0 dX12_matchWord_31 rfl rfl ?_
    refine rr_ldR (c := 30) hB dX12_matchWord_32 fl_RX12_109 rfl rfl (by decide) ?_
    refine r_iload_n 2 dX12_matchWord_35 rfl rfl ?_
    refine rr_raI hf hB dX12_matchWord_36 (by decide) rfl (fun v5 ev5 hf => ?_)
    refine r_iconst (-1 : Int32) dX12_matchWord_37 (by decide) ?_
    refine r_bd (fun (q6 : RS) => V Γ MD_M_matchWord σ0 r (emb τ B q6) 90 [(0, va_rf (some B)), (1, .int x1), (2, .int x2), (3, .int x3), (4, .int x4)] []) hf (fun q6 hf => ?_) (fun yq6 hf kq6 => ?_)
    · refine r_iinc (1 : Int32) (L' := [(4, _), (0, _), (1, _), (2, _), (3, _)]) 4 dX12_matchWord_90 rfl (by decide) (show 4 < 6 by decide) rfl ?_
      refine r_goto 25 dX12_matchWord_93 (by decide) ?_
      refine r_sub (L' := [(0, _), (1, _), (2, _), (3, _), (4, _)]) [1, 2, 3, 4, 0] rfl ?_
      exact ih _ (Option.some.inj hf).symm
    · refine r_jn (fun (q7 : Unit) => V Γ MD_M_matchWord σ0 r (emb τ B R) 55 [(0, va_rf (some B)), (1, .int x1), (2, .int x2), (3, .int x3), (4, .int x4)] []) hf (fun q7 hf => ?_) (fun yq7 hf oq7 kq7 => ?_)
      · refine r_aload_n 0 dX12_matchWord_55 rfl rfl ?_
        refine r_iload_n 1 dX12_matchWord_56 rfl rfl ?_
        refine r_iload 4 dX12_matchWord_57 rfl ?_
        refine r_iload_n 3 dX12_matchWord_59 rfl rfl ?_
        refine bnd hf (fun v11 ev11 hf => ?_)
        refine r_callVr (ci := 12) rfl dX12_matchWord_60 cs_RX12_327 ww_1416 ww_68 (by decide) (hB.t0 _) (by decide) rfl (rest := []) rfl (Or.inl (Nat.le_of_ble_eq_true rfl)) (t_M_tf hB ev11) ?_
        refine r_istore (L' := [(5, _), (0, _), (1, _), (2, _), (3, _), (4, _)]) dX12_matchWord_63 (show 5 < 6 by decide) rfl ?_
        refine r_iload 0 dX12_matchWord_65 rfl ?_
        refine r_if_le 90 hf dX12_matchWord_67 (by decide) (fun c12 hf => ?_) (fun c12 hf => ?_)
        · refine r_sub (L' := [(0, _), (1, _), (2, _), (3, _), (4, _)]) [1, 2, 3, 4, 5] rfl ?_
          cases (Option.some.inj hf)
          exact kq6
        · refine r_aload_n 1 dX12_matchWord_70 rfl rfl ?_
          refine r_aload_n 1 dX12_matchWord_71 rfl rfl ?_
          refine r_iload_n 2 dX12_matchWord_72 rfl rfl ?_
          refine r_iload 5 dX12_matchWord_73 rfl ?_
          refine r_iload 0 dX12_matchWord_75 rfl ?_
          refine r_aload_n 1 dX12_matchWord_77 rfl rfl ?_
          refine r_iload 5 dX12_matchWord_78 rfl ?_
          refine r_iload_n 4 dX12_matchWord_80 rfl rfl ?_
          refine bnd hf (fun v13 ev13 hf => ?_)
          refine r_callVr (ci := 12) rfl dX12_matchWord_81 cs_RX12_354 ww_1424 ww_70 (by decide) (hB.t0 _) (by decide) rfl (rest := [_, _, _, _, _]) rfl (Or.inr (Nat.le_of_ble_eq_true rfl)) (t_M_rare hB ev13) ?_
          refine bnd hf (fun v14 ev14 hf => ?_)
          refine r_callVr (ci := 12) rfl dX12_matchWord_84 cs_RX12_357 ww_1432 ww_72 (by decide) (hB.t0 _) (by decide) rfl (rest := [_]) rfl (Or.inl (Nat.le_of_ble_eq_true rfl)) (t_M_score hB ev14) ?_
          refine bnd hf (fun v15 ev15 hf => ?_)
          refine r_callVv (ci := 12) rfl dX12_matchWord_87 cs_RX12_361 ww_1443 ww_73 (by decide) (hB.t0 _) (by decide) rfl (rest := []) rfl (Or.inl (Nat.le_of_ble_eq_true rfl)) (t_M_come hB ev15) ?_
          refine r_sub (L' := [(0, _), (1, _), (2, _), (3, _), (4, _)]) [1, 2, 3, 4, 5] rfl ?_
          cases (Option.some.inj hf)
          exact kq6
      · refine r_icmp_eq 55 hf dX12_matchWord_38 (by decide) (fun c8 hf => ?_) (fun c8 hf => ?_)
        · refine r_sub (L' := [(0, _), (1, _), (2, _), (3, _), (4, _)]) [0, 1, 2, 3, 4] rfl ?_
          exact kq7 _ (Option.some.inj hf).symm
        · refine r_aload_n 0 dX12_matchWord_41 rfl rfl ?_
          refine rr_ldR (c := 30) hB dX12_matchWord_42 fl_RX12_109 rfl rfl (by decide) ?_
          refine r_iload_n 2 dX12_matchWord_45 rfl rfl ?_
          refine rr_raI hf hB dX12_matchWord_46 (by decide) rfl (fun v9 ev9 hf => ?_)
          refine r_iload 4 dX12_matchWord_47 rfl ?_
          refine r_icmp_eq 55 hf dX12_matchWord_49 (by decide) (fun c10 hf => ?_) (fun c10 hf => ?_)
          · refine r_sub (L' := [(0, _), (1, _), (2, _), (3, _), (4, _)]) [0, 1, 2, 3, 4] rfl ?_
            exact kq7 _ (Option.some.inj hf).symm
          · refine r_goto 90 dX12_matchWord_52 (by decide) ?_
            refine r_sub (L' := [(0, _), (1, _), (2, _), (3, _), (4, _)]) [0, 1, 2, 3, 4] rfl ?_
            cases (oq7 _ (Option.some.inj hf).symm)
            exact kq6
set_option maxRecDepth 100000 in
set_option maxHeartbeats 4000000 in
theorem t_M_matchWord {Γ : W0} {τ : Mem} {B : Nat} {R : RS} {x1 : Int32} {x2 : Int32} {R' : RS} (hB : RB τ B) (hf : M_matchWord R x1 x2 = some R') : CT Γ MD_M_matchWord yX12_matchWord [va_rf (some B), .int x1, .int x2] (emb τ B R) (none, (emb τ B R')) := by
  refine CT.of (L := [(0, va_rf (some B)), (1, .int x1), (2, .int x2)]) rfl (by decide) (fun h => Bool.noConfusion (show false = true from h)) (Nat.le_of_ble_eq_true rfl) rfl ?_
  unfold M_matchWord at hf
  generalize hr : mkR Γ (emb τ B R) (none) (emb τ B R') = r
  refine r_aload_n 0 dX12_matchWord_0 rfl rfl ?_
  refine rr_ldR (c := 31) hB dX12_matchWord_1 fl_RX12_112 rfl rfl (by decide) ?_
  refine r_iload_n 2 dX12_matchWord_4 rfl rfl ?_
  refine rr_raI hf hB dX12_matchWord_5 (by decide) rfl (fun v1 ev1 hf => ?_)
  refine r_istore_n (L' := [(3, _), (0, _), (1, _), (2, _)]) dX12_matchWord_6 rfl (show 3 < 6 by decide) rfl ?_
  refine r_aload_n 1 dX12_matchWord_7 rfl rfl ?_
  refine rr_ldR (c := 33) hB dX12_matchWord_8 fl_RX12_118 rfl rfl (by decide) ?_
  refine r_iload_n 0 dX12_matchWord_11 rfl rfl ?_
  refine rr_raI hf hB dX12_matchWord_12 (by decide) rfl (fun v2 ev2 hf => ?_)
  refine r_if_ne 22 hf dX12_matchWord_13 (by decide) (fun c3 hf => ?_) (fun c3 hf => ?_)
  · refine r_iconst (0 : Int32) dX12_matchWord_22 (by decide) ?_
    refine r_istore (L' := [(4, _), (3, _), (0, _), (1, _), (2, _)]) dX12_matchWord_23 (show 4 < 6 by decide) rfl ?_
    refine bnd hf (fun t16 et16 hf => ?_)
    refine r_sub (L' := [(0, _), (1, _), (2, _), (3, _), (4, _)]) [2, 3, 4, 1, 0] rfl ?_
    refine x_M_matchWord_l25 hB ?_ _ et16
    · intro z17 hz17
      subst hz17
      exact r_vret rfl dX12_matchWord_96 (by have h1 := (Option.some.inj hf); subst h1; exact hr.symm)
  · refine r_aload_n 1 dX12_matchWord_16 rfl rfl ?_
    refine r_iconst (b2i true) dX12_matchWord_17 rfl ?_
    refine rr_stB hf hB dX12_matchWord_18 fl_RX12_347 rfl rfl (fun R18 eR18 hf => ?_)
    exact r_vret rfl dX12_matchWord_21 (by have h1 := (Option.some.inj hf); subst h1; exact hr.symm)
/-! SearchEngineModel.matchStarts -/
noncomputable def M_matchStarts_l36 (R : RS) (x1 : Int32) (x2 : Int32) (x3 : Int32) (x4 : Int32) (x5 : Int32) : Option ((Int32 × Int32) ⊕ Int32) :=
  (rdI R 6 800 (((2 : Int32) * x1) + x3)).bind fun v8 =>
  if v8 ≤ x5 then
    some (Sum.inr x4)
  else
    Option.bind (
      if ¬ x4 = 0 then
        some (1 : Int32)
      else
        (M_base x1 x3).bind fun v12 =>
        (rdI R 31 400 x2).bind fun v13 =>
        (M_begins R (v12 + x5) v13).bind fun v14 =>
        if v14 = true then
          some (1 : Int32)
        else
          some (0 : Int32)) fun q10 =>
    some (Sum.inl (q10, (x5 + (1 : Int32))))
noncomputable def M_matchStarts_l2 (R : RS) (x1 : Int32) (x2 : Int32) (x3 : Int32) : Option ((Int32 × RS) ⊕ RS) :=
  if (2 : Int32) ≤ x3 then
    some (Sum.inr R)
  else
    (rdI R 30 400 x2).bind fun v2 =>
    Option.bind (
      jn (
        if v2 = (-1 : Int32) then
          some (Sum.inr ())
        else
          (rdI R 30 400 x2).bind fun v6 =>
          if v6 = x3 then
            some (Sum.inr ())
          else
            some (Sum.inl R)) fun q4 =>
      (lp (fun q => M_matchStarts_l36 R x1 x2 x3 q.1 q.2) ((0 : Int32), (0 : Int32))).bind fun z17 =>
      if z17 = 0 then
        some R
      else
        Option.bind (
          if ¬ x3 = 0 then
            some (16 : Int32)
          else
            some (48 : Int32)) fun q19 =>
        (M_come R q19).bind fun v21 =>
        some v21) fun q3 =>
    some (Sum.inl ((x3 + (1 : Int32)), q3))
noncomputable def M_matchStarts (R : RS) (x1 : Int32) (x2 : Int32) : Option RS :=
  (lp (fun q => M_matchStarts_l2 q.2 x1 x2 q.1) ((0 : Int32), R)).bind fun z23 =>
  some z23
set_option maxRecDepth 100000 in
set_option maxHeartbeats 4000000 in
theorem x_M_matchStarts_l36 {Γ : W0} {σ0 : Mem} {r : RT} {τ : Mem} {B : Nat} {R : RS} {x1 : Int32} {x2 : Int32} {x3 : Int32} {t : Int32} (hB : RB τ B) (hk0 : ∀ z : Int32, z = t → V Γ MD_M_matchStarts σ0 r (emb τ B R) 90 [(0, va_rf (some B)), (1, .int x1), (2, .int x2), (3, .int x3), (4, .int z)] []) : ∀ q : Int32 × Int32, lp (fun q => M_matchStarts_l36 R x1 x2 x3 q.1 q.2) q = some t → V Γ MD_M_matchStarts σ0 r (emb τ B R) 36 [(0, va_rf (some B)), (1, .int x1), (2, .int x2), (3, .int x3), (4, .int q.1), (5, .int q.2)] [] := by
  refine lp_ind (fun (q : Int32 × Int32) => V Γ MD_M_matchStarts σ0 r (emb τ B R) 36 [(0, va_rf (some B)), (1, .int x1), (2, .int x2), (3, .int x3), (4, .int q.1), (5, .int q.2)] []) (fun q x hf ih ho => ?_)
  obtain ⟨x4, x5⟩ := q
  show V Γ MD_M_matchStarts σ0 r (emb τ B R) 36 [(0, va_rf (some B)), (1, .int x1), (2, .int x2), (3, .int x3), (4, .int x4), (5, .int x5)] []
  replace hf : M_matchStarts_l36 R x1 x2 x3 x4 x5 = some x := hf
  unfold M_matchStarts_l36 at hf
  refine r_iload 5 dX12_matchStarts_36 rfl ?_
  refine r_aload_n 0 dX12_matchStarts_38 rfl rfl ?_
  refine rr_ldR (c := 6) hB dX12_matchStarts_39 fl_RX12_27 rfl rfl (by decide) ?_
  refine r_iconst (2 : Int32) dX12_matchStarts_42 (by decide) ?_
  refine r_iload_n 1 dX12_matchStarts_43 rfl rfl ?_
  refine r_imul dX12_matchStarts_44 ?_
  refine r_iload_n 3 dX12_matchStarts_45 rfl rfl ?_
  refine r_iadd dX12_matchStarts_46 ?_
  refine rr_raI hf hB dX12_matchStarts_47 (by decide) rfl (fun v8 ev8 hf => ?_)
  refine r_icmp_ge 90 hf dX12_matchStarts_48 (by decide) (fun c9 hf => ?_) (fun c9 hf => ?_)
  · refine r_sub (L' := [(0, _), (1, _), (2, _), (3, _), (4, _)]) [0, 1, 2, 3, 4] rfl ?_
    exact hk0 _ (ho _ (Option.some.inj hf).symm)
  · refine r_iload 4 dX12_matchStarts_51 rfl ?_
    refine r_bd (fun (q10 : Int32) => V Γ MD_M_matchStarts σ0 r (emb τ B R) 82 [(0, va_rf (some B)), (1, .int x1), (2, .int x2), (3, .int x3), (5, .int x5)] [.int q10]) hf (fun q10 hf => ?_) (fun yq10 hf kq10 => ?_)
    · refine r_istore (L' := [(4, _), (0, _), (1, _), (2, _), (3, _), (5, _)]) dX12_matchStarts_82 (show 4 < 6 by decide) rfl ?_
      refine r_iinc (1 : Int32) (L' := [(5, _), (4, _), (0, _), (1, _), (2, _), (3, _)]) 5 dX12_matchStarts_84 rfl (by decide) (show 5 < 6 by decide) rfl ?_
      refine r_goto 36 dX12_matchStarts_87 (by decide) ?_
      refine r_sub (L' := [(0, _), (1, _), (2, _), (3, _), (4, _), (5, _)]) [2, 3, 4, 5, 1, 0] rfl ?_
      exact ih _ (Option.some.inj hf).symm
    · refine r_if_ne 77 hf dX12_matchStarts_53 (by decide) (fun c11 hf => ?_) (fun c11 hf => ?_)
      · refine r_iconst (1 : Int32) dX12_matchStarts_77 (by decide) ?_
        refine r_goto 82 dX12_matchStarts_78 (by decide) ?_
        refine r_sub (L' := [(0, _), (1, _), (2, _), (3, _), (5, _)]) [0, 1, 2, 3, 5] rfl ?_
        cases (Option.some.inj hf)
        exact kq10
      · refine r_aload_n 0 dX12_matchStarts_56 rfl rfl ?_
        refine r_iload_n 1 dX12_matchStarts_57 rfl rfl ?_
        refine r_iload_n 3 dX12_matchStarts_58 rfl rfl ?_
        refine bnd hf (fun v12 ev12 hf => ?_)
        refine r_callSr dX12_matchStarts_59 cs_RX12_189 ww_1276 (by decide) rfl (rest := [_]) rfl (Or.inl (Nat.le_of_ble_eq_true rfl)) (t_M_base ev12) ?_
        refine r_iload 5 dX12_matchStarts_62 rfl ?_
        refine r_iadd dX12_matchStarts_64 ?_
        refine r_aload_n 0 dX12_matchStarts_65 rfl rfl ?_
        refine rr_ldR (c := 31) hB dX12_matchStarts_66 fl_RX12_112 rfl rfl (by decide) ?_
        refine r_iload_n 2 dX12_matchStarts_69 rfl rfl ?_
        refine rr_raI hf hB dX12_matchStarts_70 (by decide) rfl (fun v13 ev13 hf => ?_)
        refine bnd hf (fun v14 ev14 hf => ?_)
        refine r_callVr (ci := 12) rfl dX12_matchStarts_71 cs_RX12_364 ww_1451 ww_75 (by decide) (hB.t0 _) (by decide) rfl (rest := []) rfl (Or.inl (Nat.le_of_ble_eq_true rfl)) (t_M_begins hB ev14) ?_
        refine r_ifeqZ 81 hf dX12_matchStarts_74 (by decide) (fun c15 hf => ?_) (fun c15 hf => ?_)
        · refine r_iconst (1 : Int32) dX12_matchStarts_77 (by decide) ?_
          refine r_goto 82 dX12_matchStarts_78 (by decide) ?_
          refine r_sub (L' := [(0, _), (1, _), (2, _), (3, _), (5, _)]) [0, 1, 2, 3, 5] rfl ?_
          cases (Option.some.inj hf)
          exact kq10
        · refine r_iconst (0 : Int32) dX12_matchStarts_81 (by decide) ?_
          refine r_sub (L' := [(0, _), (1, _), (2, _), (3, _), (5, _)]) [0, 1, 2, 3, 5] rfl ?_
          cases (Option.some.inj hf)
          exact kq10
set_option maxRecDepth 100000 in
set_option maxHeartbeats 4000000 in
theorem x_M_matchStarts_l2 {Γ : W0} {σ0 : Mem} {r : RT} {τ : Mem} {B : Nat} {x1 : Int32} {x2 : Int32} {t : RS} (hB : RB τ B) (hk0 : ∀ z : RS, z = t → V Γ MD_M_matchStarts σ0 r (emb τ B z) 116 [] []) : ∀ q : Int32 × RS, lp (fun q => M_matchStarts_l2 q.2 x1 x2 q.1) q = some t → V Γ MD_M_matchStarts σ0 r (emb τ B q.2) 2 [(0, va_rf (some B)), (1, .int x1), (2, .int x2), (3, .int q.1)] [] := by
  refine lp_ind (fun (q : Int32 × RS) => V Γ MD_M_matchStarts σ0 r (emb τ B q.2) 2 [(0, va_rf (some B)), (1, .int x1), (2, .int x2), (3, .int q.1)] []) (fun q x hf ih ho => ?_)
  obtain ⟨x3, R⟩ := q
  show V Γ MD_M_matchStarts σ0 r (emb τ B R) 2 [(0, va_rf (some B)), (1, .int x1), (2, .int x2), (3, .int x3)] []
  replace hf : M_matchStarts_l2 R x1 x2 x3 = some x := hf
  unfold M_matchStarts_l2 at hf
  refine r_iload_n 3 dX12_matchStarts_2 rfl rfl ?_
  refine r_iconst (2 : Int32) dX12_matchStarts_3 (by decide) ?_
  refine r_icmp_ge 116 hf dX12_matchStarts_4 (by decide) (fun c1 hf => ?_) (fun c1 hf => ?_)
  · refine r_sub (L' := []) [] rfl ?_
    exact hk0 _ (ho _ (Option.some.inj hf).symm)
  · refine r_aload_n 0 dX12_matchStarts_7 rfl rfl ?_
    refine rr_ldR (c := 30) hB dX12_matchStarts_8 fl_RX12_109 rfl rfl (by decide) ?_
    refine r_iload_n 2 dX12_matchStarts_11 rfl rfl ?_
    refine rr_raI hf hB dX12_matchStarts_12 (by decide) rfl (fun v2 ev2 hf => ?_)
    refine r_iconst (-1 : Int32) dX12_matchStarts_13 (by decide) ?_
    refine r_bd (fun (q3 : RS) => V Γ MD_M_matchStarts σ0 r (emb τ B q3) 110 [(0, va_rf (some B)), (1, .int x1), (2, .int x2), (3, .int x3)] []) hf (fun q3 hf => ?_) (fun yq3 hf kq3 => ?_)
    · refine r_iinc (1 : Int32) (L' := [(3, _), (0, _), (1, _), (2, _)]) 3 dX12_matchStarts_110 rfl (by decide) (show 3 < 6 by decide) rfl ?_
      refine r_goto 2 dX12_matchStarts_113 (by decide) ?_
      refine r_sub (L' := [(0, _), (1, _), (2, _), (3, _)]) [1, 2, 3, 0] rfl ?_
      exact ih _ (Option.some.inj hf).symm
    · refine r_jn (fun (q4 : Unit) => V Γ MD_M_matchStarts σ0 r (emb τ B R) 30 [(0, va_rf (some B)), (1, .int x1), (2, .int x2), (3, .int x3)] []) hf (fun q4 hf => ?_) (fun yq4 hf oq4 kq4 => ?_)
      · refine r_iconst (0 : Int32) dX12_matchStarts_30 (by decide) ?_
        refine r_istore (L' := [(4, _), (0, _), (1, _), (2, _), (3, _)]) dX12_matchStarts_31 (show 4 < 6 by decide) rfl ?_
        refine r_iconst (0 : Int32) dX12_matchStarts_33 (by decide) ?_
        refine r_istore (L' := [(5, _), (4, _), (0, _), (1, _), (2, _), (3, _)]) dX12_matchStarts_34 (show 5 < 6 by decide) rfl ?_
        refine bnd hf (fun t16 et16 hf => ?_)
        refine r_sub (L' := [(0, _), (1, _), (2, _), (3, _), (4, _), (5, _)]) [2, 3, 4, 5, 1, 0] rfl ?_
        refine x_M_matchStarts_l36 hB ?_ _ et16
        · intro z17 hz17
          subst hz17
          refine r_iload 4 dX12_matchStarts_90 rfl ?_
          refine r_if_eq 110 hf dX12_matchStarts_92 (by decide) (fun c18 hf => ?_) (fun c18 hf => ?_)
          · refine r_sub (L' := [(0, _), (1, _), (2, _), (3, _)]) [0, 1, 2, 3] rfl ?_
            cases (Option.some.inj hf)
            exact kq3
          · refine r_aload_n 0 dX12_matchStarts_95 rfl rfl ?_
            refine r_iload_n 3 dX12_matchStarts_96 rfl rfl ?_
            refine r_bd (fun (q19 : Int32) => V Γ MD_M_matchStarts σ0 r (emb τ B R) 107 [(0, va_rf (some B)), (1, .int x1), (2, .int x2), (3, .int x3)] [.int q19, va_rf (some B)]) hf (fun q19 hf => ?_) (fun yq19 hf kq19 => ?_)
            · refine bnd hf (fun v21 ev21 hf => ?_)
              refine r_callVv (ci := 12) rfl dX12_matchStarts_107 cs_RX12_361 ww_1443 ww_73 (by decide) (hB.t0 _) (by decide) rfl (rest := []) rfl (Or.inl (Nat.le_of_ble_eq_true rfl)) (t_M_come hB ev21) ?_
              refine r_sub (L' := [(0, _), (1, _), (2, _), (3, _)]) [0, 1, 2, 3] rfl ?_
              cases (Option.some.inj hf)
              exact kq3
            · refine r_if_ne 105 hf dX12_matchStarts_97 (by decide) (fun c20 hf => ?_) (fun c20 hf => ?_)
              · refine r_bipush (16 : Int32) dX12_matchStarts_105 (by decide) ?_
                refine r_sub (L' := [(0, _), (1, _), (2, _), (3, _)]) [0, 1, 2, 3] rfl ?_
                cases (Option.some.inj hf)
                exact kq19
              · refine r_bipush (48 : Int32) dX12_matchStarts_100 (by decide) ?_
                refine r_goto 107 dX12_matchStarts_102 (by decide) ?_
                refine r_sub (L' := [(0, _), (1, _), (2, _), (3, _)]) [0, 1, 2, 3] rfl ?_
                cases (Option.some.inj hf)
                exact kq19
      · refine r_icmp_eq 30 hf dX12_matchStarts_14 (by decide) (fun c5 hf => ?_) (fun c5 hf => ?_)
        · refine r_sub (L' := [(0, _), (1, _), (2, _), (3, _)]) [0, 1, 2, 3] rfl ?_
          exact kq4 _ (Option.some.inj hf).symm
        · refine r_aload_n 0 dX12_matchStarts_17 rfl rfl ?_
          refine rr_ldR (c := 30) hB dX12_matchStarts_18 fl_RX12_109 rfl rfl (by decide) ?_
          refine r_iload_n 2 dX12_matchStarts_21 rfl rfl ?_
          refine rr_raI hf hB dX12_matchStarts_22 (by decide) rfl (fun v6 ev6 hf => ?_)
          refine r_iload_n 3 dX12_matchStarts_23 rfl rfl ?_
          refine r_icmp_eq 30 hf dX12_matchStarts_24 (by decide) (fun c7 hf => ?_) (fun c7 hf => ?_)
          · refine r_sub (L' := [(0, _), (1, _), (2, _), (3, _)]) [0, 1, 2, 3] rfl ?_
            exact kq4 _ (Option.some.inj hf).symm
          · refine r_goto 110 dX12_matchStarts_27 (by decide) ?_
            refine r_sub (L' := [(0, _), (1, _), (2, _), (3, _)]) [0, 1, 2, 3] rfl ?_
            cases (oq4 _ (Option.some.inj hf).symm)
            exact kq3
set_option maxRecDepth 100000 in
set_option maxHeartbeats 4000000 in
theorem t_M_matchStarts {Γ : W0} {τ : Mem} {B : Nat} {R : RS} {x1 : Int32} {x2 : Int32} {R' : RS} (hB : RB τ B) (hf : M_matchStarts R x1 x2 = some R') : CT Γ MD_M_matchStarts yX12_matchStarts [va_rf (some B), .int x1, .int x2] (emb τ B R) (none, (emb τ B R')) := by
  refine CT.of (L := [(0, va_rf (some B)), (1, .int x1), (2, .int x2)]) rfl (by decide) (fun h => Bool.noConfusion (show false = true from h)) (Nat.le_of_ble_eq_true rfl) rfl ?_
  unfold M_matchStarts at hf
  generalize hr : mkR Γ (emb τ B R) (none) (emb τ B R') = r
  refine r_iconst (0 : Int32) dX12_matchStarts_0 (by decide) ?_
  refine r_istore_n (L' := [(3, _), (0, _), (1, _), (2, _)]) dX12_matchStarts_1 rfl (show 3 < 6 by decide) rfl ?_
  refine bnd hf (fun t22 et22 hf => ?_)
  refine r_sub (L' := [(0, _), (1, _), (2, _), (3, _)]) [1, 2, 3, 0] rfl ?_
  refine x_M_matchStarts_l2 hB ?_ _ et22
  · intro z23 hz23
    subst hz23
    exact r_vret rfl dX12_matchStarts_116 (by have h1 := (Option.some.inj hf); subst h1; exact hr.symm)
/-! SearchEngineModel.goesOn -/
noncomputable def M_goesOn_l62 (R : RS) (x1 : Int32) (x2 : Int32) (x3 : Int32) (x4 : Int32) (x5 : Int32) (x6 : Int32) (x7 : Int32) (x8 : Int32) (x9 : Int32) : Option (Int32 ⊕ Int32) :=
  (rdI R 6 800 (((2 : Int32) * x1) + x2)).bind fun v8 =>
  if v8 ≤ x7 then
    some (Sum.inr x7)
  else
    (M_base x1 x2).bind fun v10 =>
    (M_isToken R (v10 + x7) x9).bind fun v11 =>
    if v11 = true then
      some (Sum.inr x7)
    else
      some (Sum.inl (x7 + (1 : Int32)))
noncomputable def M_goesOn_l18 (R : RS) (x1 : Int32) (x2 : Int32) (x3 : Int32) (x4 : Int32) (x5 : Int32) (x6 : Int32) (x7 : Int32) (x8 : Int32) (x9 : Int32) : Option ((Int32 × Int32 × Int32) ⊕ (Unit ⊕ (Int32 × Int32))) :=
  if x5 < x9 then
    some (Sum.inr (Sum.inr (x7, x8)))
  else
    (rdI R 33 400 x9).bind fun v3 =>
    jn (
      if ¬ v3 = 0 then
        (rdI R 35 400 x9).bind fun v6 =>
        (rdI R 35 400 x9).bind fun v7 =>
        (lp (fun q => M_goesOn_l62 R x1 x2 x3 x4 x5 x6 q v7 x9) (x7 + (v6 - x8))).bind fun z14 =>
        (rdI R 6 800 (((2 : Int32) * x1) + x2)).bind fun v15 =>
        if z14 < v15 then
          some (Sum.inr (z14, v7))
        else
          some (Sum.inl (Sum.inr (Sum.inl ())))
      else
        some (Sum.inr (x7, x8))) fun q4 =>
    some (Sum.inl (q4.1, q4.2, (x9 + (1 : Int32))))
noncomputable def M_goesOn (R : RS) (x1 : Int32) (x2 : Int32) (x3 : Int32) (x4 : Int32) (x5 : Int32) (x6 : Int32) : Option Bool :=
  (rdI R 35 400 x4).bind fun v1 =>
  (lp (fun q => M_goesOn_l18 R x1 x2 x3 x4 x5 x6 q.1 q.2.1 q.2.2) (x3, v1, (x4 + (1 : Int32)))).bind 
    (se (fun z18 =>
      some false)
      (fun z19 =>
        (rdI R 35 400 x4).bind fun v20 =>
        if ((z19.2 - v20) + x6) < (z19.1 - x3) then
          some false
        else
          some true))
set_option maxRecDepth 100000 in
set_option maxHeartbeats 4000000 in
theorem x_M_goesOn_l62 {Γ : W0} {σ0 : Mem} {r : RT} {τ : Mem} {B : Nat} {R : RS} {x1 : Int32} {x2 : Int32} {x3 : Int32} {x4 : Int32} {x5 : Int32} {x6 : Int32} {x8 : Int32} {x9 : Int32} {t : Int32} (hB : RB τ B) (hk0 : ∀ z : Int32, z = t → V Γ MD_M_goesOn σ0 r (emb τ B R) 100 [(0, va_rf (some B)), (1, .int x1), (2, .int x2), (3, .int x3), (4, .int x4), (5, .int x5), (6, .int x6), (7, .int z), (8, .int x8), (9, .int x9)] []) : ∀ q : Int32, lp (fun q => M_goesOn_l62 R x1 x2 x3 x4 x5 x6 q x8 x9) q = some t → V Γ MD_M_goesOn σ0 r (emb τ B R) 62 [(0, va_rf (some B)), (1, .int x1), (2, .int x2), (3, .int x3), (4, .int x4), (5, .int x5), (6, .int x6), (7, .int q), (8, .int x8), (9, .int x9)] [] := by
  refine lp_ind (fun (q : Int32) => V Γ MD_M_goesOn σ0 r (emb τ B R) 62 [(0, va_rf (some B)), (1, .int x1), (2, .int x2), (3, .int x3), (4, .int x4), (5, .int x5), (6, .int x6), (7, .int q), (8, .int x8), (9, .int x9)] []) (fun q x hf ih ho => ?_)
  revert hf ih
  generalize q = x7
  intro hf ih
  show V Γ MD_M_goesOn σ0 r (emb τ B R) 62 [(0, va_rf (some B)), (1, .int x1), (2, .int x2), (3, .int x3), (4, .int x4), (5, .int x5), (6, .int x6), (7, .int x7), (8, .int x8), (9, .int x9)] []
  replace hf : M_goesOn_l62 R x1 x2 x3 x4 x5 x6 x7 x8 x9 = some x := hf
  unfold M_goesOn_l62 at hf
  refine r_iload 7 dX12_goesOn_62 rfl ?_
  refine r_aload_n 0 dX12_goesOn_64 rfl rfl ?_
  refine rr_ldR (c := 6) hB dX12_goesOn_65 fl_RX12_27 rfl rfl (by decide) ?_
  refine r_iconst (2 : Int32) dX12_goesOn_68 (by decide) ?_
  refine r_iload_n 1 dX12_goesOn_69 rfl rfl ?_
  refine r_imul dX12_goesOn_70 ?_
  refine r_iload_n 2 dX12_goesOn_71 rfl rfl ?_
  refine r_iadd dX12_goesOn_72 ?_
  refine rr_raI hf hB dX12_goesOn_73 (by decide) rfl (fun v8 ev8 hf => ?_)
  refine r_icmp_ge 100 hf dX12_goesOn_74 (by decide) (fun c9 hf => ?_) (fun c9 hf => ?_)
  · refine r_sub (L' := [(0, _), (1, _), (2, _), (3, _), (4, _), (5, _), (6, _), (7, _), (8, _), (9, _)]) [0, 1, 2, 3, 4, 5, 6, 7, 8, 9] rfl ?_
    exact hk0 _ (ho _ (Option.some.inj hf).symm)
  · refine r_aload_n 0 dX12_goesOn_77 rfl rfl ?_
    refine r_iload_n 1 dX12_goesOn_78 rfl rfl ?_
    refine r_iload_n 2 dX12_goesOn_79 rfl rfl ?_
    refine bnd hf (fun v10 ev10 hf => ?_)
    refine r_callSr dX12_goesOn_80 cs_RX12_189 ww_1276 (by decide) rfl (rest := [_]) rfl (Or.inl (Nat.le_of_ble_eq_true rfl)) (t_M_base ev10) ?_
    refine r_iload 7 dX12_goesOn_83 rfl ?_
    refine r_iadd dX12_goesOn_85 ?_
    refine r_iload 9 dX12_goesOn_86 rfl ?_
    refine bnd hf (fun v11 ev11 hf => ?_)
    refine r_callVr (ci := 12) rfl dX12_goesOn_88 cs_RX12_323 ww_1420 ww_69 (by decide) (hB.t0 _) (by decide) rfl (rest := []) rfl (Or.inl (Nat.le_of_ble_eq_true rfl)) (t_M_isToken hB ev11) ?_
    refine r_ifneZ 100 hf dX12_goesOn_91 (by decide) (fun c12 hf => ?_) (fun c12 hf => ?_)
    · refine r_sub (L' := [(0, _), (1, _), (2, _), (3, _), (4, _), (5, _), (6, _), (7, _), (8, _), (9, _)]) [0, 1, 2, 3, 4, 5, 6, 7, 8, 9] rfl ?_
      exact hk0 _ (ho _ (Option.some.inj hf).symm)
    · refine r_iinc (1 : Int32) (L' := [(7, _), (0, _), (1, _), (2, _), (3, _), (4, _), (5, _), (6, _), (8, _), (9, _)]) 7 dX12_goesOn_94 rfl (by decide) (show 7 < 10 by decide) rfl ?_
      refine r_goto 62 dX12_goesOn_97 (by decide) ?_
      refine r_sub (L' := [(0, _), (1, _), (2, _), (3, _), (4, _), (5, _), (6, _), (7, _), (8, _), (9, _)]) [1, 2, 3, 4, 5, 6, 7, 0, 8, 9] rfl ?_
      exact ih _ (Option.some.inj hf).symm
set_option maxRecDepth 100000 in
set_option maxHeartbeats 4000000 in
theorem x_M_goesOn_l18 {Γ : W0} {σ0 : Mem} {r : RT} {τ : Mem} {B : Nat} {R : RS} {x1 : Int32} {x2 : Int32} {x3 : Int32} {x4 : Int32} {x5 : Int32} {x6 : Int32} {t : Unit ⊕ (Int32 × Int32)} (hB : RB τ B) (hk0 : ∀ z : Unit, (Sum.inl z) = t → V Γ MD_M_goesOn σ0 r (emb τ B R) 115 [] []) (hk1 : ∀ z : Int32 × Int32, (Sum.inr z) = t → V Γ MD_M_goesOn σ0 r (emb τ B R) 123 [(0, va_rf (some B)), (3, .int x3), (4, .int x4), (6, .int x6), (7, .int z.1), (8, .int z.2)] []) : ∀ q : Int32 × Int32 × Int32, lp (fun q => M_goesOn_l18 R x1 x2 x3 x4 x5 x6 q.1 q.2.1 q.2.2) q = some t → V Γ MD_M_goesOn σ0 r (emb τ B R) 18 [(0, va_rf (some B)), (1, .int x1), (2, .int x2), (3, .int x3), (4, .int x4), (5, .int x5), (6, .int x6), (7, .int q.1), (8, .int q.2.1), (9, .int q.2.2)] [] := by
  refine lp_ind (fun (q : Int32 × Int32 × Int32) => V Γ MD_M_goesOn σ0 r (emb τ B R) 18 [(0, va_rf (some B)), (1, .int x1), (2, .int x2), (3, .int x3), (4, .int x4), (5, .int x5), (6, .int x6), (7, .int q.1), (8, .int q.2.1), (9, .int q.2.2)] []) (fun q x hf ih ho => ?_)
  obtain ⟨x7, x8, x9⟩ := q
  show V Γ MD_M_goesOn σ0 r (emb τ B R) 18 [(0, va_rf (some B)), (1, .int x1), (2, .int x2), (3, .int x3), (4, .int x4), (5, .int x5), (6, .int x6), (7, .int x7), (8, .int x8), (9, .int x9)] []
  replace hf : M_goesOn_l18 R x1 x2 x3 x4 x5 x6 x7 x8 x9 = some x := hf
  unfold M_goesOn_l18 at hf
  refine r_iload 9 dX12_goesOn_18 rfl ?_
  refine r_iload 5 dX12_goesOn_20 rfl ?_
  refine r_icmp_gt 123 hf dX12_goesOn_22 (by decide) (fun c2 hf => ?_) (fun c2 hf => ?_)
  · refine r_sub (L' := [(0, _), (3, _), (4, _), (6, _), (7, _), (8, _)]) [0, 3, 4, 6, 7, 8] rfl ?_
    exact hk1 _ (ho _ (Option.some.inj hf).symm)
  · refine r_aload_n 0 dX12_goesOn_25 rfl rfl ?_
    refine rr_ldR (c := 33) hB dX12_goesOn_26 fl_RX12_118 rfl rfl (by decide) ?_
    refine r_iload 9 dX12_goesOn_29 rfl ?_
    refine rr_raI hf hB dX12_goesOn_31 (by decide) rfl (fun v3 ev3 hf => ?_)
    refine r_jn (fun (q4 : Int32 × Int32) => V Γ MD_M_goesOn σ0 r (emb τ B R) 117 [(0, va_rf (some B)), (1, .int x1), (2, .int x2), (3, .int x3), (4, .int x4), (5, .int x5), (6, .int x6), (7, .int q4.1), (8, .int q4.2), (9, .int x9)] []) hf (fun q4 hf => ?_) (fun yq4 hf oq4 kq4 => ?_)
    · refine r_iinc (1 : Int32) (L' := [(9, _), (0, _), (1, _), (2, _), (3, _), (4, _), (5, _), (6, _), (7, _), (8, _)]) 9 dX12_goesOn_117 rfl (by decide) (show 9 < 10 by decide) rfl ?_
      refine r_goto 18 dX12_goesOn_120 (by decide) ?_
      refine r_sub (L' := [(0, _), (1, _), (2, _), (3, _), (4, _), (5, _), (6, _), (7, _), (8, _), (9, _)]) [1, 2, 3, 4, 5, 6, 7, 8, 9, 0] rfl ?_
      exact ih _ (Option.some.inj hf).symm
    · refine r_if_ne 38 hf dX12_goesOn_32 (by decide) (fun c5 hf => ?_) (fun c5 hf => ?_)
      · refine r_iload 7 dX12_goesOn_38 rfl ?_
        refine r_aload_n 0 dX12_goesOn_40 rfl rfl ?_
        refine rr_ldR (c := 35) hB dX12_goesOn_41 fl_RX12_124 rfl rfl (by decide) ?_
        refine r_iload 9 dX12_goesOn_44 rfl ?_
        refine rr_raI hf hB dX12_goesOn_46 (by decide) rfl (fun v6 ev6 hf => ?_)
        refine r_iload 8 dX12_goesOn_47 rfl ?_
        refine r_isub dX12_goesOn_49 ?_
        refine r_iadd dX12_goesOn_50 ?_
        refine r_istore (L' := [(7, _), (0, _), (1, _), (2, _), (3, _), (4, _), (5, _), (6, _), (8, _), (9, _)]) dX12_goesOn_51 (show 7 < 10 by decide) rfl ?_
        refine r_aload_n 1 dX12_goesOn_53 rfl rfl ?_
        refine rr_ldR (c := 35) hB dX12_goesOn_54 fl_RX12_124 rfl rfl (by decide) ?_
        refine r_iload 9 dX12_goesOn_57 rfl ?_
        refine rr_raI hf hB dX12_goesOn_59 (by decide) rfl (fun v7 ev7 hf => ?_)
        refine r_istore (L' := [(8, _), (7, _), (0, _), (1, _), (2, _), (3, _), (4, _), (5, _), (6, _), (9, _)]) dX12_goesOn_60 (show 8 < 10 by decide) rfl ?_
        refine bnd hf (fun t13 et13 hf => ?_)
        refine r_sub (L' := [(0, _), (1, _), (2, _), (3, _), (4, _), (5, _), (6, _), (7, _), (8, _), (9, _)]) [2, 3, 4, 5, 6, 7, 8, 1, 0, 9] rfl ?_
        refine x_M_goesOn_l62 hB ?_ _ et13
        · intro z14 hz14
          subst hz14
          refine r_iload 7 dX12_goesOn_100 rfl ?_
          refine r_aload_n 0 dX12_goesOn_102 rfl rfl ?_
          refine rr_ldR (c := 6) hB dX12_goesOn_103 fl_RX12_27 rfl rfl (by decide) ?_
          refine r_iconst (2 : Int32) dX12_goesOn_106 (by decide) ?_
          refine r_iload_n 1 dX12_goesOn_107 rfl rfl ?_
          refine r_imul dX12_goesOn_108 ?_
          refine r_iload_n 2 dX12_goesOn_109 rfl rfl ?_
          refine r_iadd dX12_goesOn_110 ?_
          refine rr_raI hf hB dX12_goesOn_111 (by decide) rfl (fun v15 ev15 hf => ?_)
          refine r_icmp_lt 117 hf dX12_goesOn_112 (by decide) (fun c16 hf => ?_) (fun c16 hf => ?_)
          · refine r_sub (L' := [(0, _), (1, _), (2, _), (3, _), (4, _), (5, _), (6, _), (7, _), (8, _), (9, _)]) [0, 1, 2, 3, 4, 5, 6, 7, 8, 9] rfl ?_
            exact kq4 _ (Option.some.inj hf).symm
          · refine r_sub (L' := []) [] rfl ?_
            exact hk0 _ (ho _ (oq4 _ (Option.some.inj hf).symm).symm)
      · refine r_goto 117 dX12_goesOn_35 (by decide) ?_
        refine r_sub (L' := [(0, _), (1, _), (2, _), (3, _), (4, _), (5, _), (6, _), (7, _), (8, _), (9, _)]) [0, 1, 2, 3, 4, 5, 6, 7, 8, 9] rfl ?_
        exact kq4 _ (Option.some.inj hf).symm
set_option maxRecDepth 100000 in
set_option maxHeartbeats 4000000 in
theorem t_M_goesOn {Γ : W0} {τ : Mem} {B : Nat} {R : RS} {x1 : Int32} {x2 : Int32} {x3 : Int32} {x4 : Int32} {x5 : Int32} {x6 : Int32} {v : Bool} (hB : RB τ B) (hf : M_goesOn R x1 x2 x3 x4 x5 x6 = some v) : CT Γ MD_M_goesOn yX12_goesOn [va_rf (some B), .int x1, .int x2, .int x3, .int x4, .int x5, .int x6] (emb τ B R) (some (.int (b2i v)), (emb τ B R)) := by
  refine CT.of (L := [(0, va_rf (some B)), (1, .int x1), (2, .int x2), (3, .int x3), (4, .int x4), (5, .int x5), (6, .int x6)]) rfl (by decide) (fun h => Bool.noConfusion (show false = true from h)) (Nat.le_of_ble_eq_true rfl) rfl ?_
  unfold M_goesOn at hf
  generalize hr : mkR Γ (emb τ B R) (some (.int (b2i v))) (emb τ B R) = r
  refine r_iload_n 3 dX12_goesOn_0 rfl rfl ?_
  refine r_istore (L' := [(7, _), (0, _), (1, _), (2, _), (3, _), (4, _), (5, _), (6, _)]) dX12_goesOn_1 (show 7 < 10 by decide) rfl ?_
  refine r_aload_n 1 dX12_goesOn_3 rfl rfl ?_
  refine rr_ldR (c := 35) hB dX12_goesOn_4 fl_RX12_124 rfl rfl (by decide) ?_
  refine r_iload 5 dX12_goesOn_7 rfl ?_
  refine rr_raI hf hB dX12_goesOn_9 (by decide) rfl (fun v1 ev1 hf => ?_)
  refine r_istore (L' := [(8, _), (7, _), (0, _), (1, _), (2, _), (3, _), (4, _), (5, _), (6, _)]) dX12_goesOn_10 (show 8 < 10 by decide) rfl ?_
  refine r_iload 6 dX12_goesOn_12 rfl ?_
  refine r_iconst (1 : Int32) dX12_goesOn_14 (by decide) ?_
  refine r_iadd dX12_goesOn_15 ?_
  refine r_istore (L' := [(9, _), (8, _), (7, _), (0, _), (1, _), (2, _), (3, _), (4, _), (5, _), (6, _)]) dX12_goesOn_16 (show 9 < 10 by decide) rfl ?_
  refine bnd hf (fun t17 et17 hf => ?_)
  refine r_sub (L' := [(0, _), (1, _), (2, _), (3, _), (4, _), (5, _), (6, _), (7, _), (8, _), (9, _)]) [3, 4, 5, 6, 7, 8, 9, 2, 1, 0] rfl ?_
  refine x_M_goesOn_l18 hB ?_ ?_ _ et17
  · intro z18 hz18
    subst hz18
    simp only [se] at hf
    refine r_iconst (b2i false) dX12_goesOn_115 rfl ?_
    exact r_zret rfl dX12_goesOn_116 (by have h1 := (Option.some.inj hf); subst h1; exact hr.symm)
  · intro z19 hz19
    subst hz19
    simp only [se] at hf
    refine r_iload 4 dX12_goesOn_123 rfl ?_
    refine r_iload_n 1 dX12_goesOn_125 rfl rfl ?_
    refine r_isub dX12_goesOn_126 ?_
    refine r_iload 5 dX12_goesOn_127 rfl ?_
    refine r_aload_n 0 dX12_goesOn_129 rfl rfl ?_
    refine rr_ldR (c := 35) hB dX12_goesOn_130 fl_RX12_124 rfl rfl (by decide) ?_
    refine r_iload 2 dX12_goesOn_133 rfl ?_
    refine rr_raI hf hB dX12_goesOn_135 (by decide) rfl (fun v20 ev20 hf => ?_)
    refine r_isub dX12_goesOn_136 ?_
    refine r_iload 3 dX12_goesOn_137 rfl ?_
    refine r_iadd dX12_goesOn_139 ?_
    refine r_icmp_gt 147 hf dX12_goesOn_140 (by decide) (fun c21 hf => ?_) (fun c21 hf => ?_)
    · refine r_iconst (b2i false) dX12_goesOn_147 rfl ?_
      exact r_zret rfl dX12_goesOn_148 (by have h1 := (Option.some.inj hf); subst h1; exact hr.symm)
    · refine r_iconst (b2i true) dX12_goesOn_143 rfl ?_
      refine r_goto 148 dX12_goesOn_144 (by decide) ?_
      exact r_zret rfl dX12_goesOn_148 (by have h1 := (Option.some.inj hf); subst h1; exact hr.symm)
/-! SearchEngineModel.matchPhrase -/
noncomputable def M_matchPhrase_l30 (R : RS) (x1 : Int32) (x2 : Int32) (x3 : Int32) (x4 : Int32) (x5 : Int32) (x6 : Int32) (x7 : Int32) : Option ((Int32 × Int32 × Int32) ⊕ (Int32 × Int32)) :=
  if x3 ≤ x7 then
    some (Sum.inr (x5, x6))
  else
    (rdI R 31 400 x2).bind fun v4 =>
    (rdI R 33 400 (v4 + x7)).bind fun v5 =>
    Option.bind (
      if ¬ v5 = 0 then
        Option.bind (
          if ¬ x5 = (-1 : Int32) then
            some x5
          else
            (rdI R 31 400 x2).bind fun v10 =>
            some (v10 + x7)) fun q8 =>
        (rdI R 31 400 x2).bind fun v11 =>
        some (q8, (v11 + x7))
      else
        some (x5, x6)) fun q6 =>
    some (Sum.inl (q6.1, q6.2, (x7 + (1 : Int32))))
noncomputable def M_matchPhrase_l146 (R : RS) (x1 : Int32) (x2 : Int32) (x4 : Int32) (x5 : Int32) (x6 : Int32) (x7 : Int32) (x8 : Int32) (x9 : Int32) : Option ((Int32 × Int32) ⊕ Int32) :=
  (rdI R 6 800 (((2 : Int32) * x1) + x7)).bind fun v22 =>
  if v22 ≤ x9 then
    some (Sum.inr x8)
  else
    (M_base x1 x7).bind fun v24 =>
    (M_isToken R (v24 + x9) x5).bind fun v25 =>
    Option.bind (
      if v25 = true then
        (M_goesOn R x1 x7 x9 x5 x6 x4).bind fun v28 =>
        if v28 = true then
          some (1 : Int32)
        else
          some (0 : Int32)
      else
        some (0 : Int32)) fun q26 =>
    some (Sum.inl ((x8 + q26), (x9 + (1 : Int32))))
noncomputable def M_matchPhrase_l229 (R : RS) (x1 : Int32) (x2 : Int32) (x4 : Int32) (x5 : Int32) (x6 : Int32) (x7 : Int32) (x8 : Int32) (x9 : Int64) (x11 : Int32) : Option ((Int64 × Int32) ⊕ Int64) :=
  if x6 < x11 then
    some (Sum.inr x9)
  else
    (rdI R 33 400 x11).bind fun v34 =>
    Option.bind (
      if v34 ≤ 0 then
        some x9
      else
        (M_rare R x7 x11).bind fun v37 =>
        some (x9 + v37.toInt64)) fun q35 =>
    some (Sum.inl (q35, (x11 + (1 : Int32))))
noncomputable def M_matchPhrase_l110 (R : RS) (x1 : Int32) (x2 : Int32) (x4 : Int32) (x5 : Int32) (x6 : Int32) (x7 : Int32) : Option ((Int32 × RS) ⊕ RS) :=
  if (2 : Int32) ≤ x7 then
    some (Sum.inr R)
  else
    (rdI R 30 400 x2).bind fun v16 =>
    Option.bind (
      jn (
        if v16 = (-1 : Int32) then
          some (Sum.inr ())
        else
          (rdI R 30 400 x2).bind fun v20 =>
          if v20 = x7 then
            some (Sum.inr ())
          else
            some (Sum.inl R)) fun q18 =>
      (lp (fun q => M_matchPhrase_l146 R x1 x2 x4 x5 x6 x7 q.1 q.2) ((0 : Int32), (0 : Int32))).bind fun z31 =>
      if ¬ z31 = 0 then
        (lp (fun q => M_matchPhrase_l229 R x1 x2 x4 x5 x6 x7 z31 q.1 q.2) ((0 : Int64), x5)).bind fun z39 =>
        (M_least z39).bind fun v40 =>
        (M_score R x1 x7 z31 v40).bind fun v41 =>
        (M_come R v41).bind fun v42 =>
        some v42
      else
        some R) fun q17 =>
    some (Sum.inl ((x7 + (1 : Int32)), q17))
noncomputable def M_matchPhrase (R : RS) (x1 : Int32) (x2 : Int32) : Option RS :=
  (rdI R 32 400 x2).bind fun v1 =>
  (rdI R 32 400 x2).bind fun v2 =>
  (lp (fun q => M_matchPhrase_l30 R x1 x2 (remI v1 (16 : Int32)) (v2 / (16 : Int32)) q.1 q.2.1 q.2.2) ((-1 : Int32), (-1 : Int32), (0 : Int32))).bind fun z13 =>
  if ¬ z13.1 = (-1 : Int32) then
    (lp (fun q => M_matchPhrase_l110 q.2 x1 x2 (v2 / (16 : Int32)) z13.1 z13.2 q.1) ((0 : Int32), R)).bind fun z44 =>
    some z44
  else
    (some (pB R 64 true)).bind fun R45 =>
    some R45
set_option maxRecDepth 100000 in
set_option maxHeartbeats 4000000 in
theorem x_M_matchPhrase_l30 {Γ : W0} {σ0 : Mem} {r : RT} {τ : Mem} {B : Nat} {R : RS} {x1 : Int32} {x2 : Int32} {x3 : Int32} {x4 : Int32} {t : Int32 × Int32} (hB : RB τ B) (hk0 : ∀ z : Int32 × Int32, z = t → V Γ MD_M_matchPhrase σ0 r (emb τ B R) 95 [(0, va_rf (some B)), (1, .int x1), (2, .int x2), (4, .int x4), (5, .int z.1), (6, .int z.2)] []) : ∀ q : Int32 × Int32 × Int32, lp (fun q => M_matchPhrase_l30 R x1 x2 x3 x4 q.1 q.2.1 q.2.2) q = some t → V Γ MD_M_matchPhrase σ0 r (emb τ B R) 30 [(0, va_rf (some B)), (1, .int x1), (2, .int x2), (3, .int x3), (4, .int x4), (5, .int q.1), (6, .int q.2.1), (7, .int q.2.2)] [] := by
  refine lp_ind (fun (q : Int32 × Int32 × Int32) => V Γ MD_M_matchPhrase σ0 r (emb τ B R) 30 [(0, va_rf (some B)), (1, .int x1), (2, .int x2), (3, .int x3), (4, .int x4), (5, .int q.1), (6, .int q.2.1), (7, .int q.2.2)] []) (fun q x hf ih ho => ?_)
  obtain ⟨x5, x6, x7⟩ := q
  show V Γ MD_M_matchPhrase σ0 r (emb τ B R) 30 [(0, va_rf (some B)), (1, .int x1), (2, .int x2), (3, .int x3), (4, .int x4), (5, .int x5), (6, .int x6), (7, .int x7)] []
  replace hf : M_matchPhrase_l30 R x1 x2 x3 x4 x5 x6 x7 = some x := hf
  unfold M_matchPhrase_l30 at hf
  refine r_iload 7 dX12_matchPhrase_30 rfl ?_
  refine r_iload_n 3 dX12_matchPhrase_32 rfl rfl ?_
  refine r_icmp_ge 95 hf dX12_matchPhrase_33 (by decide) (fun c3 hf => ?_) (fun c3 hf => ?_)
  · refine r_sub (L' := [(0, _), (1, _), (2, _), (4, _), (5, _), (6, _)]) [0, 1, 2, 4, 5, 6] rfl ?_
    exact hk0 _ (ho _ (Option.some.inj hf).symm)
  · refine r_aload_n 0 dX12_matchPhrase_36 rfl rfl ?_
    refine rr_ldR (c := 33) hB dX12_matchPhrase_37 fl_RX12_118 rfl rfl (by decide) ?_
    refine r_aload_n 0 dX12_matchPhrase_40 rfl rfl ?_
    refine rr_ldR (c := 31) hB dX12_matchPhrase_41 fl_RX12_112 rfl rfl (by decide) ?_
    refine r_iload_n 2 dX12_matchPhrase_44 rfl rfl ?_
    refine rr_raI hf hB dX12_matchPhrase_45 (by decide) rfl (fun v4 ev4 hf => ?_)
    refine r_iload 7 dX12_matchPhrase_46 rfl ?_
    refine r_iadd dX12_matchPhrase_48 ?_
    refine rr_raI hf hB dX12_matchPhrase_49 (by decide) rfl (fun v5 ev5 hf => ?_)
    refine r_bd (fun (q6 : Int32 × Int32) => V Γ MD_M_matchPhrase σ0 r (emb τ B R) 89 [(0, va_rf (some B)), (1, .int x1), (2, .int x2), (3, .int x3), (4, .int x4), (5, .int q6.1), (6, .int q6.2), (7, .int x7)] []) hf (fun q6 hf => ?_) (fun yq6 hf kq6 => ?_)
    · refine r_iinc (1 : Int32) (L' := [(7, _), (0, _), (1, _), (2, _), (3, _), (4, _), (5, _), (6, _)]) 7 dX12_matchPhrase_89 rfl (by decide) (show 7 < 12 by decide) rfl ?_
      refine r_goto 30 dX12_matchPhrase_92 (by decide) ?_
      refine r_sub (L' := [(0, _), (1, _), (2, _), (3, _), (4, _), (5, _), (6, _), (7, _)]) [1, 2, 3, 4, 5, 6, 7, 0] rfl ?_
      exact ih _ (Option.some.inj hf).symm
    · refine r_if_ne 56 hf dX12_matchPhrase_50 (by decide) (fun c7 hf => ?_) (fun c7 hf => ?_)
      · refine r_iload 5 dX12_matchPhrase_56 rfl ?_
        refine r_iconst (-1 : Int32) dX12_matchPhrase_58 (by decide) ?_
        refine r_bd (fun (q8 : Int32) => V Γ MD_M_matchPhrase σ0 r (emb τ B R) 76 [(0, va_rf (some B)), (1, .int x1), (2, .int x2), (3, .int x3), (4, .int x4), (7, .int x7)] [.int q8]) hf (fun q8 hf => ?_) (fun yq8 hf kq8 => ?_)
        · refine r_istore (L' := [(5, _), (0, _), (1, _), (2, _), (3, _), (4, _), (7, _)]) dX12_matchPhrase_76 (show 5 < 12 by decide) rfl ?_
          refine r_aload_n 1 dX12_matchPhrase_78 rfl rfl ?_
          refine rr_ldR (c := 31) hB dX12_matchPhrase_79 fl_RX12_112 rfl rfl (by decide) ?_
          refine r_iload_n 3 dX12_matchPhrase_82 rfl rfl ?_
          refine rr_raI hf hB dX12_matchPhrase_83 (by decide) rfl (fun v11 ev11 hf => ?_)
          refine r_iload 6 dX12_matchPhrase_84 rfl ?_
          refine r_iadd dX12_matchPhrase_86 ?_
          refine r_istore (L' := [(6, _), (5, _), (0, _), (1, _), (2, _), (3, _), (4, _), (7, _)]) dX12_matchPhrase_87 (show 6 < 12 by decide) rfl ?_
          refine r_sub (L' := [(0, _), (1, _), (2, _), (3, _), (4, _), (5, _), (6, _), (7, _)]) [2, 3, 4, 5, 6, 1, 0, 7] rfl ?_
          cases (Option.some.inj hf)
          exact kq6
        · refine r_icmp_ne 74 hf dX12_matchPhrase_59 (by decide) (fun c9 hf => ?_) (fun c9 hf => ?_)
          · refine r_iload 5 dX12_matchPhrase_74 rfl ?_
            refine r_sub (L' := [(0, _), (1, _), (2, _), (3, _), (4, _), (7, _)]) [0, 1, 2, 3, 4, 7] rfl ?_
            cases (Option.some.inj hf)
            exact kq8
          · refine r_aload_n 0 dX12_matchPhrase_62 rfl rfl ?_
            refine rr_ldR (c := 31) hB dX12_matchPhrase_63 fl_RX12_112 rfl rfl (by decide) ?_
            refine r_iload_n 2 dX12_matchPhrase_66 rfl rfl ?_
            refine rr_raI hf hB dX12_matchPhrase_67 (by decide) rfl (fun v10 ev10 hf => ?_)
            refine r_iload 7 dX12_matchPhrase_68 rfl ?_
            refine r_iadd dX12_matchPhrase_70 ?_
            refine r_goto 76 dX12_matchPhrase_71 (by decide) ?_
            refine r_sub (L' := [(0, _), (1, _), (2, _), (3, _), (4, _), (7, _)]) [0, 1, 2, 3, 4, 7] rfl ?_
            cases (Option.some.inj hf)
            exact kq8
      · refine r_goto 89 dX12_matchPhrase_53 (by decide) ?_
        refine r_sub (L' := [(0, _), (1, _), (2, _), (3, _), (4, _), (5, _), (6, _), (7, _)]) [0, 1, 2, 3, 4, 5, 6, 7] rfl ?_
        cases (Option.some.inj hf)
        exact kq6
set_option maxRecDepth 100000 in
set_option maxHeartbeats 4000000 in
theorem x_M_matchPhrase_l146 {Γ : W0} {σ0 : Mem} {r : RT} {τ : Mem} {B : Nat} {R : RS} {x1 : Int32} {x2 : Int32} {x4 : Int32} {x5 : Int32} {x6 : Int32} {x7 : Int32} {t : Int32} (hB : RB τ B) (hk0 : ∀ z : Int32, z = t → V Γ MD_M_matchPhrase σ0 r (emb τ B R) 214 [(0, va_rf (some B)), (1, .int x1), (2, .int x2), (4, .int x4), (5, .int x5), (6, .int x6), (7, .int x7), (8, .int z)] []) : ∀ q : Int32 × Int32, lp (fun q => M_matchPhrase_l146 R x1 x2 x4 x5 x6 x7 q.1 q.2) q = some t → V Γ MD_M_matchPhrase σ0 r (emb τ B R) 146 [(0, va_rf (some B)), (1, .int x1), (2, .int x2), (4, .int x4), (5, .int x5), (6, .int x6), (7, .int x7), (8, .int q.1), (9, .int q.2)] [] := by
  refine lp_ind (fun (q : Int32 × Int32) => V Γ MD_M_matchPhrase σ0 r (emb τ B R) 146 [(0, va_rf (some B)), (1, .int x1), (2, .int x2), (4, .int x4), (5, .int x5), (6, .int x6), (7, .int x7), (8, .int q.1), (9, .int q.2)] []) (fun q x hf ih ho => ?_)
  obtain ⟨x8, x9⟩ := q
  show V Γ MD_M_matchPhrase σ0 r (emb τ B R) 146 [(0, va_rf (some B)), (1, .int x1), (2, .int x2), (4, .int x4), (5, .int x5), (6, .int x6), (7, .int x7), (8, .int x8), (9, .int x9)] []
  replace hf : M_matchPhrase_l146 R x1 x2 x4 x5 x6 x7 x8 x9 = some x := hf
  unfold M_matchPhrase_l146 at hf
  refine r_iload 8 dX12_matchPhrase_146 rfl ?_
  refine r_aload_n 0 dX12_matchPhrase_148 rfl rfl ?_
  refine rr_ldR (c := 6) hB dX12_matchPhrase_149 fl_RX12_27 rfl rfl (by decide) ?_
  refine r_iconst (2 : Int32) dX12_matchPhrase_152 (by decide) ?_
  refine r_iload_n 1 dX12_matchPhrase_153 rfl rfl ?_
  refine r_imul dX12_matchPhrase_154 ?_
  refine r_iload 6 dX12_matchPhrase_155 rfl ?_
  refine r_iadd dX12_matchPhrase_157 ?_
  refine rr_raI hf hB dX12_matchPhrase_158 (by decide) rfl (fun v22 ev22 hf => ?_)
  refine r_icmp_ge 214 hf dX12_matchPhrase_159 (by decide) (fun c23 hf => ?_) (fun c23 hf => ?_)
  · refine r_sub (L' := [(0, _), (1, _), (2, _), (4, _), (5, _), (6, _), (7, _), (8, _)]) [0, 1, 2, 3, 4, 5, 6, 7] rfl ?_
    exact hk0 _ (ho _ (Option.some.inj hf).symm)
  · refine r_iload 7 dX12_matchPhrase_162 rfl ?_
    refine r_aload_n 0 dX12_matchPhrase_164 rfl rfl ?_
    refine r_iload_n 1 dX12_matchPhrase_165 rfl rfl ?_
    refine r_iload 6 dX12_matchPhrase_166 rfl ?_
    refine bnd hf (fun v24 ev24 hf => ?_)
    refine r_callSr dX12_matchPhrase_168 cs_RX12_189 ww_1276 (by decide) rfl (rest := [_, _]) rfl (Or.inl (Nat.le_of_ble_eq_true rfl)) (t_M_base ev24) ?_
    refine r_iload 8 dX12_matchPhrase_171 rfl ?_
    refine r_iadd dX12_matchPhrase_173 ?_
    refine r_iload 4 dX12_matchPhrase_174 rfl ?_
    refine bnd hf (fun v25 ev25 hf => ?_)
    refine r_callVr (ci := 12) rfl dX12_matchPhrase_176 cs_RX12_323 ww_1420 ww_69 (by decide) (hB.t0 _) (by decide) rfl (rest := [_]) rfl (Or.inl (Nat.le_of_ble_eq_true rfl)) (t_M_isToken hB ev25) ?_
    refine r_bd (fun (q26 : Int32) => V Γ MD_M_matchPhrase σ0 r (emb τ B R) 205 [(0, va_rf (some B)), (1, .int x1), (2, .int x2), (4, .int x4), (5, .int x5), (6, .int x6), (7, .int x7), (9, .int x9)] [.int q26, .int x8]) hf (fun q26 hf => ?_) (fun yq26 hf kq26 => ?_)
    · refine r_iadd dX12_matchPhrase_205 ?_
      refine r_istore (L' := [(8, _), (0, _), (1, _), (2, _), (4, _), (5, _), (6, _), (7, _), (9, _)]) dX12_matchPhrase_206 (show 8 < 12 by decide) rfl ?_
      refine r_iinc (1 : Int32) (L' := [(9, _), (8, _), (0, _), (1, _), (2, _), (4, _), (5, _), (6, _), (7, _)]) 8 dX12_matchPhrase_208 rfl (by decide) (show 9 < 12 by decide) rfl ?_
      refine r_goto 146 dX12_matchPhrase_211 (by decide) ?_
      refine r_sub (L' := [(0, _), (1, _), (2, _), (4, _), (5, _), (6, _), (7, _), (8, _), (9, _)]) [2, 3, 4, 5, 6, 7, 8, 1, 0] rfl ?_
      exact ih _ (Option.some.inj hf).symm
    · refine r_ifeqZ 204 hf dX12_matchPhrase_179 (by decide) (fun c27 hf => ?_) (fun c27 hf => ?_)
      · refine r_aload_n 0 dX12_matchPhrase_182 rfl rfl ?_
        refine r_iload_n 1 dX12_matchPhrase_183 rfl rfl ?_
        refine r_iload 6 dX12_matchPhrase_184 rfl ?_
        refine r_iload 8 dX12_matchPhrase_186 rfl ?_
        refine r_iload 4 dX12_matchPhrase_188 rfl ?_
        refine r_iload 5 dX12_matchPhrase_190 rfl ?_
        refine r_iload 3 dX12_matchPhrase_192 rfl ?_
        refine bnd hf (fun v28 ev28 hf => ?_)
        refine r_callVr (ci := 12) rfl dX12_matchPhrase_194 cs_RX12_367 ww_1459 ww_77 (by decide) (hB.t0 _) (by decide) rfl (rest := [_]) rfl (Or.inl (Nat.le_of_ble_eq_true rfl)) (t_M_goesOn hB ev28) ?_
        refine r_ifeqZ 204 hf dX12_matchPhrase_197 (by decide) (fun c29 hf => ?_) (fun c29 hf => ?_)
        · refine r_iconst (1 : Int32) dX12_matchPhrase_200 (by decide) ?_
          refine r_goto 205 dX12_matchPhrase_201 (by decide) ?_
          refine r_sub (L' := [(0, _), (1, _), (2, _), (4, _), (5, _), (6, _), (7, _), (9, _)]) [0, 1, 2, 3, 4, 5, 6, 8] rfl ?_
          cases (Option.some.inj hf)
          exact kq26
        · refine r_iconst (0 : Int32) dX12_matchPhrase_204 (by decide) ?_
          refine r_sub (L' := [(0, _), (1, _), (2, _), (4, _), (5, _), (6, _), (7, _), (9, _)]) [0, 1, 2, 3, 4, 5, 6, 8] rfl ?_
          cases (Option.some.inj hf)
          exact kq26
      · refine r_iconst (0 : Int32) dX12_matchPhrase_204 (by decide) ?_
        refine r_sub (L' := [(0, _), (1, _), (2, _), (4, _), (5, _), (6, _), (7, _), (9, _)]) [0, 1, 2, 3, 4, 5, 6, 8] rfl ?_
        cases (Option.some.inj hf)
        exact kq26
set_option maxRecDepth 100000 in
set_option maxHeartbeats 4000000 in
theorem x_M_matchPhrase_l229 {Γ : W0} {σ0 : Mem} {r : RT} {τ : Mem} {B : Nat} {R : RS} {x1 : Int32} {x2 : Int32} {x4 : Int32} {x5 : Int32} {x6 : Int32} {x7 : Int32} {x8 : Int32} {t : Int64} (hB : RB τ B) (hk0 : ∀ z : Int64, z = t → V Γ MD_M_matchPhrase σ0 r (emb τ B R) 266 [(0, va_rf (some B)), (1, .int x1), (2, .int x2), (4, .int x4), (5, .int x5), (6, .int x6), (7, .int x7), (8, .int x8), (9, .long z)] []) : ∀ q : Int64 × Int32, lp (fun q => M_matchPhrase_l229 R x1 x2 x4 x5 x6 x7 x8 q.1 q.2) q = some t → V Γ MD_M_matchPhrase σ0 r (emb τ B R) 229 [(0, va_rf (some B)), (1, .int x1), (2, .int x2), (4, .int x4), (5, .int x5), (6, .int x6), (7, .int x7), (8, .int x8), (9, .long q.1), (11, .int q.2)] [] := by
  refine lp_ind (fun (q : Int64 × Int32) => V Γ MD_M_matchPhrase σ0 r (emb τ B R) 229 [(0, va_rf (some B)), (1, .int x1), (2, .int x2), (4, .int x4), (5, .int x5), (6, .int x6), (7, .int x7), (8, .int x8), (9, .long q.1), (11, .int q.2)] []) (fun q x hf ih ho => ?_)
  obtain ⟨x9, x11⟩ := q
  show V Γ MD_M_matchPhrase σ0 r (emb τ B R) 229 [(0, va_rf (some B)), (1, .int x1), (2, .int x2), (4, .int x4), (5, .int x5), (6, .int x6), (7, .int x7), (8, .int x8), (9, .long x9), (11, .int x11)] []
  replace hf : M_matchPhrase_l229 R x1 x2 x4 x5 x6 x7 x8 x9 x11 = some x := hf
  unfold M_matchPhrase_l229 at hf
  refine r_iload 9 dX12_matchPhrase_229 rfl ?_
  refine r_iload 5 dX12_matchPhrase_231 rfl ?_
  refine r_icmp_gt 266 hf dX12_matchPhrase_233 (by decide) (fun c33 hf => ?_) (fun c33 hf => ?_)
  · refine r_sub (L' := [(0, _), (1, _), (2, _), (4, _), (5, _), (6, _), (7, _), (8, _), (9, _)]) [0, 1, 2, 3, 4, 5, 6, 7, 8] rfl ?_
    exact hk0 _ (ho _ (Option.some.inj hf).symm)
  · refine r_aload_n 0 dX12_matchPhrase_236 rfl rfl ?_
    refine rr_ldR (c := 33) hB dX12_matchPhrase_237 fl_RX12_118 rfl rfl (by decide) ?_
    refine r_iload 9 dX12_matchPhrase_240 rfl ?_
    refine rr_raI hf hB dX12_matchPhrase_242 (by decide) rfl (fun v34 ev34 hf => ?_)
    refine r_bd (fun (q35 : Int64) => V Γ MD_M_matchPhrase σ0 r (emb τ B R) 260 [(0, va_rf (some B)), (1, .int x1), (2, .int x2), (4, .int x4), (5, .int x5), (6, .int x6), (7, .int x7), (8, .int x8), (9, .long q35), (11, .int x11)] []) hf (fun q35 hf => ?_) (fun yq35 hf kq35 => ?_)
    · refine r_iinc (1 : Int32) (L' := [(11, _), (0, _), (1, _), (2, _), (4, _), (5, _), (6, _), (7, _), (8, _), (9, _)]) 9 dX12_matchPhrase_260 rfl (by decide) (show 11 < 12 by decide) rfl ?_
      refine r_goto 229 dX12_matchPhrase_263 (by decide) ?_
      refine r_sub (L' := [(0, _), (1, _), (2, _), (4, _), (5, _), (6, _), (7, _), (8, _), (9, _), (11, _)]) [1, 2, 3, 4, 5, 6, 7, 8, 9, 0] rfl ?_
      exact ih _ (Option.some.inj hf).symm
    · refine r_if_le 260 hf dX12_matchPhrase_243 (by decide) (fun c36 hf => ?_) (fun c36 hf => ?_)
      · refine r_sub (L' := [(0, _), (1, _), (2, _), (4, _), (5, _), (6, _), (7, _), (8, _), (9, _), (11, _)]) [0, 1, 2, 3, 4, 5, 6, 7, 8, 9] rfl ?_
        cases (Option.some.inj hf)
        exact kq35
      · refine r_lload 8 dX12_matchPhrase_246 rfl ?_
        refine r_aload_n 0 dX12_matchPhrase_248 rfl rfl ?_
        refine r_iload 6 dX12_matchPhrase_249 rfl ?_
        refine r_iload 9 dX12_matchPhrase_251 rfl ?_
        refine bnd hf (fun v37 ev37 hf => ?_)
        refine r_callVr (ci := 12) rfl dX12_matchPhrase_253 cs_RX12_354 ww_1424 ww_70 (by decide) (hB.t0 _) (by decide) rfl (rest := [_]) rfl (Or.inl (Nat.le_of_ble_eq_true rfl)) (t_M_rare hB ev37) ?_
        refine r_i2l dX12_matchPhrase_256 ?_
        refine r_ladd dX12_matchPhrase_257 ?_
        refine r_lstore (L' := [(9, _), (0, _), (1, _), (2, _), (4, _), (5, _), (6, _), (7, _), (8, _), (11, _)]) dX12_matchPhrase_258 (show 10 < 12 by decide) rfl ?_
        refine r_sub (L' := [(0, _), (1, _), (2, _), (4, _), (5, _), (6, _), (7, _), (8, _), (9, _), (11, _)]) [1, 2, 3, 4, 5, 6, 7, 8, 0, 9] rfl ?_
        cases (Option.some.inj hf)
        exact kq35
set_option maxRecDepth 100000 in
set_option maxHeartbeats 4000000 in
theorem x_M_matchPhrase_l110 {Γ : W0} {σ0 : Mem} {r : RT} {τ : Mem} {B : Nat} {x1 : Int32} {x2 : Int32} {x4 : Int32} {x5 : Int32} {x6 : Int32} {t : RS} (hB : RB τ B) (hk0 : ∀ z : RS, z = t → V Γ MD_M_matchPhrase σ0 r (emb τ B z) 290 [] []) : ∀ q : Int32 × RS, lp (fun q => M_matchPhrase_l110 q.2 x1 x2 x4 x5 x6 q.1) q = some t → V Γ MD_M_matchPhrase σ0 r (emb τ B q.2) 110 [(0, va_rf (some B)), (1, .int x1), (2, .int x2), (4, .int x4), (5, .int x5), (6, .int x6), (7, .int q.1)] [] := by
  refine lp_ind (fun (q : Int32 × RS) => V Γ MD_M_matchPhrase σ0 r (emb τ B q.2) 110 [(0, va_rf (some B)), (1, .int x1), (2, .int x2), (4, .int x4), (5, .int x5), (6, .int x6), (7, .int q.1)] []) (fun q x hf ih ho => ?_)
  obtain ⟨x7, R⟩ := q
  show V Γ MD_M_matchPhrase σ0 r (emb τ B R) 110 [(0, va_rf (some B)), (1, .int x1), (2, .int x2), (4, .int x4), (5, .int x5), (6, .int x6), (7, .int x7)] []
  replace hf : M_matchPhrase_l110 R x1 x2 x4 x5 x6 x7 = some x := hf
  unfold M_matchPhrase_l110 at hf
  refine r_iload 6 dX12_matchPhrase_110 rfl ?_
  refine r_iconst (2 : Int32) dX12_matchPhrase_112 (by decide) ?_
  refine r_icmp_ge 290 hf dX12_matchPhrase_113 (by decide) (fun c15 hf => ?_) (fun c15 hf => ?_)
  · refine r_sub (L' := []) [] rfl ?_
    exact hk0 _ (ho _ (Option.some.inj hf).symm)
  · refine r_aload_n 0 dX12_matchPhrase_116 rfl rfl ?_
    refine rr_ldR (c := 30) hB dX12_matchPhrase_117 fl_RX12_109 rfl rfl (by decide) ?_
    refine r_iload_n 2 dX12_matchPhrase_120 rfl rfl ?_
    refine rr_raI hf hB dX12_matchPhrase_121 (by decide) rfl (fun v16 ev16 hf => ?_)
    refine r_iconst (-1 : Int32) dX12_matchPhrase_122 (by decide) ?_
    refine r_bd (fun (q17 : RS) => V Γ MD_M_matchPhrase σ0 r (emb τ B q17) 284 [(0, va_rf (some B)), (1, .int x1), (2, .int x2), (4, .int x4), (5, .int x5), (6, .int x6), (7, .int x7)] []) hf (fun q17 hf => ?_) (fun yq17 hf kq17 => ?_)
    · refine r_iinc (1 : Int32) (L' := [(7, _), (0, _), (1, _), (2, _), (4, _), (5, _), (6, _)]) 6 dX12_matchPhrase_284 rfl (by decide) (show 7 < 12 by decide) rfl ?_
      refine r_goto 110 dX12_matchPhrase_287 (by decide) ?_
      refine r_sub (L' := [(0, _), (1, _), (2, _), (4, _), (5, _), (6, _), (7, _)]) [1, 2, 3, 4, 5, 6, 0] rfl ?_
      exact ih _ (Option.some.inj hf).symm
    · refine r_jn (fun (q18 : Unit) => V Γ MD_M_matchPhrase σ0 r (emb τ B R) 140 [(0, va_rf (some B)), (1, .int x1), (2, .int x2), (4, .int x4), (5, .int x5), (6, .int x6), (7, .int x7)] []) hf (fun q18 hf => ?_) (fun yq18 hf oq18 kq18 => ?_)
      · refine r_iconst (0 : Int32) dX12_matchPhrase_140 (by decide) ?_
        refine r_istore (L' := [(8, _), (0, _), (1, _), (2, _), (4, _), (5, _), (6, _), (7, _)]) dX12_matchPhrase_141 (show 8 < 12 by decide) rfl ?_
        refine r_iconst (0 : Int32) dX12_matchPhrase_143 (by decide) ?_
        refine r_istore (L' := [(9, _), (8, _), (0, _), (1, _), (2, _), (4, _), (5, _), (6, _), (7, _)]) dX12_matchPhrase_144 (show 9 < 12 by decide) rfl ?_
        refine bnd hf (fun t30 et30 hf => ?_)
        refine r_sub (L' := [(0, _), (1, _), (2, _), (4, _), (5, _), (6, _), (7, _), (8, _), (9, _)]) [2, 3, 4, 5, 6, 7, 8, 1, 0] rfl ?_
        refine x_M_matchPhrase_l146 hB ?_ _ et30
        · intro z31 hz31
          subst hz31
          refine r_iload 7 dX12_matchPhrase_214 rfl ?_
          refine r_if_ne 222 hf dX12_matchPhrase_216 (by decide) (fun c32 hf => ?_) (fun c32 hf => ?_)
          · refine r_lconst (0 : Int64) dX12_matchPhrase_222 (by decide) ?_
            refine r_lstore (L' := [(9, _), (0, _), (1, _), (2, _), (4, _), (5, _), (6, _), (7, _), (8, _)]) dX12_matchPhrase_223 (show 10 < 12 by decide) rfl ?_
            refine r_iload 5 dX12_matchPhrase_225 rfl ?_
            refine r_istore (L' := [(11, _), (9, _), (0, _), (1, _), (2, _), (4, _), (5, _), (6, _), (7, _), (8, _)]) dX12_matchPhrase_227 (show 11 < 12 by decide) rfl ?_
            refine bnd hf (fun t38 et38 hf => ?_)
            refine r_sub (L' := [(0, _), (1, _), (2, _), (4, _), (5, _), (6, _), (7, _), (8, _), (9, _), (11, _)]) [2, 3, 4, 5, 6, 7, 8, 9, 1, 0] rfl ?_
            refine x_M_matchPhrase_l229 hB ?_ _ et38
            · intro z39 hz39
              subst hz39
              refine r_aload_n 0 dX12_matchPhrase_266 rfl rfl ?_
              refine r_aload_n 0 dX12_matchPhrase_267 rfl rfl ?_
              refine r_iload_n 1 dX12_matchPhrase_268 rfl rfl ?_
              refine r_iload 6 dX12_matchPhrase_269 rfl ?_
              refine r_iload 7 dX12_matchPhrase_271 rfl ?_
              refine r_lload 8 dX12_matchPhrase_273 rfl ?_
              refine bnd hf (fun v40 ev40 hf => ?_)
              refine r_callSr dX12_matchPhrase_275 cs_RX12_342 ww_1436 (by decide) rfl (rest := [_, _, _, _, _]) rfl (Or.inr (Nat.le_of_ble_eq_true rfl)) (t_M_least ev40) ?_
              refine bnd hf (fun v41 ev41 hf => ?_)
              refine r_callVr (ci := 12) rfl dX12_matchPhrase_278 cs_RX12_357 ww_1432 ww_72 (by decide) (hB.t0 _) (by decide) rfl (rest := [_]) rfl (Or.inl (Nat.le_of_ble_eq_true rfl)) (t_M_score hB ev41) ?_
              refine bnd hf (fun v42 ev42 hf => ?_)
              refine r_callVv (ci := 12) rfl dX12_matchPhrase_281 cs_RX12_361 ww_1443 ww_73 (by decide) (hB.t0 _) (by decide) rfl (rest := []) rfl (Or.inl (Nat.le_of_ble_eq_true rfl)) (t_M_come hB ev42) ?_
              refine r_sub (L' := [(0, _), (1, _), (2, _), (4, _), (5, _), (6, _), (7, _)]) [0, 1, 2, 3, 4, 5, 6] rfl ?_
              cases (Option.some.inj hf)
              exact kq17
          · refine r_goto 284 dX12_matchPhrase_219 (by decide) ?_
            refine r_sub (L' := [(0, _), (1, _), (2, _), (4, _), (5, _), (6, _), (7, _)]) [0, 1, 2, 3, 4, 5, 6] rfl ?_
            cases (Option.some.inj hf)
            exact kq17
      · refine r_icmp_eq 140 hf dX12_matchPhrase_123 (by decide) (fun c19 hf => ?_) (fun c19 hf => ?_)
        · refine r_sub (L' := [(0, _), (1, _), (2, _), (4, _), (5, _), (6, _), (7, _)]) [0, 1, 2, 3, 4, 5, 6] rfl ?_
          exact kq18 _ (Option.some.inj hf).symm
        · refine r_aload_n 0 dX12_matchPhrase_126 rfl rfl ?_
          refine rr_ldR (c := 30) hB dX12_matchPhrase_127 fl_RX12_109 rfl rfl (by decide) ?_
          refine r_iload_n 2 dX12_matchPhrase_130 rfl rfl ?_
          refine rr_raI hf hB dX12_matchPhrase_131 (by decide) rfl (fun v20 ev20 hf => ?_)
          refine r_iload 6 dX12_matchPhrase_132 rfl ?_
          refine r_icmp_eq 140 hf dX12_matchPhrase_134 (by decide) (fun c21 hf => ?_) (fun c21 hf => ?_)
          · refine r_sub (L' := [(0, _), (1, _), (2, _), (4, _), (5, _), (6, _), (7, _)]) [0, 1, 2, 3, 4, 5, 6] rfl ?_
            exact kq18 _ (Option.some.inj hf).symm
          · refine r_goto 284 dX12_matchPhrase_137 (by decide) ?_
            refine r_sub (L' := [(0, _), (1, _), (2, _), (4, _), (5, _), (6, _), (7, _)]) [0, 1, 2, 3, 4, 5, 6] rfl ?_
            cases (oq18 _ (Option.some.inj hf).symm)
            exact kq17
set_option maxRecDepth 100000 in
set_option maxHeartbeats 4000000 in
theorem t_M_matchPhrase {Γ : W0} {τ : Mem} {B : Nat} {R : RS} {x1 : Int32} {x2 : Int32} {R' : RS} (hB : RB τ B) (hf : M_matchPhrase R x1 x2 = some R') : CT Γ MD_M_matchPhrase yX12_matchPhrase [va_rf (some B), .int x1, .int x2] (emb τ B R) (none, (emb τ B R')) := by
  refine CT.of (L := [(0, va_rf (some B)), (1, .int x1), (2, .int x2)]) rfl (by decide) (fun h => Bool.noConfusion (show false = true from h)) (Nat.le_of_ble_eq_true rfl) rfl ?_
  unfold M_matchPhrase at hf
  generalize hr : mkR Γ (emb τ B R) (none) (emb τ B R') = r
  refine r_aload_n 0 dX12_matchPhrase_0 rfl rfl ?_
  refine rr_ldR (c := 32) hB dX12_matchPhrase_1 fl_RX12_115 rfl rfl (by decide) ?_
  refine r_iload_n 2 dX12_matchPhrase_4 rfl rfl ?_
  refine rr_raI hf hB dX12_matchPhrase_5 (by decide) rfl (fun v1 ev1 hf => ?_)
  refine r_bipush (16 : Int32) dX12_matchPhrase_6 (by decide) ?_
  refine r_irem dX12_matchPhrase_8 (by decide) ?_
  refine r_istore_n (L' := [(3, _), (0, _), (1, _), (2, _)]) dX12_matchPhrase_9 rfl (show 3 < 12 by decide) rfl ?_
  refine r_aload_n 1 dX12_matchPhrase_10 rfl rfl ?_
  refine rr_ldR (c := 32) hB dX12_matchPhrase_11 fl_RX12_115 rfl rfl (by decide) ?_
  refine r_iload_n 3 dX12_matchPhrase_14 rfl rfl ?_
  refine rr_raI hf hB dX12_matchPhrase_15 (by decide) rfl (fun v2 ev2 hf => ?_)
  refine r_bipush (16 : Int32) dX12_matchPhrase_16 (by decide) ?_
  refine r_idiv dX12_matchPhrase_18 (by decide) ?_
  refine r_istore (L' := [(4, _), (3, _), (0, _), (1, _), (2, _)]) dX12_matchPhrase_19 (show 4 < 12 by decide) rfl ?_
  refine r_iconst (-1 : Int32) dX12_matchPhrase_21 (by decide) ?_
  refine r_istore (L' := [(5, _), (4, _), (3, _), (0, _), (1, _), (2, _)]) dX12_matchPhrase_22 (show 5 < 12 by decide) rfl ?_
  refine r_iconst (-1 : Int32) dX12_matchPhrase_24 (by decide) ?_
  refine r_istore (L' := [(6, _), (5, _), (4, _), (3, _), (0, _), (1, _), (2, _)]) dX12_matchPhrase_25 (show 6 < 12 by decide) rfl ?_
  refine r_iconst (0 : Int32) dX12_matchPhrase_27 (by decide) ?_
  refine r_istore (L' := [(7, _), (6, _), (5, _), (4, _), (3, _), (0, _), (1, _), (2, _)]) dX12_matchPhrase_28 (show 7 < 12 by decide) rfl ?_
  refine bnd hf (fun t12 et12 hf => ?_)
  refine r_sub (L' := [(0, _), (1, _), (2, _), (3, _), (4, _), (5, _), (6, _), (7, _)]) [5, 6, 7, 4, 3, 2, 1, 0] rfl ?_
  refine x_M_matchPhrase_l30 hB ?_ _ et12
  · intro z13 hz13
    subst hz13
    refine r_iload 4 dX12_matchPhrase_95 rfl ?_
    refine r_iconst (-1 : Int32) dX12_matchPhrase_97 (by decide) ?_
    refine r_icmp_ne 107 hf dX12_matchPhrase_98 (by decide) (fun c14 hf => ?_) (fun c14 hf => ?_)
    · refine r_iconst (0 : Int32) dX12_matchPhrase_107 (by decide) ?_
      refine r_istore (L' := [(7, _), (0, _), (1, _), (2, _), (4, _), (5, _), (6, _)]) dX12_matchPhrase_108 (show 7 < 12 by decide) rfl ?_
      refine bnd hf (fun t43 et43 hf => ?_)
      refine r_sub (L' := [(0, _), (1, _), (2, _), (4, _), (5, _), (6, _), (7, _)]) [1, 2, 3, 4, 5, 6, 0] rfl ?_
      refine x_M_matchPhrase_l110 hB ?_ _ et43
      · intro z44 hz44
        subst hz44
        exact r_vret rfl dX12_matchPhrase_290 (by have h1 := (Option.some.inj hf); subst h1; exact hr.symm)
    · refine r_aload_n 0 dX12_matchPhrase_101 rfl rfl ?_
      refine r_iconst (b2i true) dX12_matchPhrase_102 rfl ?_
      refine rr_stB hf hB dX12_matchPhrase_103 fl_RX12_347 rfl rfl (fun R45 eR45 hf => ?_)
      exact r_vret rfl dX12_matchPhrase_106 (by have h1 := (Option.some.inj hf); subst h1; exact hr.symm)
/-! SearchEngineModel.put -/
noncomputable def M_put_ (R : RS) (x1 : Bool) (x2 : Int32) : Option RS :=
  (wrB R 42 420 (R.1 0 68) x1).bind fun R1 =>
  Option.bind (
    if x1 = true then
      some x2
    else
      some (0 : Int32)) fun q2 =>
  (wrI R1 43 420 (R1.1 0 68) q2).bind fun R4 =>
  (some (pI R4 68 ((R4.1 0 68) + (1 : Int32)))).bind fun R5 =>
  some R5
set_option maxRecDepth 100000 in
set_option maxHeartbeats 4000000 in
theorem t_M_put_ {Γ : W0} {τ : Mem} {B : Nat} {R : RS} {x1 : Bool} {x2 : Int32} {R' : RS} (hB : RB τ B) (hf : M_put_ R x1 x2 = some R') : CT Γ MD_M_put_ yX12_put_ [va_rf (some B), .int (b2i x1), .int x2] (emb τ B R) (none, (emb τ B R')) := by
  refine CT.of (L := [(0, va_rf (some B)), (1, .int (b2i x1)), (2, .int x2)]) rfl (by decide) (fun h => Bool.noConfusion (show false = true from h)) (Nat.le_of_ble_eq_true rfl) rfl ?_
  unfold M_put_ at hf
  generalize hr : mkR Γ (emb τ B R) (none) (emb τ B R') = r
  refine r_aload_n 0 dX12_put__0 rfl rfl ?_
  refine rr_ldR (c := 42) hB dX12_put__1 fl_RX12_145 rfl rfl (by decide) ?_
  refine r_aload_n 0 dX12_put__4 rfl rfl ?_
  refine rr_ldI (k := 68) hB dX12_put__5 fl_RX12_371 rfl ?_
  refine r_iload_n 1 dX12_put__8 rfl rfl ?_
  refine rr_waB hf hB dX12_put__9 (by decide) rfl (fun R1 eR1 hf => ?_)
  refine r_aload_n 0 dX12_put__10 rfl rfl ?_
  refine rr_ldR (c := 43) hB dX12_put__11 fl_RX12_148 rfl rfl (by decide) ?_
  refine r_aload_n 0 dX12_put__14 rfl rfl ?_
  refine rr_ldI (k := 68) hB dX12_put__15 fl_RX12_371 rfl ?_
  refine r_iload_n 1 dX12_put__18 rfl rfl ?_
  refine r_bd (fun (q2 : Int32) => V Γ MD_M_put_ (emb τ B R) r (emb τ B R1) 27 [(0, va_rf (some B))] [.int q2, .int (R1.1 0 68), va_rf (some (B + 43))]) hf (fun q2 hf => ?_) (fun yq2 hf kq2 => ?_)
  · refine rr_waI hf hB dX12_put__27 (by decide) rfl (fun R4 eR4 hf => ?_)
    refine r_aload_n 0 dX12_put__28 rfl rfl ?_
    refine r_dup dX12_put__29 (cat_rf _) ?_
    refine rr_ldI (k := 68) hB dX12_put__30 fl_RX12_371 rfl ?_
    refine r_iconst (1 : Int32) dX12_put__33 (by decide) ?_
    refine r_iadd dX12_put__34 ?_
    refine rr_stI hf hB dX12_put__35 fl_RX12_371 rfl rfl rfl (fun R5 eR5 hf => ?_)
    exact r_vret rfl dX12_put__38 (by have h1 := (Option.some.inj hf); subst h1; exact hr.symm)
  · refine r_ifeqZ 26 hf dX12_put__19 (by decide) (fun c3 hf => ?_) (fun c3 hf => ?_)
    · refine r_iload_n 2 dX12_put__22 rfl rfl ?_
      refine r_goto 27 dX12_put__23 (by decide) ?_
      refine r_sub (L' := [(0, _)]) [0] rfl ?_
      cases (Option.some.inj hf)
      exact kq2
    · refine r_iconst (0 : Int32) dX12_put__26 (by decide) ?_
      refine r_sub (L' := [(0, _)]) [0] rfl ?_
      cases (Option.some.inj hf)
      exact kq2
/-! SearchEngineModel.work -/
noncomputable def M_work_l283 (R : RS) (x2 : Int32) (x3 : Int32) (x4 : Bool) (x5 : Int64) (x7 : Int32) : Option ((Bool × Int64 × Int32) ⊕ (Bool × Int64)) :=
  if ((R.1 0 68) + x3) ≤ x7 then
    some (Sum.inr (x4, x5))
  else
    (rdI R 29 400 x2).bind fun v44 =>
    Option.bind (
      if ¬ v44 = (7 : Int32) then
        if x4 = true then
          some true
        else
          (rdB R 42 420 x7).bind fun v48 =>
          if v48 = true then
            some true
          else
            some false
      else
        if x4 = true then
          (rdB R 42 420 x7).bind fun v51 =>
          if v51 = true then
            some true
          else
            some false
        else
          some false) fun q45 =>
    (rdI R 43 420 x7).bind fun v53 =>
    (M_least (x5 + v53.toInt64)).bind fun v54 =>
    some (Sum.inl (q45, v54.toInt64, (x7 + (1 : Int32))))
noncomputable def M_work (R : RS) (x1 : Int32) (x2 : Int32) : Option RS :=
  (some (pB R 64 false)).bind fun R1 =>
  (some (pL R1 65 (0 : Int64))).bind fun R2 =>
  (rdI R2 29 400 x2).bind fun v3 =>
  Option.bind (
    if ¬ v3 = (1 : Int32) then
      some R2
    else
      (M_matchWord R2 x1 x2).bind fun v6 =>
      some v6) fun q4 =>
  (rdI q4 29 400 x2).bind fun v7 =>
  Option.bind (
    if ¬ v7 = (2 : Int32) then
      some q4
    else
      (M_matchStarts q4 x1 x2).bind fun v10 =>
      some v10) fun q8 =>
  (rdI q8 29 400 x2).bind fun v11 =>
  Option.bind (
    if ¬ v11 = (3 : Int32) then
      some q8
    else
      (M_matchPhrase q8 x1 x2).bind fun v14 =>
      some v14) fun q12 =>
  (rdI q12 29 400 x2).bind fun v15 =>
  Option.bind (
    if ¬ v15 = (4 : Int32) then
      some q12
    else
      (rdI q12 30 400 x2).bind fun v18 =>
      Option.bind (
        if ¬ v18 = 0 then
          (rdI q12 4 400 x1).bind fun v21 =>
          some v21
        else
          (rdI q12 3 400 x1).bind fun v22 =>
          some v22) fun q19 =>
      (rdI q12 31 400 x2).bind fun v23 =>
      (rdI q12 32 400 x2).bind fun v24 =>
      (M_in q19 v23 v24).bind fun v25 =>
      (some (pB q12 64 v25)).bind fun R26 =>
      some R26) fun q16 =>
  (rdI q16 29 400 x2).bind fun v27 =>
  if (4 : Int32) < v27 then
    (rdI q16 29 400 x2).bind fun v29 =>
    Option.bind (
      if v29 = (5 : Int32) then
        some (1 : Int32)
      else
        (rdI q16 29 400 x2).bind fun v32 =>
        if ¬ v32 = (6 : Int32) then
          (rdI q16 31 400 x2).bind fun v34 =>
          some v34
        else
          some (1 : Int32)) fun q30 =>
    (some (pI q16 68 ((q16.1 0 68) - q30))).bind fun R35 =>
    (rdI R35 29 400 x2).bind fun v36 =>
    if ¬ v36 = (5 : Int32) then
      (rdI R35 29 400 x2).bind fun v38 =>
      if ¬ v38 = (6 : Int32) then
        (rdI R35 29 400 x2).bind fun v40 =>
        Option.bind (
          if ¬ v40 = (7 : Int32) then
            some false
          else
            some true) fun q41 =>
        (lp (fun q => M_work_l283 R35 x2 q30 q.1 q.2.1 q.2.2) (q41, (0 : Int64), (R35.1 0 68))).bind fun z56 =>
        (M_put_ R35 z56.1 z56.2.toInt32).bind fun v57 =>
        some v57
      else
        (rdB R35 42 420 (R35.1 0 68)).bind fun v58 =>
        (rdI R35 43 420 (R35.1 0 68)).bind fun v59 =>
        (rdI R35 31 400 x2).bind fun v60 =>
        (M_least (v59.toInt64 * v60.toInt64)).bind fun v61 =>
        (M_put_ R35 v58 v61).bind fun v62 =>
        some v62
    else
      (rdB R35 42 420 (R35.1 0 68)).bind fun v63 =>
      Option.bind (
        if v63 = true then
          some false
        else
          some true) fun q64 =>
      (M_put_ R35 q64 (0 : Int32)).bind fun v66 =>
      some v66
  else
    (M_put_ q16 (q16.2.2 0 64) ((q16.2.1 0 65).toInt32)).bind fun v67 =>
    some v67
set_option maxRecDepth 100000 in
set_option maxHeartbeats 4000000 in
theorem x_M_work_l283 {Γ : W0} {σ0 : Mem} {r : RT} {τ : Mem} {B : Nat} {R : RS} {x2 : Int32} {x3 : Int32} {t : Bool × Int64} (hB : RB τ B) (hk0 : ∀ z : Bool × Int64, z = t → V Γ MD_M_work σ0 r (emb τ B R) 373 [(0, va_rf (some B)), (4, .int (b2i z.1)), (5, .long z.2)] []) : ∀ q : Bool × Int64 × Int32, lp (fun q => M_work_l283 R x2 x3 q.1 q.2.1 q.2.2) q = some t → V Γ MD_M_work σ0 r (emb τ B R) 283 [(0, va_rf (some B)), (2, .int x2), (3, .int x3), (4, .int (b2i q.1)), (5, .long q.2.1), (7, .int q.2.2)] [] := by
  refine lp_ind (fun (q : Bool × Int64 × Int32) => V Γ MD_M_work σ0 r (emb τ B R) 283 [(0, va_rf (some B)), (2, .int x2), (3, .int x3), (4, .int (b2i q.1)), (5, .long q.2.1), (7, .int q.2.2)] []) (fun q x hf ih ho => ?_)
  obtain ⟨x4, x5, x7⟩ := q
  show V Γ MD_M_work σ0 r (emb τ B R) 283 [(0, va_rf (some B)), (2, .int x2), (3, .int x3), (4, .int (b2i x4)), (5, .long x5), (7, .int x7)] []
  replace hf : M_work_l283 R x2 x3 x4 x5 x7 = some x := hf
  unfold M_work_l283 at hf
  refine r_iload 5 dX12_work_283 rfl ?_
  refine r_aload_n 0 dX12_work_285 rfl rfl ?_
  refine rr_ldI (k := 68) hB dX12_work_286 fl_RX12_371 rfl ?_
  refine r_iload_n 2 dX12_work_289 rfl rfl ?_
  refine r_iadd dX12_work_290 ?_
  refine r_icmp_ge 373 hf dX12_work_291 (by decide) (fun c43 hf => ?_) (fun c43 hf => ?_)
  · refine r_sub (L' := [(0, _), (4, _), (5, _)]) [0, 3, 4] rfl ?_
    exact hk0 _ (ho _ (Option.some.inj hf).symm)
  · refine r_aload_n 0 dX12_work_294 rfl rfl ?_
    refine rr_ldR (c := 29) hB dX12_work_295 fl_RX12_106 rfl rfl (by decide) ?_
    refine r_iload_n 1 dX12_work_298 rfl rfl ?_
    refine rr_raI hf hB dX12_work_299 (by decide) rfl (fun v44 ev44 hf => ?_)
    refine r_bipush (7 : Int32) dX12_work_300 (by decide) ?_
    refine r_bd (fun (q45 : Bool) => V Γ MD_M_work σ0 r (emb τ B R) 348 [(0, va_rf (some B)), (2, .int x2), (3, .int x3), (5, .long x5), (7, .int x7)] [.int (b2i q45)]) hf (fun q45 hf => ?_) (fun yq45 hf kq45 => ?_)
    · refine r_istore (L' := [(4, _), (0, _), (2, _), (3, _), (5, _), (7, _)]) dX12_work_348 (show 4 < 8 by decide) rfl ?_
      refine r_lload 4 dX12_work_350 rfl ?_
      refine r_aload_n 1 dX12_work_352 rfl rfl ?_
      refine rr_ldR (c := 43) hB dX12_work_353 fl_RX12_148 rfl rfl (by decide) ?_
      refine r_iload 5 dX12_work_356 rfl ?_
      refine rr_raI hf hB dX12_work_358 (by decide) rfl (fun v53 ev53 hf => ?_)
      refine r_i2l dX12_work_359 ?_
      refine r_ladd dX12_work_360 ?_
      refine bnd hf (fun v54 ev54 hf => ?_)
      refine r_callSr dX12_work_361 cs_RX12_342 ww_1436 (by decide) rfl (rest := []) rfl (Or.inl (Nat.le_of_ble_eq_true rfl)) (t_M_least ev54) ?_
      refine r_i2l dX12_work_364 ?_
      refine r_lstore (L' := [(5, _), (4, _), (0, _), (2, _), (3, _), (7, _)]) dX12_work_365 (show 6 < 8 by decide) rfl ?_
      refine r_iinc (1 : Int32) (L' := [(7, _), (5, _), (4, _), (0, _), (2, _), (3, _)]) 5 dX12_work_367 rfl (by decide) (show 7 < 8 by decide) rfl ?_
      refine r_goto 283 dX12_work_370 (by decide) ?_
      refine r_sub (L' := [(0, _), (2, _), (3, _), (4, _), (5, _), (7, _)]) [3, 4, 5, 2, 1, 0] rfl ?_
      exact ih _ (Option.some.inj hf).symm
    · refine r_icmp_ne 328 hf dX12_work_302 (by decide) (fun c46 hf => ?_) (fun c46 hf => ?_)
      · refine r_iload 3 dX12_work_328 rfl ?_
        refine r_ifneZ 343 hf dX12_work_330 (by decide) (fun c47 hf => ?_) (fun c47 hf => ?_)
        · refine r_iconst (b2i true) dX12_work_343 rfl ?_
          refine r_goto 348 dX12_work_344 (by decide) ?_
          refine r_sub (L' := [(0, _), (2, _), (3, _), (5, _), (7, _)]) [0, 1, 2, 4, 5] rfl ?_
          cases (Option.some.inj hf)
          exact kq45
        · refine r_aload_n 0 dX12_work_333 rfl rfl ?_
          refine rr_ldR (c := 42) hB dX12_work_334 fl_RX12_145 rfl rfl (by decide) ?_
          refine r_iload 5 dX12_work_337 rfl ?_
          refine rr_raB hf hB dX12_work_339 (by decide) rfl (fun v48 ev48 hf => ?_)
          refine r_ifeqZ 347 hf dX12_work_340 (by decide) (fun c49 hf => ?_) (fun c49 hf => ?_)
          · refine r_iconst (b2i true) dX12_work_343 rfl ?_
            refine r_goto 348 dX12_work_344 (by decide) ?_
            refine r_sub (L' := [(0, _), (2, _), (3, _), (5, _), (7, _)]) [0, 1, 2, 4, 5] rfl ?_
            cases (Option.some.inj hf)
            exact kq45
          · refine r_iconst (b2i false) dX12_work_347 rfl ?_
            refine r_sub (L' := [(0, _), (2, _), (3, _), (5, _), (7, _)]) [0, 1, 2, 4, 5] rfl ?_
            cases (Option.some.inj hf)
            exact kq45
      · refine r_iload 3 dX12_work_305 rfl ?_
        refine r_ifeqZ 324 hf dX12_work_307 (by decide) (fun c50 hf => ?_) (fun c50 hf => ?_)
        · refine r_aload_n 0 dX12_work_310 rfl rfl ?_
          refine rr_ldR (c := 42) hB dX12_work_311 fl_RX12_145 rfl rfl (by decide) ?_
          refine r_iload 5 dX12_work_314 rfl ?_
          refine rr_raB hf hB dX12_work_316 (by decide) rfl (fun v51 ev51 hf => ?_)
          refine r_ifeqZ 324 hf dX12_work_317 (by decide) (fun c52 hf => ?_) (fun c52 hf => ?_)
          · refine r_iconst (b2i true) dX12_work_320 rfl ?_
            refine r_goto 348 dX12_work_321 (by decide) ?_
            refine r_sub (L' := [(0, _), (2, _), (3, _), (5, _), (7, _)]) [0, 1, 2, 4, 5] rfl ?_
            cases (Option.some.inj hf)
            exact kq45
          · refine r_iconst (b2i false) dX12_work_324 rfl ?_
            refine r_goto 348 dX12_work_325 (by decide) ?_
            refine r_sub (L' := [(0, _), (2, _), (3, _), (5, _), (7, _)]) [0, 1, 2, 4, 5] rfl ?_
            cases (Option.some.inj hf)
            exact kq45
        · refine r_iconst (b2i false) dX12_work_324 rfl ?_
          refine r_goto 348 dX12_work_325 (by decide) ?_
          refine r_sub (L' := [(0, _), (2, _), (3, _), (5, _), (7, _)]) [0, 1, 2, 4, 5] rfl ?_
          cases (Option.some.inj hf)
          exact kq45
set_option maxRecDepth 100000 in
set_option maxHeartbeats 4000000 in
theorem t_M_work {Γ : W0} {τ : Mem} {B : Nat} {R : RS} {x1 : Int32} {x2 : Int32} {R' : RS} (hB : RB τ B) (hf : M_work R x1 x2 = some R') : CT Γ MD_M_work yX12_work [va_rf (some B), .int x1, .int x2] (emb τ B R) (none, (emb τ B R')) := by
  refine CT.of (L := [(0, va_rf (some B)), (1, .int x1), (2, .int x2)]) rfl (by decide) (fun h => Bool.noConfusion (show false = true from h)) (Nat.le_of_ble_eq_true rfl) rfl ?_
  unfold M_work at hf
  generalize hr : mkR Γ (emb τ B R) (none) (emb τ B R') = r
  refine r_aload_n 0 dX12_work_0 rfl rfl ?_
  refine r_iconst (b2i false) dX12_work_1 rfl ?_
  refine rr_stB hf hB dX12_work_2 fl_RX12_347 rfl rfl (fun R1 eR1 hf => ?_)
  refine r_aload_n 0 dX12_work_5 rfl rfl ?_
  refine r_lconst (0 : Int64) dX12_work_6 (by decide) ?_
  refine rr_stL hf hB dX12_work_7 fl_RX12_350 rfl rfl (fun R2 eR2 hf => ?_)
  refine r_aload_n 0 dX12_work_10 rfl rfl ?_
  refine rr_ldR (c := 29) hB dX12_work_11 fl_RX12_106 rfl rfl (by decide) ?_
  refine r_iload_n 2 dX12_work_14 rfl rfl ?_
  refine rr_raI hf hB dX12_work_15 (by decide) rfl (fun v3 ev3 hf => ?_)
  refine r_iconst (1 : Int32) dX12_work_16 (by decide) ?_
  refine r_bd (fun (q4 : RS) => V Γ MD_M_work (emb τ B R) r (emb τ B q4) 26 [(0, va_rf (some B)), (1, .int x1), (2, .int x2)] []) hf (fun q4 hf => ?_) (fun yq4 hf kq4 => ?_)
  · refine r_aload_n 0 dX12_work_26 rfl rfl ?_
    refine rr_ldR (c := 29) hB dX12_work_27 fl_RX12_106 rfl rfl (by decide) ?_
    refine r_iload_n 2 dX12_work_30 rfl rfl ?_
    refine rr_raI hf hB dX12_work_31 (by decide) rfl (fun v7 ev7 hf => ?_)
    refine r_iconst (2 : Int32) dX12_work_32 (by decide) ?_
    refine r_bd (fun (q8 : RS) => V Γ MD_M_work (emb τ B R) r (emb τ B q8) 42 [(0, va_rf (some B)), (1, .int x1), (2, .int x2)] []) hf (fun q8 hf => ?_) (fun yq8 hf kq8 => ?_)
    · refine r_aload_n 0 dX12_work_42 rfl rfl ?_
      refine rr_ldR (c := 29) hB dX12_work_43 fl_RX12_106 rfl rfl (by decide) ?_
      refine r_iload_n 2 dX12_work_46 rfl rfl ?_
      refine rr_raI hf hB dX12_work_47 (by decide) rfl (fun v11 ev11 hf => ?_)
      refine r_iconst (3 : Int32) dX12_work_48 (by decide) ?_
      refine r_bd (fun (q12 : RS) => V Γ MD_M_work (emb τ B R) r (emb τ B q12) 58 [(0, va_rf (some B)), (1, .int x1), (2, .int x2)] []) hf (fun q12 hf => ?_) (fun yq12 hf kq12 => ?_)
      · refine r_aload_n 0 dX12_work_58 rfl rfl ?_
        refine rr_ldR (c := 29) hB dX12_work_59 fl_RX12_106 rfl rfl (by decide) ?_
        refine r_iload_n 2 dX12_work_62 rfl rfl ?_
        refine rr_raI hf hB dX12_work_63 (by decide) rfl (fun v15 ev15 hf => ?_)
        refine r_iconst (4 : Int32) dX12_work_64 (by decide) ?_
        refine r_bd (fun (q16 : RS) => V Γ MD_M_work (emb τ B R) r (emb τ B q16) 111 [(0, va_rf (some B)), (2, .int x2)] []) hf (fun q16 hf => ?_) (fun yq16 hf kq16 => ?_)
        · refine r_aload_n 0 dX12_work_111 rfl rfl ?_
          refine rr_ldR (c := 29) hB dX12_work_112 fl_RX12_106 rfl rfl (by decide) ?_
          refine r_iload_n 1 dX12_work_115 rfl rfl ?_
          refine rr_raI hf hB dX12_work_116 (by decide) rfl (fun v27 ev27 hf => ?_)
          refine r_iconst (4 : Int32) dX12_work_117 (by decide) ?_
          refine r_icmp_gt 135 hf dX12_work_118 (by decide) (fun c28 hf => ?_) (fun c28 hf => ?_)
          · refine r_aload_n 0 dX12_work_135 rfl rfl ?_
            refine rr_ldR (c := 29) hB dX12_work_136 fl_RX12_106 rfl rfl (by decide) ?_
            refine r_iload_n 1 dX12_work_139 rfl rfl ?_
            refine rr_raI hf hB dX12_work_140 (by decide) rfl (fun v29 ev29 hf => ?_)
            refine r_iconst (5 : Int32) dX12_work_141 (by decide) ?_
            refine r_bd (fun (q30 : Int32) => V Γ MD_M_work (emb τ B R) r (emb τ B q16) 166 [(0, va_rf (some B)), (2, .int x2)] [.int q30]) hf (fun q30 hf => ?_) (fun yq30 hf kq30 => ?_)
            · refine r_istore_n (L' := [(3, _), (0, _), (2, _)]) dX12_work_166 rfl (show 3 < 8 by decide) rfl ?_
              refine r_aload_n 1 dX12_work_167 rfl rfl ?_
              refine r_dup dX12_work_168 (cat_rf _) ?_
              refine rr_ldI (k := 68) hB dX12_work_169 fl_RX12_371 rfl ?_
              refine r_iload_n 0 dX12_work_172 rfl rfl ?_
              refine r_isub dX12_work_173 ?_
              refine rr_stI hf hB dX12_work_174 fl_RX12_371 rfl rfl rfl (fun R35 eR35 hf => ?_)
              refine r_aload_n 1 dX12_work_177 rfl rfl ?_
              refine rr_ldR (c := 29) hB dX12_work_178 fl_RX12_106 rfl rfl (by decide) ?_
              refine r_iload_n 2 dX12_work_181 rfl rfl ?_
              refine rr_raI hf hB dX12_work_182 (by decide) rfl (fun v36 ev36 hf => ?_)
              refine r_iconst (5 : Int32) dX12_work_183 (by decide) ?_
              refine r_icmp_ne 210 hf dX12_work_184 (by decide) (fun c37 hf => ?_) (fun c37 hf => ?_)
              · refine r_aload_n 1 dX12_work_210 rfl rfl ?_
                refine rr_ldR (c := 29) hB dX12_work_211 fl_RX12_106 rfl rfl (by decide) ?_
                refine r_iload_n 2 dX12_work_214 rfl rfl ?_
                refine rr_raI hf hB dX12_work_215 (by decide) rfl (fun v38 ev38 hf => ?_)
                refine r_bipush (6 : Int32) dX12_work_216 (by decide) ?_
                refine r_icmp_ne 256 hf dX12_work_218 (by decide) (fun c39 hf => ?_) (fun c39 hf => ?_)
                · refine r_aload_n 1 dX12_work_256 rfl rfl ?_
                  refine rr_ldR (c := 29) hB dX12_work_257 fl_RX12_106 rfl rfl (by decide) ?_
                  refine r_iload_n 2 dX12_work_260 rfl rfl ?_
                  refine rr_raI hf hB dX12_work_261 (by decide) rfl (fun v40 ev40 hf => ?_)
                  refine r_bipush (7 : Int32) dX12_work_262 (by decide) ?_
                  refine r_bd (fun (q41 : Bool) => V Γ MD_M_work (emb τ B R) r (emb τ B R35) 272 [(0, va_rf (some B)), (2, .int x2), (3, .int q30)] [.int (b2i q41)]) hf (fun q41 hf => ?_) (fun yq41 hf kq41 => ?_)
                  · refine r_istore (L' := [(4, _), (0, _), (2, _), (3, _)]) dX12_work_272 (show 4 < 8 by decide) rfl ?_
                    refine r_lconst (0 : Int64) dX12_work_274 (by decide) ?_
                    refine r_lstore (L' := [(5, _), (4, _), (0, _), (2, _), (3, _)]) dX12_work_275 (show 6 < 8 by decide) rfl ?_
                    refine r_aload_n 2 dX12_work_277 rfl rfl ?_
                    refine rr_ldI (k := 68) hB dX12_work_278 fl_RX12_371 rfl ?_
                    refine r_istore (L' := [(7, _), (5, _), (4, _), (0, _), (2, _), (3, _)]) dX12_work_281 (show 7 < 8 by decide) rfl ?_
                    refine bnd hf (fun t55 et55 hf => ?_)
                    refine r_sub (L' := [(0, _), (2, _), (3, _), (4, _), (5, _), (7, _)]) [3, 4, 5, 2, 1, 0] rfl ?_
                    refine x_M_work_l283 hB ?_ _ et55
                    · intro z56 hz56
                      subst hz56
                      refine r_aload_n 0 dX12_work_373 rfl rfl ?_
                      refine r_iload 1 dX12_work_374 rfl ?_
                      refine r_lload 2 dX12_work_376 rfl ?_
                      refine r_l2i dX12_work_378 ?_
                      refine bnd hf (fun v57 ev57 hf => ?_)
                      refine r_callVv (ci := 12) rfl dX12_work_379 cs_RX12_383 ww_1463 ww_78 (by decide) (hB.t0 _) (by decide) rfl (rest := []) rfl (Or.inl (Nat.le_of_ble_eq_true rfl)) (t_M_put_ hB ev57) ?_
                      exact r_vret rfl dX12_work_382 (by have h1 := (Option.some.inj hf); subst h1; exact hr.symm)
                  · refine r_icmp_ne 271 hf dX12_work_264 (by decide) (fun c42 hf => ?_) (fun c42 hf => ?_)
                    · refine r_iconst (b2i false) dX12_work_271 rfl ?_
                      refine r_sub (L' := [(0, _), (2, _), (3, _)]) [1, 2, 0] rfl ?_
                      cases (Option.some.inj hf)
                      exact kq41
                    · refine r_iconst (b2i true) dX12_work_267 rfl ?_
                      refine r_goto 272 dX12_work_268 (by decide) ?_
                      refine r_sub (L' := [(0, _), (2, _), (3, _)]) [1, 2, 0] rfl ?_
                      cases (Option.some.inj hf)
                      exact kq41
                · refine r_aload_n 1 dX12_work_221 rfl rfl ?_
                  refine r_aload_n 1 dX12_work_222 rfl rfl ?_
                  refine rr_ldR (c := 42) hB dX12_work_223 fl_RX12_145 rfl rfl (by decide) ?_
                  refine r_aload_n 1 dX12_work_226 rfl rfl ?_
                  refine rr_ldI (k := 68) hB dX12_work_227 fl_RX12_371 rfl ?_
                  refine rr_raB hf hB dX12_work_230 (by decide) rfl (fun v58 ev58 hf => ?_)
                  refine r_aload_n 1 dX12_work_231 rfl rfl ?_
                  refine rr_ldR (c := 43) hB dX12_work_232 fl_RX12_148 rfl rfl (by decide) ?_
                  refine r_aload_n 1 dX12_work_235 rfl rfl ?_
                  refine rr_ldI (k := 68) hB dX12_work_236 fl_RX12_371 rfl ?_
                  refine rr_raI hf hB dX12_work_239 (by decide) rfl (fun v59 ev59 hf => ?_)
                  refine r_i2l dX12_work_240 ?_
                  refine r_aload_n 1 dX12_work_241 rfl rfl ?_
                  refine rr_ldR (c := 31) hB dX12_work_242 fl_RX12_112 rfl rfl (by decide) ?_
                  refine r_iload_n 2 dX12_work_245 rfl rfl ?_
                  refine rr_raI hf hB dX12_work_246 (by decide) rfl (fun v60 ev60 hf => ?_)
                  refine r_i2l dX12_work_247 ?_
                  refine r_lmul dX12_work_248 ?_
                  refine bnd hf (fun v61 ev61 hf => ?_)
                  refine r_callSr dX12_work_249 cs_RX12_342 ww_1436 (by decide) rfl (rest := [_, _]) rfl (Or.inl (Nat.le_of_ble_eq_true rfl)) (t_M_least ev61) ?_
                  refine bnd hf (fun v62 ev62 hf => ?_)
                  refine r_callVv (ci := 12) rfl dX12_work_252 cs_RX12_383 ww_1463 ww_78 (by decide) (hB.t0 _) (by decide) rfl (rest := []) rfl (Or.inl (Nat.le_of_ble_eq_true rfl)) (t_M_put_ hB ev62) ?_
                  exact r_vret rfl dX12_work_255 (by have h1 := (Option.some.inj hf); subst h1; exact hr.symm)
              · refine r_aload_n 1 dX12_work_187 rfl rfl ?_
                refine r_aload_n 1 dX12_work_188 rfl rfl ?_
                refine rr_ldR (c := 42) hB dX12_work_189 fl_RX12_145 rfl rfl (by decide) ?_
                refine r_aload_n 1 dX12_work_192 rfl rfl ?_
                refine rr_ldI (k := 68) hB dX12_work_193 fl_RX12_371 rfl ?_
                refine rr_raB hf hB dX12_work_196 (by decide) rfl (fun v63 ev63 hf => ?_)
                refine r_bd (fun (q64 : Bool) => V Γ MD_M_work (emb τ B R) r (emb τ B R35) 205 [] [.int (b2i q64), va_rf (some B)]) hf (fun q64 hf => ?_) (fun yq64 hf kq64 => ?_)
                · refine r_iconst (0 : Int32) dX12_work_205 (by decide) ?_
                  refine bnd hf (fun v66 ev66 hf => ?_)
                  refine r_callVv (ci := 12) rfl dX12_work_206 cs_RX12_383 ww_1463 ww_78 (by decide) (hB.t0 _) (by decide) rfl (rest := []) rfl (Or.inl (Nat.le_of_ble_eq_true rfl)) (t_M_put_ hB ev66) ?_
                  exact r_vret rfl dX12_work_209 (by have h1 := (Option.some.inj hf); subst h1; exact hr.symm)
                · refine r_ifneZ 204 hf dX12_work_197 (by decide) (fun c65 hf => ?_) (fun c65 hf => ?_)
                  · refine r_iconst (b2i false) dX12_work_204 rfl ?_
                    refine r_sub (L' := []) [] rfl ?_
                    cases (Option.some.inj hf)
                    exact kq64
                  · refine r_iconst (b2i true) dX12_work_200 rfl ?_
                    refine r_goto 205 dX12_work_201 (by decide) ?_
                    refine r_sub (L' := []) [] rfl ?_
                    cases (Option.some.inj hf)
                    exact kq64
            · refine r_icmp_eq 156 hf dX12_work_142 (by decide) (fun c31 hf => ?_) (fun c31 hf => ?_)
              · refine r_iconst (1 : Int32) dX12_work_156 (by decide) ?_
                refine r_goto 166 dX12_work_157 (by decide) ?_
                refine r_sub (L' := [(0, _), (2, _)]) [0, 1] rfl ?_
                cases (Option.some.inj hf)
                exact kq30
              · refine r_aload_n 0 dX12_work_145 rfl rfl ?_
                refine rr_ldR (c := 29) hB dX12_work_146 fl_RX12_106 rfl rfl (by decide) ?_
                refine r_iload_n 1 dX12_work_149 rfl rfl ?_
                refine rr_raI hf hB dX12_work_150 (by decide) rfl (fun v32 ev32 hf => ?_)
                refine r_bipush (6 : Int32) dX12_work_151 (by decide) ?_
                refine r_icmp_ne 160 hf dX12_work_153 (by decide) (fun c33 hf => ?_) (fun c33 hf => ?_)
                · refine r_aload_n 0 dX12_work_160 rfl rfl ?_
                  refine rr_ldR (c := 31) hB dX12_work_161 fl_RX12_112 rfl rfl (by decide) ?_
                  refine r_iload_n 1 dX12_work_164 rfl rfl ?_
                  refine rr_raI hf hB dX12_work_165 (by decide) rfl (fun v34 ev34 hf => ?_)
                  refine r_sub (L' := [(0, _), (2, _)]) [0, 1] rfl ?_
                  cases (Option.some.inj hf)
                  exact kq30
                · refine r_iconst (1 : Int32) dX12_work_156 (by decide) ?_
                  refine r_goto 166 dX12_work_157 (by decide) ?_
                  refine r_sub (L' := [(0, _), (2, _)]) [0, 1] rfl ?_
                  cases (Option.some.inj hf)
                  exact kq30
          · refine r_aload_n 0 dX12_work_121 rfl rfl ?_
            refine r_aload_n 0 dX12_work_122 rfl rfl ?_
            refine rr_ldB (k := 64) hB dX12_work_123 fl_RX12_347 rfl ?_
            refine r_aload_n 0 dX12_work_126 rfl rfl ?_
            refine rr_ldL (k := 65) hB dX12_work_127 fl_RX12_350 rfl ?_
            refine r_l2i dX12_work_130 ?_
            refine bnd hf (fun v67 ev67 hf => ?_)
            refine r_callVv (ci := 12) rfl dX12_work_131 cs_RX12_383 ww_1463 ww_78 (by decide) (hB.t0 _) (by decide) rfl (rest := []) rfl (Or.inl (Nat.le_of_ble_eq_true rfl)) (t_M_put_ hB ev67) ?_
            exact r_vret rfl dX12_work_134 (by have h1 := (Option.some.inj hf); subst h1; exact hr.symm)
        · refine r_icmp_ne 111 hf dX12_work_65 (by decide) (fun c17 hf => ?_) (fun c17 hf => ?_)
          · refine r_sub (L' := [(0, _), (2, _)]) [0, 2] rfl ?_
            cases (Option.some.inj hf)
            exact kq16
          · refine r_aload_n 0 dX12_work_68 rfl rfl ?_
            refine r_aload_n 0 dX12_work_69 rfl rfl ?_
            refine rr_ldR (c := 30) hB dX12_work_70 fl_RX12_109 rfl rfl (by decide) ?_
            refine r_iload_n 2 dX12_work_73 rfl rfl ?_
            refine rr_raI hf hB dX12_work_74 (by decide) rfl (fun v18 ev18 hf => ?_)
            refine r_bd (fun (q19 : Int32) => V Γ MD_M_work (emb τ B R) r (emb τ B q12) 93 [(0, va_rf (some B)), (2, .int x2)] [.int q19, va_rf (some B)]) hf (fun q19 hf => ?_) (fun yq19 hf kq19 => ?_)
            · refine r_aload_n 0 dX12_work_93 rfl rfl ?_
              refine rr_ldR (c := 31) hB dX12_work_94 fl_RX12_112 rfl rfl (by decide) ?_
              refine r_iload_n 1 dX12_work_97 rfl rfl ?_
              refine rr_raI hf hB dX12_work_98 (by decide) rfl (fun v23 ev23 hf => ?_)
              refine r_aload_n 0 dX12_work_99 rfl rfl ?_
              refine rr_ldR (c := 32) hB dX12_work_100 fl_RX12_115 rfl rfl (by decide) ?_
              refine r_iload_n 1 dX12_work_103 rfl rfl ?_
              refine rr_raI hf hB dX12_work_104 (by decide) rfl (fun v24 ev24 hf => ?_)
              refine bnd hf (fun v25 ev25 hf => ?_)
              refine r_callSr dX12_work_105 cs_RX12_164 ww_1258 (by decide) rfl (rest := [_]) rfl (Or.inl (Nat.le_of_ble_eq_true rfl)) (t_M_in ev25) ?_
              refine rr_stB hf hB dX12_work_108 fl_RX12_347 rfl rfl (fun R26 eR26 hf => ?_)
              refine r_sub (L' := [(0, _), (2, _)]) [0, 1] rfl ?_
              cases (Option.some.inj hf)
              exact kq16
            · refine r_if_ne 87 hf dX12_work_75 (by decide) (fun c20 hf => ?_) (fun c20 hf => ?_)
              · refine r_aload_n 0 dX12_work_87 rfl rfl ?_
                refine rr_ldR (c := 4) hB dX12_work_88 fl_RX12_20 rfl rfl (by decide) ?_
                refine r_iload_n 1 dX12_work_91 rfl rfl ?_
                refine rr_raI hf hB dX12_work_92 (by decide) rfl (fun v21 ev21 hf => ?_)
                refine r_sub (L' := [(0, _), (2, _)]) [0, 2] rfl ?_
                cases (Option.some.inj hf)
                exact kq19
              · refine r_aload_n 0 dX12_work_78 rfl rfl ?_
                refine rr_ldR (c := 3) hB dX12_work_79 fl_RX12_17 rfl rfl (by decide) ?_
                refine r_iload_n 1 dX12_work_82 rfl rfl ?_
                refine rr_raI hf hB dX12_work_83 (by decide) rfl (fun v22 ev22 hf => ?_)
                refine r_goto 93 dX12_work_84 (by decide) ?_
                refine r_sub (L' := [(0, _), (2, _)]) [0, 2] rfl ?_
                cases (Option.some.inj hf)
                exact kq19
      · refine r_icmp_ne 58 hf dX12_work_49 (by decide) (fun c13 hf => ?_) (fun c13 hf => ?_)
        · refine r_sub (L' := [(0, _), (1, _), (2, _)]) [0, 1, 2] rfl ?_
          cases (Option.some.inj hf)
          exact kq12
        · refine r_aload_n 0 dX12_work_52 rfl rfl ?_
          refine r_iload_n 1 dX12_work_53 rfl rfl ?_
          refine r_iload_n 2 dX12_work_54 rfl rfl ?_
          refine bnd hf (fun v14 ev14 hf => ?_)
          refine r_callVv (ci := 12) rfl dX12_work_55 cs_RX12_380 ww_1455 ww_76 (by decide) (hB.t0 _) (by decide) rfl (rest := []) rfl (Or.inl (Nat.le_of_ble_eq_true rfl)) (t_M_matchPhrase hB ev14) ?_
          refine r_sub (L' := [(0, _), (1, _), (2, _)]) [0, 1, 2] rfl ?_
          cases (Option.some.inj hf)
          exact kq12
    · refine r_icmp_ne 42 hf dX12_work_33 (by decide) (fun c9 hf => ?_) (fun c9 hf => ?_)
      · refine r_sub (L' := [(0, _), (1, _), (2, _)]) [0, 1, 2] rfl ?_
        cases (Option.some.inj hf)
        exact kq8
      · refine r_aload_n 0 dX12_work_36 rfl rfl ?_
        refine r_iload_n 1 dX12_work_37 rfl rfl ?_
        refine r_iload_n 2 dX12_work_38 rfl rfl ?_
        refine bnd hf (fun v10 ev10 hf => ?_)
        refine r_callVv (ci := 12) rfl dX12_work_39 cs_RX12_377 ww_1447 ww_74 (by decide) (hB.t0 _) (by decide) rfl (rest := []) rfl (Or.inl (Nat.le_of_ble_eq_true rfl)) (t_M_matchStarts hB ev10) ?_
        refine r_sub (L' := [(0, _), (1, _), (2, _)]) [0, 1, 2] rfl ?_
        cases (Option.some.inj hf)
        exact kq8
  · refine r_icmp_ne 26 hf dX12_work_17 (by decide) (fun c5 hf => ?_) (fun c5 hf => ?_)
    · refine r_sub (L' := [(0, _), (1, _), (2, _)]) [0, 1, 2] rfl ?_
      cases (Option.some.inj hf)
      exact kq4
    · refine r_aload_n 0 dX12_work_20 rfl rfl ?_
      refine r_iload_n 1 dX12_work_21 rfl rfl ?_
      refine r_iload_n 2 dX12_work_22 rfl rfl ?_
      refine bnd hf (fun v6 ev6 hf => ?_)
      refine r_callVv (ci := 12) rfl dX12_work_23 cs_RX12_374 ww_1412 ww_67 (by decide) (hB.t0 _) (by decide) rfl (rest := []) rfl (Or.inl (Nat.le_of_ble_eq_true rfl)) (t_M_matchWord hB ev6) ?_
      refine r_sub (L' := [(0, _), (1, _), (2, _)]) [0, 1, 2] rfl ?_
      cases (Option.some.inj hf)
      exact kq4
/-! SearchEngineModel.isBefore -/
noncomputable def M_isBefore (R : RS) (x1 : Int32) (x2 : Int32) (x3 : Int32) : Option Bool :=
  (rdI R 21 400 x3).bind fun v1 =>
  if x2 = v1 then
    (rdL R 2 400 x1).bind fun v3 =>
    (rdI R 20 400 x3).bind fun v4 =>
    (rdL R 2 400 v4).bind fun v5 =>
    if v3 = v5 then
      (rdI R 20 400 x3).bind fun v7 =>
      if v7 ≤ x1 then
        some false
      else
        some true
    else
      (rdL R 2 400 x1).bind fun v9 =>
      (rdI R 20 400 x3).bind fun v10 =>
      (rdL R 2 400 v10).bind fun v11 =>
      if v11 ≤ v9 then
        some false
      else
        some true
  else
    (rdI R 21 400 x3).bind fun v13 =>
    if x2 ≤ v13 then
      some false
    else
      some true
set_option maxRecDepth 100000 in
set_option maxHeartbeats 4000000 in
theorem t_M_isBefore {Γ : W0} {τ : Mem} {B : Nat} {R : RS} {x1 : Int32} {x2 : Int32} {x3 : Int32} {v : Bool} (hB : RB τ B) (hf : M_isBefore R x1 x2 x3 = some v) : CT Γ MD_M_isBefore yX12_isBefore [va_rf (some B), .int x1, .int x2, .int x3] (emb τ B R) (some (.int (b2i v)), (emb τ B R)) := by
  refine CT.of (L := [(0, va_rf (some B)), (1, .int x1), (2, .int x2), (3, .int x3)]) rfl (by decide) (fun h => Bool.noConfusion (show false = true from h)) (Nat.le_of_ble_eq_true rfl) rfl ?_
  unfold M_isBefore at hf
  generalize hr : mkR Γ (emb τ B R) (some (.int (b2i v))) (emb τ B R) = r
  refine r_iload_n 2 dX12_isBefore_0 rfl rfl ?_
  refine r_aload_n 0 dX12_isBefore_1 rfl rfl ?_
  refine rr_ldR (c := 21) hB dX12_isBefore_2 fl_RX12_79 rfl rfl (by decide) ?_
  refine r_iload_n 3 dX12_isBefore_5 rfl rfl ?_
  refine rr_raI hf hB dX12_isBefore_6 (by decide) rfl (fun v1 ev1 hf => ?_)
  refine r_icmp_eq 26 hf dX12_isBefore_7 (by decide) (fun c2 hf => ?_) (fun c2 hf => ?_)
  · refine r_aload_n 0 dX12_isBefore_26 rfl rfl ?_
    refine rr_ldR (c := 2) hB dX12_isBefore_27 fl_RX12_13 rfl rfl (by decide) ?_
    refine r_iload_n 1 dX12_isBefore_30 rfl rfl ?_
    refine rr_raL hf hB dX12_isBefore_31 (by decide) rfl (fun v3 ev3 hf => ?_)
    refine r_aload_n 0 dX12_isBefore_32 rfl rfl ?_
    refine rr_ldR (c := 2) hB dX12_isBefore_33 fl_RX12_13 rfl rfl (by decide) ?_
    refine r_aload_n 0 dX12_isBefore_36 rfl rfl ?_
    refine rr_ldR (c := 20) hB dX12_isBefore_37 fl_RX12_76 rfl rfl (by decide) ?_
    refine r_iload_n 3 dX12_isBefore_40 rfl rfl ?_
    refine rr_raI hf hB dX12_isBefore_41 (by decide) rfl (fun v4 ev4 hf => ?_)
    refine rr_raL hf hB dX12_isBefore_42 (by decide) rfl (fun v5 ev5 hf => ?_)
    refine r_lcmp_eq 76 hf dX12_isBefore_43 dX12_isBefore_44 (by decide) (fun c6 hf => ?_) (fun c6 hf => ?_)
    · refine r_iload_n 1 dX12_isBefore_76 rfl rfl ?_
      refine r_aload_n 0 dX12_isBefore_77 rfl rfl ?_
      refine rr_ldR (c := 20) hB dX12_isBefore_78 fl_RX12_76 rfl rfl (by decide) ?_
      refine r_iload_n 3 dX12_isBefore_81 rfl rfl ?_
      refine rr_raI hf hB dX12_isBefore_82 (by decide) rfl (fun v7 ev7 hf => ?_)
      refine r_icmp_ge 90 hf dX12_isBefore_83 (by decide) (fun c8 hf => ?_) (fun c8 hf => ?_)
      · refine r_iconst (b2i false) dX12_isBefore_90 rfl ?_
        exact r_zret rfl dX12_isBefore_91 (by have h1 := (Option.some.inj hf); subst h1; exact hr.symm)
      · refine r_iconst (b2i true) dX12_isBefore_86 rfl ?_
        refine r_goto 91 dX12_isBefore_87 (by decide) ?_
        exact r_zret rfl dX12_isBefore_91 (by have h1 := (Option.some.inj hf); subst h1; exact hr.symm)
    · refine r_aload_n 0 dX12_isBefore_47 rfl rfl ?_
      refine rr_ldR (c := 2) hB dX12_isBefore_48 fl_RX12_13 rfl rfl (by decide) ?_
      refine r_iload_n 1 dX12_isBefore_51 rfl rfl ?_
      refine rr_raL hf hB dX12_isBefore_52 (by decide) rfl (fun v9 ev9 hf => ?_)
      refine r_aload_n 0 dX12_isBefore_53 rfl rfl ?_
      refine rr_ldR (c := 2) hB dX12_isBefore_54 fl_RX12_13 rfl rfl (by decide) ?_
      refine r_aload_n 0 dX12_isBefore_57 rfl rfl ?_
      refine rr_ldR (c := 20) hB dX12_isBefore_58 fl_RX12_76 rfl rfl (by decide) ?_
      refine r_iload_n 3 dX12_isBefore_61 rfl rfl ?_
      refine rr_raI hf hB dX12_isBefore_62 (by decide) rfl (fun v10 ev10 hf => ?_)
      refine rr_raL hf hB dX12_isBefore_63 (by decide) rfl (fun v11 ev11 hf => ?_)
      refine r_lcmp_ge 72 hf dX12_isBefore_64 dX12_isBefore_65 (by decide) (fun c12 hf => ?_) (fun c12 hf => ?_)
      · refine r_iconst (b2i false) dX12_isBefore_72 rfl ?_
        refine r_goto 91 dX12_isBefore_73 (by decide) ?_
        exact r_zret rfl dX12_isBefore_91 (by have h1 := (Option.some.inj hf); subst h1; exact hr.symm)
      · refine r_iconst (b2i true) dX12_isBefore_68 rfl ?_
        refine r_goto 91 dX12_isBefore_69 (by decide) ?_
        exact r_zret rfl dX12_isBefore_91 (by have h1 := (Option.some.inj hf); subst h1; exact hr.symm)
  · refine r_iload_n 2 dX12_isBefore_10 rfl rfl ?_
    refine r_aload_n 0 dX12_isBefore_11 rfl rfl ?_
    refine rr_ldR (c := 21) hB dX12_isBefore_12 fl_RX12_79 rfl rfl (by decide) ?_
    refine r_iload_n 3 dX12_isBefore_15 rfl rfl ?_
    refine rr_raI hf hB dX12_isBefore_16 (by decide) rfl (fun v13 ev13 hf => ?_)
    refine r_icmp_le 24 hf dX12_isBefore_17 (by decide) (fun c14 hf => ?_) (fun c14 hf => ?_)
    · refine r_iconst (b2i false) dX12_isBefore_24 rfl ?_
      exact r_zret rfl dX12_isBefore_25 (by have h1 := (Option.some.inj hf); subst h1; exact hr.symm)
    · refine r_iconst (b2i true) dX12_isBefore_20 rfl ?_
      refine r_goto 25 dX12_isBefore_21 (by decide) ?_
      exact r_zret rfl dX12_isBefore_25 (by have h1 := (Option.some.inj hf); subst h1; exact hr.symm)
/-! SearchEngineModel.insert -/
noncomputable def M_insert_l5 (R : RS) (x1 : Int32) (x2 : Int32) (x3 : Int32) : Option ((Int32 × RS) ⊕ (Int32 × RS)) :=
  if x3 ≤ 0 then
    some (Sum.inr (x3, R))
  else
    (M_isBefore R x1 x2 (x3 - (1 : Int32))).bind fun v2 =>
    if v2 = true then
      (rdI R 20 400 (x3 - (1 : Int32))).bind fun v4 =>
      (wrI R 20 400 x3 v4).bind fun R5 =>
      (rdI R5 21 400 (x3 - (1 : Int32))).bind fun v6 =>
      (wrI R5 21 400 x3 v6).bind fun R7 =>
      some (Sum.inl ((x3 + (-1 : Int32)), R7))
    else
      some (Sum.inr (x3, R))
noncomputable def M_insert (R : RS) (x1 : Int32) (x2 : Int32) : Option RS :=
  (lp (fun q => M_insert_l5 q.2 x1 x2 q.1) ((R.1 0 26), R)).bind fun z9 =>
  (wrI z9.2 20 400 z9.1 x1).bind fun R10 =>
  (wrI R10 21 400 z9.1 x2).bind fun R11 =>
  (some (pI R11 26 ((R11.1 0 26) + (1 : Int32)))).bind fun R12 =>
  some R12
set_option maxRecDepth 100000 in
set_option maxHeartbeats 4000000 in
theorem x_M_insert_l5 {Γ : W0} {σ0 : Mem} {r : RT} {τ : Mem} {B : Nat} {x1 : Int32} {x2 : Int32} {t : Int32 × RS} (hB : RB τ B) (hk0 : ∀ z : Int32 × RS, z = t → V Γ MD_M_insert σ0 r (emb τ B z.2) 55 [(0, va_rf (some B)), (1, .int x1), (2, .int x2), (3, .int z.1)] []) : ∀ q : Int32 × RS, lp (fun q => M_insert_l5 q.2 x1 x2 q.1) q = some t → V Γ MD_M_insert σ0 r (emb τ B q.2) 5 [(0, va_rf (some B)), (1, .int x1), (2, .int x2), (3, .int q.1)] [] := by
  refine lp_ind (fun (q : Int32 × RS) => V Γ MD_M_insert σ0 r (emb τ B q.2) 5 [(0, va_rf (some B)), (1, .int x1), (2, .int x2), (3, .int q.1)] []) (fun q x hf ih ho => ?_)
  obtain ⟨x3, R⟩ := q
  show V Γ MD_M_insert σ0 r (emb τ B R) 5 [(0, va_rf (some B)), (1, .int x1), (2, .int x2), (3, .int x3)] []
  replace hf : M_insert_l5 R x1 x2 x3 = some x := hf
  unfold M_insert_l5 at hf
  refine r_iload_n 3 dX12_insert_5 rfl rfl ?_
  refine r_if_le 55 hf dX12_insert_6 (by decide) (fun c1 hf => ?_) (fun c1 hf => ?_)
  · refine r_sub (L' := [(0, _), (1, _), (2, _), (3, _)]) [0, 1, 2, 3] rfl ?_
    exact hk0 _ (ho _ (Option.some.inj hf).symm)
  · refine r_aload_n 0 dX12_insert_9 rfl rfl ?_
    refine r_iload_n 1 dX12_insert_10 rfl rfl ?_
    refine r_iload_n 2 dX12_insert_11 rfl rfl ?_
    refine r_iload_n 3 dX12_insert_12 rfl rfl ?_
    refine r_iconst (1 : Int32) dX12_insert_13 (by decide) ?_
    refine r_isub dX12_insert_14 ?_
    refine bnd hf (fun v2 ev2 hf => ?_)
    refine r_callVr (ci := 12) rfl dX12_insert_15 cs_RX12_398 ww_1471 ww_80 (by decide) (hB.t0 _) (by decide) rfl (rest := []) rfl (Or.inl (Nat.le_of_ble_eq_true rfl)) (t_M_isBefore hB ev2) ?_
    refine r_ifeqZ 55 hf dX12_insert_18 (by decide) (fun c3 hf => ?_) (fun c3 hf => ?_)
    · refine r_aload_n 0 dX12_insert_21 rfl rfl ?_
      refine rr_ldR (c := 20) hB dX12_insert_22 fl_RX12_76 rfl rfl (by decide) ?_
      refine r_iload_n 3 dX12_insert_25 rfl rfl ?_
      refine r_aload_n 0 dX12_insert_26 rfl rfl ?_
      refine rr_ldR (c := 20) hB dX12_insert_27 fl_RX12_76 rfl rfl (by decide) ?_
      refine r_iload_n 3 dX12_insert_30 rfl rfl ?_
      refine r_iconst (1 : Int32) dX12_insert_31 (by decide) ?_
      refine r_isub dX12_insert_32 ?_
      refine rr_raI hf hB dX12_insert_33 (by decide) rfl (fun v4 ev4 hf => ?_)
      refine rr_waI hf hB dX12_insert_34 (by decide) rfl (fun R5 eR5 hf => ?_)
      refine r_aload_n 0 dX12_insert_35 rfl rfl ?_
      refine rr_ldR (c := 21) hB dX12_insert_36 fl_RX12_79 rfl rfl (by decide) ?_
      refine r_iload_n 3 dX12_insert_39 rfl rfl ?_
      refine r_aload_n 0 dX12_insert_40 rfl rfl ?_
      refine rr_ldR (c := 21) hB dX12_insert_41 fl_RX12_79 rfl rfl (by decide) ?_
      refine r_iload_n 3 dX12_insert_44 rfl rfl ?_
      refine r_iconst (1 : Int32) dX12_insert_45 (by decide) ?_
      refine r_isub dX12_insert_46 ?_
      refine rr_raI hf hB dX12_insert_47 (by decide) rfl (fun v6 ev6 hf => ?_)
      refine rr_waI hf hB dX12_insert_48 (by decide) rfl (fun R7 eR7 hf => ?_)
      refine r_iinc (-1 : Int32) (L' := [(3, _), (0, _), (1, _), (2, _)]) 3 dX12_insert_49 rfl (by decide) (show 3 < 4 by decide) rfl ?_
      refine r_goto 5 dX12_insert_52 (by decide) ?_
      refine r_sub (L' := [(0, _), (1, _), (2, _), (3, _)]) [1, 2, 3, 0] rfl ?_
      exact ih _ (Option.some.inj hf).symm
    · refine r_sub (L' := [(0, _), (1, _), (2, _), (3, _)]) [0, 1, 2, 3] rfl ?_
      exact hk0 _ (ho _ (Option.some.inj hf).symm)
set_option maxRecDepth 100000 in
set_option maxHeartbeats 4000000 in
theorem t_M_insert {Γ : W0} {τ : Mem} {B : Nat} {R : RS} {x1 : Int32} {x2 : Int32} {R' : RS} (hB : RB τ B) (hf : M_insert R x1 x2 = some R') : CT Γ MD_M_insert yX12_insert [va_rf (some B), .int x1, .int x2] (emb τ B R) (none, (emb τ B R')) := by
  refine CT.of (L := [(0, va_rf (some B)), (1, .int x1), (2, .int x2)]) rfl (by decide) (fun h => Bool.noConfusion (show false = true from h)) (Nat.le_of_ble_eq_true rfl) rfl ?_
  unfold M_insert at hf
  generalize hr : mkR Γ (emb τ B R) (none) (emb τ B R') = r
  refine r_aload_n 0 dX12_insert_0 rfl rfl ?_
  refine rr_ldI (k := 26) hB dX12_insert_1 fl_RX12_389 rfl ?_
  refine r_istore_n (L' := [(3, _), (0, _), (1, _), (2, _)]) dX12_insert_4 rfl (show 3 < 4 by decide) rfl ?_
  refine bnd hf (fun t8 et8 hf => ?_)
  refine r_sub (L' := [(0, _), (1, _), (2, _), (3, _)]) [1, 2, 3, 0] rfl ?_
  refine x_M_insert_l5 hB ?_ _ et8
  · intro z9 hz9
    subst hz9
    refine r_aload_n 0 dX12_insert_55 rfl rfl ?_
    refine rr_ldR (c := 20) hB dX12_insert_56 fl_RX12_76 rfl rfl (by decide) ?_
    refine r_iload_n 3 dX12_insert_59 rfl rfl ?_
    refine r_iload_n 1 dX12_insert_60 rfl rfl ?_
    refine rr_waI hf hB dX12_insert_61 (by decide) rfl (fun R10 eR10 hf => ?_)
    refine r_aload_n 0 dX12_insert_62 rfl rfl ?_
    refine rr_ldR (c := 21) hB dX12_insert_63 fl_RX12_79 rfl rfl (by decide) ?_
    refine r_iload_n 3 dX12_insert_66 rfl rfl ?_
    refine r_iload_n 2 dX12_insert_67 rfl rfl ?_
    refine rr_waI hf hB dX12_insert_68 (by decide) rfl (fun R11 eR11 hf => ?_)
    refine r_aload_n 0 dX12_insert_69 rfl rfl ?_
    refine r_dup dX12_insert_70 (cat_rf _) ?_
    refine rr_ldI (k := 26) hB dX12_insert_71 fl_RX12_389 rfl ?_
    refine r_iconst (1 : Int32) dX12_insert_74 (by decide) ?_
    refine r_iadd dX12_insert_75 ?_
    refine rr_stI hf hB dX12_insert_76 fl_RX12_389 rfl rfl rfl (fun R12 eR12 hf => ?_)
    exact r_vret rfl dX12_insert_79 (by have h1 := (Option.some.inj hf); subst h1; exact hr.symm)
/-! SearchEngineModel.search -/
noncomputable def M_search_l128 (R : RS) (x1 : Int32) (x4 : Int32) (x5 : Int32) : Option ((Int32 × RS) ⊕ RS) :=
  (rdI R 24 400 x4).bind fun v17 =>
  if v17 ≤ x5 then
    some (Sum.inr R)
  else
    (rdI R 41 400 x4).bind fun v19 =>
    (rdI R 34 4800 (((12 : Int32) * v19) + x5)).bind fun v20 =>
    (wrI R 25 4800 (((12 : Int32) * x4) + x5) v20).bind fun R21 =>
    some (Sum.inl ((x5 + (1 : Int32)), R21))
noncomputable def M_search_l69 (R : RS) (x1 : Int32) (x4 : Int32) : Option ((Int32 × RS) ⊕ RS) :=
  if (R.1 0 30) ≤ x4 then
    some (Sum.inr R)
  else
    (rdI R 39 400 x4).bind fun v10 =>
    (wrI R 22 400 x4 v10).bind fun R11 =>
    (rdI R11 40 400 x4).bind fun v12 =>
    (wrI R11 23 400 x4 v12).bind fun R13 =>
    (rdI R13 41 400 x4).bind fun v14 =>
    (rdI R13 33 400 v14).bind fun v15 =>
    (wrI R13 24 400 x4 v15).bind fun R16 =>
    (lp (fun q => M_search_l128 q.2 x1 x4 q.1) ((0 : Int32), R16)).bind fun z23 =>
    some (Sum.inl ((x4 + (1 : Int32)), z23))
noncomputable def M_search_l263 (R : RS) (x4 : Int32) (x5 : Int32) (x6 : Int32) : Option ((Int32 × RS) ⊕ RS) :=
  if (R.1 0 50) ≤ x6 then
    some (Sum.inr R)
  else
    (M_work R x5 x6).bind fun v37 =>
    some (Sum.inl ((x6 + (1 : Int32)), v37))
noncomputable def M_search_l201 (R : RS) (x4 : Int32) : Option ((Int32 × RS) ⊕ RS) :=
  (rdI R 17 4 (R.1 0 63)).bind fun v29 =>
  if v29 ≤ x4 then
    some (Sum.inr R)
  else
    (rdB R 19 1600 (((400 : Int32) * (R.1 0 63)) + x4)).bind fun v31 =>
    Option.bind (
      if v31 = true then
        some R
      else
        (rdI R 18 1600 (((400 : Int32) * (R.1 0 63)) + x4)).bind fun v34 =>
        (some (pI R 68 (0 : Int32))).bind fun R35 =>
        (lp (fun q => M_search_l263 q.2 x4 v34 q.1) ((0 : Int32), R35)).bind fun z39 =>
        (rdB z39 42 420 (0 : Int32)).bind fun v40 =>
        if v40 = true then
          (rdI z39 43 420 (0 : Int32)).bind fun v42 =>
          (M_insert z39 v34 v42).bind fun v43 =>
          some v43
        else
          some z39) fun q32 =>
    some (Sum.inl ((x4 + (1 : Int32)), q32))
noncomputable def M_search (R : RS) (x1 : Int32) : Option (Int32 × RS) :=
  (some (pI R 3 (0 : Int32))).bind fun R1 =>
  (M_isView R1 x1).bind fun v2 =>
  if v2 = true then
    (some (pI R1 44 (R.1 0 3))).bind fun R4 =>
    (some (pI R4 43 (0 : Int32))).bind fun R5 =>
    (some (pI R5 45 (-1 : Int32))).bind fun R6 =>
    (M_readQuery R6).bind fun v7 =>
    if (v7.1 0 45) = (-1 : Int32) then
      (lp (fun q => M_search_l69 q.2 x1 q.1) ((0 : Int32), v7)).bind fun z25 =>
      (some (pI z25 63 x1)).bind fun R26 =>
      (some (pI R26 27 x1)).bind fun R27 =>
      (some (pI R27 26 (0 : Int32))).bind fun R28 =>
      (lp (fun q => M_search_l201 q.2 q.1) ((0 : Int32), R28)).bind fun z45 =>
      some ((z45.1 0 26), z45)
    else
      (some (pI v7 30 (R1.1 0 30))).bind fun R46 =>
      some (((-10 : Int32) - (R46.1 0 45)), R46)
  else
    some ((-2 : Int32), R1)
set_option maxRecDepth 100000 in
set_option maxHeartbeats 4000000 in
theorem x_M_search_l128 {Γ : W0} {σ0 : Mem} {r : RT} {τ : Mem} {B : Nat} {x1 : Int32} {x4 : Int32} {t : RS} (hB : RB τ B) (hk0 : ∀ z : RS, z = t → V Γ MD_M_search σ0 r (emb τ B z) 177 [(0, va_rf (some B)), (1, .int x1), (4, .int x4)] []) : ∀ q : Int32 × RS, lp (fun q => M_search_l128 q.2 x1 x4 q.1) q = some t → V Γ MD_M_search σ0 r (emb τ B q.2) 128 [(0, va_rf (some B)), (1, .int x1), (4, .int x4), (5, .int q.1)] [] := by
  refine lp_ind (fun (q : Int32 × RS) => V Γ MD_M_search σ0 r (emb τ B q.2) 128 [(0, va_rf (some B)), (1, .int x1), (4, .int x4), (5, .int q.1)] []) (fun q x hf ih ho => ?_)
  obtain ⟨x5, R⟩ := q
  show V Γ MD_M_search σ0 r (emb τ B R) 128 [(0, va_rf (some B)), (1, .int x1), (4, .int x4), (5, .int x5)] []
  replace hf : M_search_l128 R x1 x4 x5 = some x := hf
  unfold M_search_l128 at hf
  refine r_iload 3 dX12_search_128 rfl ?_
  refine r_aload_n 0 dX12_search_130 rfl rfl ?_
  refine rr_ldR (c := 24) hB dX12_search_131 fl_RX12_88 rfl rfl (by decide) ?_
  refine r_iload 2 dX12_search_134 rfl ?_
  refine rr_raI hf hB dX12_search_136 (by decide) rfl (fun v17 ev17 hf => ?_)
  refine r_icmp_ge 177 hf dX12_search_137 (by decide) (fun c18 hf => ?_) (fun c18 hf => ?_)
  · refine r_sub (L' := [(0, _), (1, _), (4, _)]) [0, 1, 2] rfl ?_
    exact hk0 _ (ho _ (Option.some.inj hf).symm)
  · refine r_aload_n 0 dX12_search_140 rfl rfl ?_
    refine rr_ldR (c := 25) hB dX12_search_141 fl_RX12_91 rfl rfl (by decide) ?_
    refine r_bipush (12 : Int32) dX12_search_144 (by decide) ?_
    refine r_iload 2 dX12_search_146 rfl ?_
    refine r_imul dX12_search_148 ?_
    refine r_iload 3 dX12_search_149 rfl ?_
    refine r_iadd dX12_search_151 ?_
    refine r_aload_n 0 dX12_search_152 rfl rfl ?_
    refine rr_ldR (c := 34) hB dX12_search_153 fl_RX12_121 rfl rfl (by decide) ?_
    refine r_bipush (12 : Int32) dX12_search_156 (by decide) ?_
    refine r_aload_n 0 dX12_search_158 rfl rfl ?_
    refine rr_ldR (c := 41) hB dX12_search_159 fl_RX12_142 rfl rfl (by decide) ?_
    refine r_iload 2 dX12_search_162 rfl ?_
    refine rr_raI hf hB dX12_search_164 (by decide) rfl (fun v19 ev19 hf => ?_)
    refine r_imul dX12_search_165 ?_
    refine r_iload 3 dX12_search_166 rfl ?_
    refine r_iadd dX12_search_168 ?_
    refine rr_raI hf hB dX12_search_169 (by decide) rfl (fun v20 ev20 hf => ?_)
    refine rr_waI hf hB dX12_search_170 (by decide) rfl (fun R21 eR21 hf => ?_)
    refine r_iinc (1 : Int32) (L' := [(5, _), (0, _), (1, _), (4, _)]) 3 dX12_search_171 rfl (by decide) (show 5 < 7 by decide) rfl ?_
    refine r_goto 128 dX12_search_174 (by decide) ?_
    refine r_sub (L' := [(0, _), (1, _), (4, _), (5, _)]) [1, 2, 3, 0] rfl ?_
    exact ih _ (Option.some.inj hf).symm
set_option maxRecDepth 100000 in
set_option maxHeartbeats 4000000 in
theorem x_M_search_l69 {Γ : W0} {σ0 : Mem} {r : RT} {τ : Mem} {B : Nat} {x1 : Int32} {t : RS} (hB : RB τ B) (hk0 : ∀ z : RS, z = t → V Γ MD_M_search σ0 r (emb τ B z) 183 [(0, va_rf (some B)), (1, .int x1)] []) : ∀ q : Int32 × RS, lp (fun q => M_search_l69 q.2 x1 q.1) q = some t → V Γ MD_M_search σ0 r (emb τ B q.2) 69 [(0, va_rf (some B)), (1, .int x1), (4, .int q.1)] [] := by
  refine lp_ind (fun (q : Int32 × RS) => V Γ MD_M_search σ0 r (emb τ B q.2) 69 [(0, va_rf (some B)), (1, .int x1), (4, .int q.1)] []) (fun q x hf ih ho => ?_)
  obtain ⟨x4, R⟩ := q
  show V Γ MD_M_search σ0 r (emb τ B R) 69 [(0, va_rf (some B)), (1, .int x1), (4, .int x4)] []
  replace hf : M_search_l69 R x1 x4 = some x := hf
  unfold M_search_l69 at hf
  refine r_iload 2 dX12_search_69 rfl ?_
  refine r_aload_n 0 dX12_search_71 rfl rfl ?_
  refine rr_ldI (k := 30) hB dX12_search_72 fl_RX12_295 rfl ?_
  refine r_icmp_ge 183 hf dX12_search_75 (by decide) (fun c9 hf => ?_) (fun c9 hf => ?_)
  · refine r_sub (L' := [(0, _), (1, _)]) [0, 1] rfl ?_
    exact hk0 _ (ho _ (Option.some.inj hf).symm)
  · refine r_aload_n 0 dX12_search_78 rfl rfl ?_
    refine rr_ldR (c := 22) hB dX12_search_79 fl_RX12_82 rfl rfl (by decide) ?_
    refine r_iload 2 dX12_search_82 rfl ?_
    refine r_aload_n 0 dX12_search_84 rfl rfl ?_
    refine rr_ldR (c := 39) hB dX12_search_85 fl_RX12_136 rfl rfl (by decide) ?_
    refine r_iload 2 dX12_search_88 rfl ?_
    refine rr_raI hf hB dX12_search_90 (by decide) rfl (fun v10 ev10 hf => ?_)
    refine rr_waI hf hB dX12_search_91 (by decide) rfl (fun R11 eR11 hf => ?_)
    refine r_aload_n 0 dX12_search_92 rfl rfl ?_
    refine rr_ldR (c := 23) hB dX12_search_93 fl_RX12_85 rfl rfl (by decide) ?_
    refine r_iload 2 dX12_search_96 rfl ?_
    refine r_aload_n 0 dX12_search_98 rfl rfl ?_
    refine rr_ldR (c := 40) hB dX12_search_99 fl_RX12_139 rfl rfl (by decide) ?_
    refine r_iload 2 dX12_search_102 rfl ?_
    refine rr_raI hf hB dX12_search_104 (by decide) rfl (fun v12 ev12 hf => ?_)
    refine rr_waI hf hB dX12_search_105 (by decide) rfl (fun R13 eR13 hf => ?_)
    refine r_aload_n 0 dX12_search_106 rfl rfl ?_
    refine rr_ldR (c := 24) hB dX12_search_107 fl_RX12_88 rfl rfl (by decide) ?_
    refine r_iload 2 dX12_search_110 rfl ?_
    refine r_aload_n 0 dX12_search_112 rfl rfl ?_
    refine rr_ldR (c := 33) hB dX12_search_113 fl_RX12_118 rfl rfl (by decide) ?_
    refine r_aload_n 0 dX12_search_116 rfl rfl ?_
    refine rr_ldR (c := 41) hB dX12_search_117 fl_RX12_142 rfl rfl (by decide) ?_
    refine r_iload 2 dX12_search_120 rfl ?_
    refine rr_raI hf hB dX12_search_122 (by decide) rfl (fun v14 ev14 hf => ?_)
    refine rr_raI hf hB dX12_search_123 (by decide) rfl (fun v15 ev15 hf => ?_)
    refine rr_waI hf hB dX12_search_124 (by decide) rfl (fun R16 eR16 hf => ?_)
    refine r_iconst (0 : Int32) dX12_search_125 (by decide) ?_
    refine r_istore (L' := [(5, _), (0, _), (1, _), (4, _)]) dX12_search_126 (show 5 < 7 by decide) rfl ?_
    refine bnd hf (fun t22 et22 hf => ?_)
    refine r_sub (L' := [(0, _), (1, _), (4, _), (5, _)]) [1, 2, 3, 0] rfl ?_
    refine x_M_search_l128 hB ?_ _ et22
    · intro z23 hz23
      subst hz23
      refine r_iinc (1 : Int32) (L' := [(4, _), (0, _), (1, _)]) 2 dX12_search_177 rfl (by decide) (show 4 < 7 by decide) rfl ?_
      refine r_goto 69 dX12_search_180 (by decide) ?_
      refine r_sub (L' := [(0, _), (1, _), (4, _)]) [1, 2, 0] rfl ?_
      exact ih _ (Option.some.inj hf).symm
set_option maxRecDepth 100000 in
set_option maxHeartbeats 4000000 in
theorem x_M_search_l263 {Γ : W0} {σ0 : Mem} {r : RT} {τ : Mem} {B : Nat} {x4 : Int32} {x5 : Int32} {t : RS} (hB : RB τ B) (hk0 : ∀ z : RS, z = t → V Γ MD_M_search σ0 r (emb τ B z) 286 [(0, va_rf (some B)), (4, .int x4), (5, .int x5)] []) : ∀ q : Int32 × RS, lp (fun q => M_search_l263 q.2 x4 x5 q.1) q = some t → V Γ MD_M_search σ0 r (emb τ B q.2) 263 [(0, va_rf (some B)), (4, .int x4), (5, .int x5), (6, .int q.1)] [] := by
  refine lp_ind (fun (q : Int32 × RS) => V Γ MD_M_search σ0 r (emb τ B q.2) 263 [(0, va_rf (some B)), (4, .int x4), (5, .int x5), (6, .int q.1)] []) (fun q x hf ih ho => ?_)
  obtain ⟨x6, R⟩ := q
  show V Γ MD_M_search σ0 r (emb τ B R) 263 [(0, va_rf (some B)), (4, .int x4), (5, .int x5), (6, .int x6)] []
  replace hf : M_search_l263 R x4 x5 x6 = some x := hf
  unfold M_search_l263 at hf
  refine r_iload 3 dX12_search_263 rfl ?_
  refine r_aload_n 0 dX12_search_265 rfl rfl ?_
  refine rr_ldI (k := 50) hB dX12_search_266 fl_RX12_257 rfl ?_
  refine r_icmp_ge 286 hf dX12_search_269 (by decide) (fun c36 hf => ?_) (fun c36 hf => ?_)
  · refine r_sub (L' := [(0, _), (4, _), (5, _)]) [0, 1, 2] rfl ?_
    exact hk0 _ (ho _ (Option.some.inj hf).symm)
  · refine r_aload_n 0 dX12_search_272 rfl rfl ?_
    refine r_iload 2 dX12_search_273 rfl ?_
    refine r_iload 3 dX12_search_275 rfl ?_
    refine bnd hf (fun v37 ev37 hf => ?_)
    refine r_callVv (ci := 12) rfl dX12_search_277 cs_RX12_392 ww_1408 ww_66 (by decide) (hB.t0 _) (by decide) rfl (rest := []) rfl (Or.inl (Nat.le_of_ble_eq_true rfl)) (t_M_work hB ev37) ?_
    refine r_iinc (1 : Int32) (L' := [(6, _), (0, _), (4, _), (5, _)]) 3 dX12_search_280 rfl (by decide) (show 6 < 7 by decide) rfl ?_
    refine r_goto 263 dX12_search_283 (by decide) ?_
    refine r_sub (L' := [(0, _), (4, _), (5, _), (6, _)]) [1, 2, 3, 0] rfl ?_
    exact ih _ (Option.some.inj hf).symm
set_option maxRecDepth 100000 in
set_option maxHeartbeats 4000000 in
theorem x_M_search_l201 {Γ : W0} {σ0 : Mem} {r : RT} {τ : Mem} {B : Nat} {t : RS} (hB : RB τ B) (hk0 : ∀ z : RS, z = t → V Γ MD_M_search σ0 r (emb τ B z) 313 [(0, va_rf (some B))] []) : ∀ q : Int32 × RS, lp (fun q => M_search_l201 q.2 q.1) q = some t → V Γ MD_M_search σ0 r (emb τ B q.2) 201 [(0, va_rf (some B)), (4, .int q.1)] [] := by
  refine lp_ind (fun (q : Int32 × RS) => V Γ MD_M_search σ0 r (emb τ B q.2) 201 [(0, va_rf (some B)), (4, .int q.1)] []) (fun q x hf ih ho => ?_)
  obtain ⟨x4, R⟩ := q
  show V Γ MD_M_search σ0 r (emb τ B R) 201 [(0, va_rf (some B)), (4, .int x4)] []
  replace hf : M_search_l201 R x4 = some x := hf
  unfold M_search_l201 at hf
  refine r_iload 1 dX12_search_201 rfl ?_
  refine r_aload_n 0 dX12_search_203 rfl rfl ?_
  refine rr_ldR (c := 17) hB dX12_search_204 fl_RX12_63 rfl rfl (by decide) ?_
  refine r_aload_n 0 dX12_search_207 rfl rfl ?_
  refine rr_ldI (k := 63) hB dX12_search_208 fl_RX12_331 rfl ?_
  refine rr_raI hf hB dX12_search_211 (by decide) rfl (fun v29 ev29 hf => ?_)
  refine r_icmp_ge 313 hf dX12_search_212 (by decide) (fun c30 hf => ?_) (fun c30 hf => ?_)
  · refine r_sub (L' := [(0, _)]) [0] rfl ?_
    exact hk0 _ (ho _ (Option.some.inj hf).symm)
  · refine r_aload_n 0 dX12_search_215 rfl rfl ?_
    refine rr_ldR (c := 19) hB dX12_search_216 fl_RX12_69 rfl rfl (by decide) ?_
    refine r_sipush (400 : Int32) dX12_search_219 (by decide) ?_
    refine r_aload_n 0 dX12_search_222 rfl rfl ?_
    refine rr_ldI (k := 63) hB dX12_search_223 fl_RX12_331 rfl ?_
    refine r_imul dX12_search_226 ?_
    refine r_iload 1 dX12_search_227 rfl ?_
    refine r_iadd dX12_search_229 ?_
    refine rr_raB hf hB dX12_search_230 (by decide) rfl (fun v31 ev31 hf => ?_)
    refine r_bd (fun (q32 : RS) => V Γ MD_M_search σ0 r (emb τ B q32) 307 [(0, va_rf (some B)), (4, .int x4)] []) hf (fun q32 hf => ?_) (fun yq32 hf kq32 => ?_)
    · refine r_iinc (1 : Int32) (L' := [(4, _), (0, _)]) 1 dX12_search_307 rfl (by decide) (show 4 < 7 by decide) rfl ?_
      refine r_goto 201 dX12_search_310 (by decide) ?_
      refine r_sub (L' := [(0, _), (4, _)]) [1, 0] rfl ?_
      exact ih _ (Option.some.inj hf).symm
    · refine r_ifeqZ 237 hf dX12_search_231 (by decide) (fun c33 hf => ?_) (fun c33 hf => ?_)
      · refine r_goto 307 dX12_search_234 (by decide) ?_
        refine r_sub (L' := [(0, _), (4, _)]) [0, 1] rfl ?_
        cases (Option.some.inj hf)
        exact kq32
      · refine r_aload_n 0 dX12_search_237 rfl rfl ?_
        refine rr_ldR (c := 18) hB dX12_search_238 fl_RX12_66 rfl rfl (by decide) ?_
        refine r_sipush (400 : Int32) dX12_search_241 (by decide) ?_
        refine r_aload_n 0 dX12_search_244 rfl rfl ?_
        refine rr_ldI (k := 63) hB dX12_search_245 fl_RX12_331 rfl ?_
        refine r_imul dX12_search_248 ?_
        refine r_iload 1 dX12_search_249 rfl ?_
        refine r_iadd dX12_search_251 ?_
        refine rr_raI hf hB dX12_search_252 (by decide) rfl (fun v34 ev34 hf => ?_)
        refine r_istore (L' := [(5, _), (0, _), (4, _)]) dX12_search_253 (show 5 < 7 by decide) rfl ?_
        refine r_aload_n 1 dX12_search_255 rfl rfl ?_
        refine r_iconst (0 : Int32) dX12_search_256 (by decide) ?_
        refine rr_stI hf hB dX12_search_257 fl_RX12_371 rfl rfl rfl (fun R35 eR35 hf => ?_)
        refine r_iconst (0 : Int32) dX12_search_260 (by decide) ?_
        refine r_istore (L' := [(6, _), (5, _), (0, _), (4, _)]) dX12_search_261 (show 6 < 7 by decide) rfl ?_
        refine bnd hf (fun t38 et38 hf => ?_)
        refine r_sub (L' := [(0, _), (4, _), (5, _), (6, _)]) [2, 3, 1, 0] rfl ?_
        refine x_M_search_l263 hB ?_ _ et38
        · intro z39 hz39
          subst hz39
          refine r_aload_n 0 dX12_search_286 rfl rfl ?_
          refine rr_ldR (c := 42) hB dX12_search_287 fl_RX12_145 rfl rfl (by decide) ?_
          refine r_iconst (0 : Int32) dX12_search_290 (by decide) ?_
          refine rr_raB hf hB dX12_search_291 (by decide) rfl (fun v40 ev40 hf => ?_)
          refine r_ifeqZ 307 hf dX12_search_292 (by decide) (fun c41 hf => ?_) (fun c41 hf => ?_)
          · refine r_aload_n 0 dX12_search_295 rfl rfl ?_
            refine r_iload 2 dX12_search_296 rfl ?_
            refine r_aload_n 0 dX12_search_298 rfl rfl ?_
            refine rr_ldR (c := 43) hB dX12_search_299 fl_RX12_148 rfl rfl (by decide) ?_
            refine r_iconst (0 : Int32) dX12_search_302 (by decide) ?_
            refine rr_raI hf hB dX12_search_303 (by decide) rfl (fun v42 ev42 hf => ?_)
            refine bnd hf (fun v43 ev43 hf => ?_)
            refine r_callVv (ci := 12) rfl dX12_search_304 cs_RX12_395 ww_1467 ww_79 (by decide) (hB.t0 _) (by decide) rfl (rest := []) rfl (Or.inl (Nat.le_of_ble_eq_true rfl)) (t_M_insert hB ev43) ?_
            refine r_sub (L' := [(0, _), (4, _)]) [0, 1] rfl ?_
            cases (Option.some.inj hf)
            exact kq32
          · refine r_sub (L' := [(0, _), (4, _)]) [0, 1] rfl ?_
            cases (Option.some.inj hf)
            exact kq32
set_option maxRecDepth 100000 in
set_option maxHeartbeats 4000000 in
theorem t_M_search {Γ : W0} {τ : Mem} {B : Nat} {R : RS} {x1 : Int32} {v : Int32} {R' : RS} (hB : RB τ B) (hf : M_search R x1 = some (v, R')) : CT Γ MD_M_search yX12_search [va_rf (some B), .int x1] (emb τ B R) (some (.int v), (emb τ B R')) := by
  refine CT.of (L := [(0, va_rf (some B)), (1, .int x1)]) rfl (by decide) (fun h => Bool.noConfusion (show false = true from h)) (Nat.le_of_ble_eq_true rfl) rfl ?_
  unfold M_search at hf
  generalize hr : mkR Γ (emb τ B R) (some (.int v)) (emb τ B R') = r
  refine r_aload_n 0 dX12_search_0 rfl rfl ?_
  refine rr_ldI (k := 3) hB dX12_search_1 fl_RX12_168 rfl ?_
  refine r_istore_n (L' := [(2, _), (0, _), (1, _)]) dX12_search_4 rfl (show 2 < 7 by decide) rfl ?_
  refine r_aload_n 1 dX12_search_5 rfl rfl ?_
  refine r_iconst (0 : Int32) dX12_search_6 (by decide) ?_
  refine rr_stI hf hB dX12_search_7 fl_RX12_168 rfl rfl rfl (fun R1 eR1 hf => ?_)
  refine r_aload_n 1 dX12_search_10 rfl rfl ?_
  refine r_iload_n 2 dX12_search_11 rfl rfl ?_
  refine bnd hf (fun v2 ev2 hf => ?_)
  refine r_callVr (ci := 12) rfl dX12_search_12 cs_RX12_236 ww_1332 ww_48 (by decide) (hB.t0 _) (by decide) rfl (rest := []) rfl (Or.inl (Nat.le_of_ble_eq_true rfl)) (t_M_isView hB ev2) ?_
  refine r_ifneZ 21 hf dX12_search_15 (by decide) (fun c3 hf => ?_) (fun c3 hf => ?_)
  · refine r_aload_n 1 dX12_search_21 rfl rfl ?_
    refine rr_ldI (k := 30) hB dX12_search_22 fl_RX12_295 rfl ?_
    refine r_istore_n (L' := [(3, _), (2, _), (0, _), (1, _)]) dX12_search_25 rfl (show 3 < 7 by decide) rfl ?_
    refine r_aload_n 2 dX12_search_26 rfl rfl ?_
    refine r_iload_n 1 dX12_search_27 rfl rfl ?_
    refine rr_stI hf hB dX12_search_28 fl_RX12_242 rfl rfl rfl (fun R4 eR4 hf => ?_)
    refine r_aload_n 2 dX12_search_31 rfl rfl ?_
    refine r_iconst (0 : Int32) dX12_search_32 (by decide) ?_
    refine rr_stI hf hB dX12_search_33 fl_RX12_239 rfl rfl rfl (fun R5 eR5 hf => ?_)
    refine r_aload_n 2 dX12_search_36 rfl rfl ?_
    refine r_iconst (-1 : Int32) dX12_search_37 (by decide) ?_
    refine rr_stI hf hB dX12_search_38 fl_RX12_254 rfl rfl rfl (fun R6 eR6 hf => ?_)
    refine r_aload_n 2 dX12_search_41 rfl rfl ?_
    refine bnd hf (fun v7 ev7 hf => ?_)
    refine r_callVv (ci := 12) rfl dX12_search_42 cs_RX12_386 ww_1340 ww_49 (by decide) (hB.t0 _) (by decide) rfl (rest := []) rfl (Or.inl (Nat.le_of_ble_eq_true rfl)) (t_M_readQuery hB ev7) ?_
    refine r_aload_n 2 dX12_search_45 rfl rfl ?_
    refine rr_ldI (k := 45) hB dX12_search_46 fl_RX12_254 rfl ?_
    refine r_iconst (-1 : Int32) dX12_search_49 (by decide) ?_
    refine r_icmp_eq 66 hf dX12_search_50 (by decide) (fun c8 hf => ?_) (fun c8 hf => ?_)
    · refine r_iconst (0 : Int32) dX12_search_66 (by decide) ?_
      refine r_istore (L' := [(4, _), (3, _), (2, _), (0, _), (1, _)]) dX12_search_67 (show 4 < 7 by decide) rfl ?_
      refine bnd hf (fun t24 et24 hf => ?_)
      refine r_sub (L' := [(0, _), (1, _), (4, _)]) [3, 4, 0] rfl ?_
      refine x_M_search_l69 hB ?_ _ et24
      · intro z25 hz25
        subst hz25
        refine r_aload_n 0 dX12_search_183 rfl rfl ?_
        refine r_iload_n 1 dX12_search_184 rfl rfl ?_
        refine rr_stI hf hB dX12_search_185 fl_RX12_331 rfl rfl rfl (fun R26 eR26 hf => ?_)
        refine r_aload_n 0 dX12_search_188 rfl rfl ?_
        refine r_iload_n 1 dX12_search_189 rfl rfl ?_
        refine rr_stI hf hB dX12_search_190 fl_RX12_72 rfl rfl rfl (fun R27 eR27 hf => ?_)
        refine r_aload_n 0 dX12_search_193 rfl rfl ?_
        refine r_iconst (0 : Int32) dX12_search_194 (by decide) ?_
        refine rr_stI hf hB dX12_search_195 fl_RX12_389 rfl rfl rfl (fun R28 eR28 hf => ?_)
        refine r_iconst (0 : Int32) dX12_search_198 (by decide) ?_
        refine r_istore (L' := [(4, _), (0, _), (1, _)]) dX12_search_199 (show 4 < 7 by decide) rfl ?_
        refine bnd hf (fun t44 et44 hf => ?_)
        refine r_sub (L' := [(0, _), (4, _)]) [1, 0] rfl ?_
        refine x_M_search_l201 hB ?_ _ et44
        · intro z45 hz45
          subst hz45
          refine r_aload_n 0 dX12_search_313 rfl rfl ?_
          refine rr_ldI (k := 26) hB dX12_search_314 fl_RX12_389 rfl ?_
          exact r_iret rfl dX12_search_317 (by obtain ⟨h1, h2⟩ := Prod.mk.inj (Option.some.inj hf); subst h1; subst h2; exact hr.symm)
    · refine r_aload_n 2 dX12_search_53 rfl rfl ?_
      refine r_iload_n 0 dX12_search_54 rfl rfl ?_
      refine rr_stI hf hB dX12_search_55 fl_RX12_295 rfl rfl rfl (fun R46 eR46 hf => ?_)
      refine r_bipush (-10 : Int32) dX12_search_58 (by decide) ?_
      refine r_aload_n 2 dX12_search_60 rfl rfl ?_
      refine rr_ldI (k := 45) hB dX12_search_61 fl_RX12_254 rfl ?_
      refine r_isub dX12_search_64 ?_
      exact r_iret rfl dX12_search_65 (by obtain ⟨h1, h2⟩ := Prod.mk.inj (Option.some.inj hf); subst h1; subst h2; exact hr.symm)
  · refine r_bipush (-2 : Int32) dX12_search_18 (by decide) ?_
    exact r_iret rfl dX12_search_20 (by obtain ⟨h1, h2⟩ := Prod.mk.inj (Option.some.inj hf); subst h1; subst h2; exact hr.symm)
/-! SearchEngineModel.key -/
noncomputable def M_key (R : RS) (x1 : Int32) : Option Int64 :=
  (M_in x1 (0 : Int32) ((R.1 0 26) - (1 : Int32))).bind fun v1 =>
  if v1 = true then
    (rdI R 20 400 x1).bind fun v3 =>
    (rdL R 2 400 v3).bind fun v4 =>
    some v4
  else
    some (0 : Int64)
set_option maxRecDepth 100000 in
set_option maxHeartbeats 4000000 in
theorem t_M_key {Γ : W0} {τ : Mem} {B : Nat} {R : RS} {x1 : Int32} {v : Int64} (hB : RB τ B) (hf : M_key R x1 = some v) : CT Γ MD_M_key yX12_key [va_rf (some B), .int x1] (emb τ B R) (some (.long v), (emb τ B R)) := by
  refine CT.of (L := [(0, va_rf (some B)), (1, .int x1)]) rfl (by decide) (fun h => Bool.noConfusion (show false = true from h)) (Nat.le_of_ble_eq_true rfl) rfl ?_
  unfold M_key at hf
  generalize hr : mkR Γ (emb τ B R) (some (.long v)) (emb τ B R) = r
  refine r_iload_n 1 dX12_key_0 rfl rfl ?_
  refine r_iconst (0 : Int32) dX12_key_1 (by decide) ?_
  refine r_aload_n 0 dX12_key_2 rfl rfl ?_
  refine rr_ldI (k := 26) hB dX12_key_3 fl_RX12_389 rfl ?_
  refine r_iconst (1 : Int32) dX12_key_6 (by decide) ?_
  refine r_isub dX12_key_7 ?_
  refine bnd hf (fun v1 ev1 hf => ?_)
  refine r_callSr dX12_key_8 cs_RX12_164 ww_1258 (by decide) rfl (rest := []) rfl (Or.inl (Nat.le_of_ble_eq_true rfl)) (t_M_in ev1) ?_
  refine r_ifeqZ 28 hf dX12_key_11 (by decide) (fun c2 hf => ?_) (fun c2 hf => ?_)
  · refine r_aload_n 0 dX12_key_14 rfl rfl ?_
    refine rr_ldR (c := 2) hB dX12_key_15 fl_RX12_13 rfl rfl (by decide) ?_
    refine r_aload_n 0 dX12_key_18 rfl rfl ?_
    refine rr_ldR (c := 20) hB dX12_key_19 fl_RX12_76 rfl rfl (by decide) ?_
    refine r_iload_n 1 dX12_key_22 rfl rfl ?_
    refine rr_raI hf hB dX12_key_23 (by decide) rfl (fun v3 ev3 hf => ?_)
    refine rr_raL hf hB dX12_key_24 (by decide) rfl (fun v4 ev4 hf => ?_)
    refine r_goto 29 dX12_key_25 (by decide) ?_
    exact r_lret rfl dX12_key_29 (by have h1 := (Option.some.inj hf); subst h1; exact hr.symm)
  · refine r_lconst (0 : Int64) dX12_key_28 (by decide) ?_
    exact r_lret rfl dX12_key_29 (by have h1 := (Option.some.inj hf); subst h1; exact hr.symm)
