/-! methods as functions, with their walks (by program) -/
/-! SearchEngineModel.hit -/
noncomputable def M_hit (R : RS) (x1 : Int32) (x2 : Int32) : Option Int32 :=
  (M_in x2 (0 : Int32) (5 : Int32)).bind fun v1 =>
  if v1 = true then
    (M_in x1 (0 : Int32) ((R.1 0 26) - (1 : Int32))).bind fun v3 =>
    if v3 = true then
      (rdI R 20 400 x1).bind fun v5 =>
      if ¬ x2 = 0 then
        if ¬ x2 = (1 : Int32) then
          if ¬ x2 = (2 : Int32) then
            if ¬ x2 = (5 : Int32) then
              (rdI R 6 800 ((((2 : Int32) * v5) + x2) - (3 : Int32))).bind fun v10 =>
              some v10
            else
              some v5
          else
            (rdI R 4 400 v5).bind fun v11 =>
            some v11
        else
          (rdI R 3 400 v5).bind fun v12 =>
          some v12
      else
        (rdI R 21 400 x1).bind fun v13 =>
        some v13
    else
      some (-1 : Int32)
  else
    some (-2 : Int32)
set_option maxRecDepth 100000 in
set_option maxHeartbeats 4000000 in
theorem t_M_hit {Γ : W0} {τ : Mem} {B : Nat} {R : RS} {x1 : Int32} {x2 : Int32} {v : Int32} (hB : RB τ B) (hf : M_hit R x1 x2 = some v) : CT Γ MD_M_hit yX12_hit [va_rf (some B), .int x1, .int x2] (emb τ B R) (some (.int v), (emb τ B R)) := by
  refine CT.of (L := [(0, va_rf (some B)), (1, .int x1), (2, .int x2)]) rfl (by decide) (fun h => Bool.noConfusion (show false = true from h)) (Nat.le_of_ble_eq_true rfl) rfl ?_
  unfold M_hit at hf
  generalize hr : mkR Γ (emb τ B R) (some (.int v)) (emb τ B R) = r
  refine r_iload_n 2 dX12_hit_0 rfl rfl ?_
  refine r_iconst (0 : Int32) dX12_hit_1 (by decide) ?_
  refine r_iconst (5 : Int32) dX12_hit_2 (by decide) ?_
  refine bnd hf (fun v1 ev1 hf => ?_)
  refine r_callSr dX12_hit_3 cs_RX12_164 ww_1258 (by decide) rfl (rest := []) rfl (Or.inl (Nat.le_of_ble_eq_true rfl)) (t_M_in ev1) ?_
  refine r_ifneZ 12 hf dX12_hit_6 (by decide) (fun c2 hf => ?_) (fun c2 hf => ?_)
  · refine r_iload_n 1 dX12_hit_12 rfl rfl ?_
    refine r_iconst (0 : Int32) dX12_hit_13 (by decide) ?_
    refine r_aload_n 0 dX12_hit_14 rfl rfl ?_
    refine rr_ldI (k := 26) hB dX12_hit_15 fl_RX12_389 rfl ?_
    refine r_iconst (1 : Int32) dX12_hit_18 (by decide) ?_
    refine r_isub dX12_hit_19 ?_
    refine bnd hf (fun v3 ev3 hf => ?_)
    refine r_callSr dX12_hit_20 cs_RX12_164 ww_1258 (by decide) rfl (rest := []) rfl (Or.inl (Nat.le_of_ble_eq_true rfl)) (t_M_in ev3) ?_
    refine r_ifneZ 28 hf dX12_hit_23 (by decide) (fun c4 hf => ?_) (fun c4 hf => ?_)
    · refine r_aload_n 0 dX12_hit_28 rfl rfl ?_
      refine rr_ldR (c := 20) hB dX12_hit_29 fl_RX12_76 rfl rfl (by decide) ?_
      refine r_iload_n 1 dX12_hit_32 rfl rfl ?_
      refine rr_raI hf hB dX12_hit_33 (by decide) rfl (fun v5 ev5 hf => ?_)
      refine r_istore_n (L' := [(3, _), (0, _), (1, _), (2, _)]) dX12_hit_34 rfl (show 3 < 4 by decide) rfl ?_
      refine r_iload_n 3 dX12_hit_35 rfl rfl ?_
      refine r_if_ne 48 hf dX12_hit_36 (by decide) (fun c6 hf => ?_) (fun c6 hf => ?_)
      · refine r_iload_n 3 dX12_hit_48 rfl rfl ?_
        refine r_iconst (1 : Int32) dX12_hit_49 (by decide) ?_
        refine r_icmp_ne 62 hf dX12_hit_50 (by decide) (fun c7 hf => ?_) (fun c7 hf => ?_)
        · refine r_iload_n 3 dX12_hit_62 rfl rfl ?_
          refine r_iconst (2 : Int32) dX12_hit_63 (by decide) ?_
          refine r_icmp_ne 76 hf dX12_hit_64 (by decide) (fun c8 hf => ?_) (fun c8 hf => ?_)
          · refine r_iload_n 3 dX12_hit_76 rfl rfl ?_
            refine r_iconst (5 : Int32) dX12_hit_77 (by decide) ?_
            refine r_icmp_ne 85 hf dX12_hit_78 (by decide) (fun c9 hf => ?_) (fun c9 hf => ?_)
            · refine r_aload_n 1 dX12_hit_85 rfl rfl ?_
              refine rr_ldR (c := 6) hB dX12_hit_86 fl_RX12_27 rfl rfl (by decide) ?_
              refine r_iconst (2 : Int32) dX12_hit_89 (by decide) ?_
              refine r_iload_n 0 dX12_hit_90 rfl rfl ?_
              refine r_imul dX12_hit_91 ?_
              refine r_iload_n 3 dX12_hit_92 rfl rfl ?_
              refine r_iadd dX12_hit_93 ?_
              refine r_iconst (3 : Int32) dX12_hit_94 (by decide) ?_
              refine r_isub dX12_hit_95 ?_
              refine rr_raI hf hB dX12_hit_96 (by decide) rfl (fun v10 ev10 hf => ?_)
              exact r_iret rfl dX12_hit_97 (by have h1 := (Option.some.inj hf); subst h1; exact hr.symm)
            · refine r_iload_n 0 dX12_hit_81 rfl rfl ?_
              refine r_goto 97 dX12_hit_82 (by decide) ?_
              exact r_iret rfl dX12_hit_97 (by have h1 := (Option.some.inj hf); subst h1; exact hr.symm)
          · refine r_aload_n 1 dX12_hit_67 rfl rfl ?_
            refine rr_ldR (c := 4) hB dX12_hit_68 fl_RX12_20 rfl rfl (by decide) ?_
            refine r_iload_n 0 dX12_hit_71 rfl rfl ?_
            refine rr_raI hf hB dX12_hit_72 (by decide) rfl (fun v11 ev11 hf => ?_)
            refine r_goto 97 dX12_hit_73 (by decide) ?_
            exact r_iret rfl dX12_hit_97 (by have h1 := (Option.some.inj hf); subst h1; exact hr.symm)
        · refine r_aload_n 1 dX12_hit_53 rfl rfl ?_
          refine rr_ldR (c := 3) hB dX12_hit_54 fl_RX12_17 rfl rfl (by decide) ?_
          refine r_iload_n 0 dX12_hit_57 rfl rfl ?_
          refine rr_raI hf hB dX12_hit_58 (by decide) rfl (fun v12 ev12 hf => ?_)
          refine r_goto 97 dX12_hit_59 (by decide) ?_
          exact r_iret rfl dX12_hit_97 (by have h1 := (Option.some.inj hf); subst h1; exact hr.symm)
      · refine r_aload_n 1 dX12_hit_39 rfl rfl ?_
        refine rr_ldR (c := 21) hB dX12_hit_40 fl_RX12_79 rfl rfl (by decide) ?_
        refine r_iload_n 2 dX12_hit_43 rfl rfl ?_
        refine rr_raI hf hB dX12_hit_44 (by decide) rfl (fun v13 ev13 hf => ?_)
        refine r_goto 97 dX12_hit_45 (by decide) ?_
        exact r_iret rfl dX12_hit_97 (by have h1 := (Option.some.inj hf); subst h1; exact hr.symm)
    · refine r_iconst (-1 : Int32) dX12_hit_26 (by decide) ?_
      exact r_iret rfl dX12_hit_27 (by have h1 := (Option.some.inj hf); subst h1; exact hr.symm)
  · refine r_bipush (-2 : Int32) dX12_hit_9 (by decide) ?_
    exact r_iret rfl dX12_hit_11 (by have h1 := (Option.some.inj hf); subst h1; exact hr.symm)
/-! SearchEngineModel.bucket -/
noncomputable def M_bucket_l23 (R : RS) (x1 : Int32) (x2 : Int32) (x3 : Int32) (x4 : Int32) (x5 : Int32) : Option ((Int32 × Int32) ⊕ Int32) :=
  if (R.1 0 26) ≤ x5 then
    some (Sum.inr x4)
  else
    Option.bind (
      if ¬ x1 = 0 then
        (rdI R 20 400 x5).bind fun v7 =>
        (rdI R 4 400 v7).bind fun v8 =>
        some v8.toInt64
      else
        (rdI R 20 400 x5).bind fun v9 =>
        (rdI R 3 400 v9).bind fun v10 =>
        some v10.toInt64) fun q5 =>
    Option.bind (
      if q5 < x2.toInt64 then
        some (0 : Int32)
      else
        if (x2.toInt64 + x3.toInt64) ≤ q5 then
          some (0 : Int32)
        else
          some (1 : Int32)) fun q11 =>
    some (Sum.inl ((x4 + q11), (x5 + (1 : Int32))))
noncomputable def M_bucket (R : RS) (x1 : Int32) (x2 : Int32) (x3 : Int32) : Option Int32 :=
  (M_in x1 (0 : Int32) (1 : Int32)).bind fun v1 =>
  if v1 = true then
    if (1 : Int32) ≤ x3 then
      (lp (fun q => M_bucket_l23 R x1 x2 x3 q.1 q.2) ((0 : Int32), (0 : Int32))).bind fun z15 =>
      some z15
    else
      some (-2 : Int32)
  else
    some (-2 : Int32)
set_option maxRecDepth 100000 in
set_option maxHeartbeats 4000000 in
theorem x_M_bucket_l23 {Γ : W0} {σ0 : Mem} {r : RT} {τ : Mem} {B : Nat} {R : RS} {x1 : Int32} {x2 : Int32} {x3 : Int32} {t : Int32} (hB : RB τ B) (hk0 : ∀ z : Int32, z = t → V Γ MD_M_bucket σ0 r (emb τ B R) 102 [(4, .int z)] []) : ∀ q : Int32 × Int32, lp (fun q => M_bucket_l23 R x1 x2 x3 q.1 q.2) q = some t → V Γ MD_M_bucket σ0 r (emb τ B R) 23 [(0, va_rf (some B)), (1, .int x1), (2, .int x2), (3, .int x3), (4, .int q.1), (5, .int q.2)] [] := by
  refine lp_ind (fun (q : Int32 × Int32) => V Γ MD_M_bucket σ0 r (emb τ B R) 23 [(0, va_rf (some B)), (1, .int x1), (2, .int x2), (3, .int x3), (4, .int q.1), (5, .int q.2)] []) (fun q x hf ih ho => ?_)
  obtain ⟨x4, x5⟩ := q
  show V Γ MD_M_bucket σ0 r (emb τ B R) 23 [(0, va_rf (some B)), (1, .int x1), (2, .int x2), (3, .int x3), (4, .int x4), (5, .int x5)] []
  replace hf : M_bucket_l23 R x1 x2 x3 x4 x5 = some x := hf
  unfold M_bucket_l23 at hf
  refine r_iload 5 dX12_bucket_23 rfl ?_
  refine r_aload_n 0 dX12_bucket_25 rfl rfl ?_
  refine rr_ldI (k := 26) hB dX12_bucket_26 fl_RX12_389 rfl ?_
  refine r_icmp_ge 102 hf dX12_bucket_29 (by decide) (fun c4 hf => ?_) (fun c4 hf => ?_)
  · refine r_sub (L' := [(4, _)]) [4] rfl ?_
    exact hk0 _ (ho _ (Option.some.inj hf).symm)
  · refine r_iload_n 1 dX12_bucket_32 rfl rfl ?_
    refine r_bd (fun (q5 : Int64) => V Γ MD_M_bucket σ0 r (emb τ B R) 65 [(0, va_rf (some B)), (1, .int x1), (2, .int x2), (3, .int x3), (4, .int x4), (5, .int x5)] [.long q5]) hf (fun q5 hf => ?_) (fun yq5 hf kq5 => ?_)
    · refine r_lstore (L' := [(6, _), (0, _), (1, _), (2, _), (3, _), (4, _), (5, _)]) dX12_bucket_65 (show 7 < 8 by decide) rfl ?_
      refine r_iload 5 dX12_bucket_67 rfl ?_
      refine r_lload 0 dX12_bucket_69 rfl ?_
      refine r_iload_n 3 dX12_bucket_71 rfl rfl ?_
      refine r_i2l dX12_bucket_72 ?_
      refine r_bd (fun (q11 : Int32) => V Γ MD_M_bucket σ0 r (emb τ B R) 93 [(0, va_rf (some B)), (1, .int x1), (2, .int x2), (3, .int x3), (5, .int x5)] [.int q11, .int x4]) hf (fun q11 hf => ?_) (fun yq11 hf kq11 => ?_)
      · refine r_iadd dX12_bucket_93 ?_
        refine r_istore (L' := [(4, _), (0, _), (1, _), (2, _), (3, _), (5, _)]) dX12_bucket_94 (show 4 < 8 by decide) rfl ?_
        refine r_iinc (1 : Int32) (L' := [(5, _), (4, _), (0, _), (1, _), (2, _), (3, _)]) 5 dX12_bucket_96 rfl (by decide) (show 5 < 8 by decide) rfl ?_
        refine r_goto 23 dX12_bucket_99 (by decide) ?_
        refine r_sub (L' := [(0, _), (1, _), (2, _), (3, _), (4, _), (5, _)]) [2, 3, 4, 5, 1, 0] rfl ?_
        exact ih _ (Option.some.inj hf).symm
      · refine r_lcmp_lt 92 hf dX12_bucket_73 dX12_bucket_74 (by decide) (fun c12 hf => ?_) (fun c12 hf => ?_)
        · refine r_iconst (0 : Int32) dX12_bucket_92 (by decide) ?_
          refine r_sub (L' := [(0, _), (1, _), (2, _), (3, _), (5, _)]) [1, 2, 3, 4, 6] rfl ?_
          cases (Option.some.inj hf)
          exact kq11
        · refine r_lload 0 dX12_bucket_77 rfl ?_
          refine r_iload_n 3 dX12_bucket_79 rfl rfl ?_
          refine r_i2l dX12_bucket_80 ?_
          refine r_iload_n 4 dX12_bucket_81 rfl rfl ?_
          refine r_i2l dX12_bucket_82 ?_
          refine r_ladd dX12_bucket_83 ?_
          refine r_lcmp_ge 92 hf dX12_bucket_84 dX12_bucket_85 (by decide) (fun c13 hf => ?_) (fun c13 hf => ?_)
          · refine r_iconst (0 : Int32) dX12_bucket_92 (by decide) ?_
            refine r_sub (L' := [(0, _), (1, _), (2, _), (3, _), (5, _)]) [1, 2, 3, 4, 6] rfl ?_
            cases (Option.some.inj hf)
            exact kq11
          · refine r_iconst (1 : Int32) dX12_bucket_88 (by decide) ?_
            refine r_goto 93 dX12_bucket_89 (by decide) ?_
            refine r_sub (L' := [(0, _), (1, _), (2, _), (3, _), (5, _)]) [1, 2, 3, 4, 6] rfl ?_
            cases (Option.some.inj hf)
            exact kq11
    · refine r_if_ne 52 hf dX12_bucket_33 (by decide) (fun c6 hf => ?_) (fun c6 hf => ?_)
      · refine r_aload_n 0 dX12_bucket_52 rfl rfl ?_
        refine rr_ldR (c := 4) hB dX12_bucket_53 fl_RX12_20 rfl rfl (by decide) ?_
        refine r_aload_n 0 dX12_bucket_56 rfl rfl ?_
        refine rr_ldR (c := 20) hB dX12_bucket_57 fl_RX12_76 rfl rfl (by decide) ?_
        refine r_iload 5 dX12_bucket_60 rfl ?_
        refine rr_raI hf hB dX12_bucket_62 (by decide) rfl (fun v7 ev7 hf => ?_)
        refine rr_raI hf hB dX12_bucket_63 (by decide) rfl (fun v8 ev8 hf => ?_)
        refine r_i2l dX12_bucket_64 ?_
        refine r_sub (L' := [(0, _), (1, _), (2, _), (3, _), (4, _), (5, _)]) [0, 1, 2, 3, 4, 5] rfl ?_
        cases (Option.some.inj hf)
        exact kq5
      · refine r_aload_n 0 dX12_bucket_36 rfl rfl ?_
        refine rr_ldR (c := 3) hB dX12_bucket_37 fl_RX12_17 rfl rfl (by decide) ?_
        refine r_aload_n 0 dX12_bucket_40 rfl rfl ?_
        refine rr_ldR (c := 20) hB dX12_bucket_41 fl_RX12_76 rfl rfl (by decide) ?_
        refine r_iload 5 dX12_bucket_44 rfl ?_
        refine rr_raI hf hB dX12_bucket_46 (by decide) rfl (fun v9 ev9 hf => ?_)
        refine rr_raI hf hB dX12_bucket_47 (by decide) rfl (fun v10 ev10 hf => ?_)
        refine r_i2l dX12_bucket_48 ?_
        refine r_goto 65 dX12_bucket_49 (by decide) ?_
        refine r_sub (L' := [(0, _), (1, _), (2, _), (3, _), (4, _), (5, _)]) [0, 1, 2, 3, 4, 5] rfl ?_
        cases (Option.some.inj hf)
        exact kq5
set_option maxRecDepth 100000 in
set_option maxHeartbeats 4000000 in
theorem t_M_bucket {Γ : W0} {τ : Mem} {B : Nat} {R : RS} {x1 : Int32} {x2 : Int32} {x3 : Int32} {v : Int32} (hB : RB τ B) (hf : M_bucket R x1 x2 x3 = some v) : CT Γ MD_M_bucket yX12_bucket [va_rf (some B), .int x1, .int x2, .int x3] (emb τ B R) (some (.int v), (emb τ B R)) := by
  refine CT.of (L := [(0, va_rf (some B)), (1, .int x1), (2, .int x2), (3, .int x3)]) rfl (by decide) (fun h => Bool.noConfusion (show false = true from h)) (Nat.le_of_ble_eq_true rfl) rfl ?_
  unfold M_bucket at hf
  generalize hr : mkR Γ (emb τ B R) (some (.int v)) (emb τ B R) = r
  refine r_iload_n 1 dX12_bucket_0 rfl rfl ?_
  refine r_iconst (0 : Int32) dX12_bucket_1 (by decide) ?_
  refine r_iconst (1 : Int32) dX12_bucket_2 (by decide) ?_
  refine bnd hf (fun v1 ev1 hf => ?_)
  refine r_callSr dX12_bucket_3 cs_RX12_164 ww_1258 (by decide) rfl (rest := []) rfl (Or.inl (Nat.le_of_ble_eq_true rfl)) (t_M_in ev1) ?_
  refine r_ifeqZ 14 hf dX12_bucket_6 (by decide) (fun c2 hf => ?_) (fun c2 hf => ?_)
  · refine r_iload_n 3 dX12_bucket_9 rfl rfl ?_
    refine r_iconst (1 : Int32) dX12_bucket_10 (by decide) ?_
    refine r_icmp_ge 17 hf dX12_bucket_11 (by decide) (fun c3 hf => ?_) (fun c3 hf => ?_)
    · refine r_iconst (0 : Int32) dX12_bucket_17 (by decide) ?_
      refine r_istore (L' := [(4, _), (0, _), (1, _), (2, _), (3, _)]) dX12_bucket_18 (show 4 < 8 by decide) rfl ?_
      refine r_iconst (0 : Int32) dX12_bucket_20 (by decide) ?_
      refine r_istore (L' := [(5, _), (4, _), (0, _), (1, _), (2, _), (3, _)]) dX12_bucket_21 (show 5 < 8 by decide) rfl ?_
      refine bnd hf (fun t14 et14 hf => ?_)
      refine r_sub (L' := [(0, _), (1, _), (2, _), (3, _), (4, _), (5, _)]) [2, 3, 4, 5, 1, 0] rfl ?_
      refine x_M_bucket_l23 hB ?_ _ et14
      · intro z15 hz15
        subst hz15
        refine r_iload 0 dX12_bucket_102 rfl ?_
        exact r_iret rfl dX12_bucket_104 (by have h1 := (Option.some.inj hf); subst h1; exact hr.symm)
    · refine r_bipush (-2 : Int32) dX12_bucket_14 (by decide) ?_
      exact r_iret rfl dX12_bucket_16 (by have h1 := (Option.some.inj hf); subst h1; exact hr.symm)
  · refine r_bipush (-2 : Int32) dX12_bucket_14 (by decide) ?_
    exact r_iret rfl dX12_bucket_16 (by have h1 := (Option.some.inj hf); subst h1; exact hr.symm)
/-! SearchEngineModel.over -/
noncomputable def M_over_l27 (R : RS) (x1 : Int32) (x2 : Int32) (x3 : Int64) (x5 : Int32) : Option ((Int64 × Int32) ⊕ Int64) :=
  if (R.1 0 26) ≤ x5 then
    some (Sum.inr x3)
  else
    Option.bind (
      if ¬ x1 = 0 then
        (rdI R 20 400 x5).bind fun v9 =>
        (rdI R 4 400 v9).bind fun v10 =>
        some v10.toInt64
      else
        (rdI R 20 400 x5).bind fun v11 =>
        (rdI R 3 400 v11).bind fun v12 =>
        some v12.toInt64) fun q7 =>
    Option.bind (
      if ¬ x2 = 0 then
        if x5 = 0 then
          some q7
        else
          if ¬ x2 = (1 : Int32) then
            if q7 ≤ x3 then
              some x3
            else
              some q7
          else
            if x3 ≤ q7 then
              some x3
            else
              some q7
      else
        some (x3 + q7)) fun q13 =>
    some (Sum.inl (q13, (x5 + (1 : Int32))))
noncomputable def M_over (R : RS) (x1 : Int32) (x2 : Int32) : Option Int64 :=
  (M_in x1 (0 : Int32) (1 : Int32)).bind fun v1 =>
  jn (
    if v1 = true then
      (M_in x2 (0 : Int32) (2 : Int32)).bind fun v4 =>
      if v4 = true then
        (lp (fun q => M_over_l27 R x1 x2 q.1 q.2) ((0 : Int64), (0 : Int32))).bind fun z20 =>
        some (Sum.inl z20)
      else
        some (Sum.inr ())
    else
      some (Sum.inr ())) fun q2 =>
  some (-2 : Int64)
set_option maxRecDepth 100000 in
set_option maxHeartbeats 4000000 in
theorem x_M_over_l27 {Γ : W0} {σ0 : Mem} {r : RT} {τ : Mem} {B : Nat} {R : RS} {x1 : Int32} {x2 : Int32} {t : Int64} (hB : RB τ B) (hk0 : ∀ z : Int64, z = t → V Γ MD_M_over σ0 r (emb τ B R) 122 [(3, .long z)] []) : ∀ q : Int64 × Int32, lp (fun q => M_over_l27 R x1 x2 q.1 q.2) q = some t → V Γ MD_M_over σ0 r (emb τ B R) 27 [(0, va_rf (some B)), (1, .int x1), (2, .int x2), (3, .long q.1), (5, .int q.2)] [] := by
  refine lp_ind (fun (q : Int64 × Int32) => V Γ MD_M_over σ0 r (emb τ B R) 27 [(0, va_rf (some B)), (1, .int x1), (2, .int x2), (3, .long q.1), (5, .int q.2)] []) (fun q x hf ih ho => ?_)
  obtain ⟨x3, x5⟩ := q
  show V Γ MD_M_over σ0 r (emb τ B R) 27 [(0, va_rf (some B)), (1, .int x1), (2, .int x2), (3, .long x3), (5, .int x5)] []
  replace hf : M_over_l27 R x1 x2 x3 x5 = some x := hf
  unfold M_over_l27 at hf
  refine r_iload 4 dX12_over_27 rfl ?_
  refine r_aload_n 0 dX12_over_29 rfl rfl ?_
  refine rr_ldI (k := 26) hB dX12_over_30 fl_RX12_389 rfl ?_
  refine r_icmp_ge 122 hf dX12_over_33 (by decide) (fun c6 hf => ?_) (fun c6 hf => ?_)
  · refine r_sub (L' := [(3, _)]) [3] rfl ?_
    exact hk0 _ (ho _ (Option.some.inj hf).symm)
  · refine r_iload_n 1 dX12_over_36 rfl rfl ?_
    refine r_bd (fun (q7 : Int64) => V Γ MD_M_over σ0 r (emb τ B R) 69 [(0, va_rf (some B)), (1, .int x1), (2, .int x2), (3, .long x3), (5, .int x5)] [.long q7]) hf (fun q7 hf => ?_) (fun yq7 hf kq7 => ?_)
    · refine r_lstore (L' := [(6, _), (0, _), (1, _), (2, _), (3, _), (5, _)]) dX12_over_69 (show 7 < 8 by decide) rfl ?_
      refine r_iload_n 3 dX12_over_71 rfl rfl ?_
      refine r_bd (fun (q13 : Int64) => V Γ MD_M_over σ0 r (emb τ B R) 115 [(0, va_rf (some B)), (1, .int x1), (2, .int x2), (5, .int x5)] [.long q13]) hf (fun q13 hf => ?_) (fun yq13 hf kq13 => ?_)
      · refine r_lstore_n (L' := [(3, _), (0, _), (1, _), (2, _), (5, _)]) dX12_over_115 rfl (show 4 < 8 by decide) rfl ?_
        refine r_iinc (1 : Int32) (L' := [(5, _), (3, _), (0, _), (1, _), (2, _)]) 4 dX12_over_116 rfl (by decide) (show 5 < 8 by decide) rfl ?_
        refine r_goto 27 dX12_over_119 (by decide) ?_
        refine r_sub (L' := [(0, _), (1, _), (2, _), (3, _), (5, _)]) [2, 3, 4, 1, 0] rfl ?_
        exact ih _ (Option.some.inj hf).symm
      · refine r_if_ne 82 hf dX12_over_72 (by decide) (fun c14 hf => ?_) (fun c14 hf => ?_)
        · refine r_iload 5 dX12_over_82 rfl ?_
          refine r_if_eq 109 hf dX12_over_84 (by decide) (fun c15 hf => ?_) (fun c15 hf => ?_)
          · refine r_lload 0 dX12_over_109 rfl ?_
            refine r_goto 115 dX12_over_111 (by decide) ?_
            refine r_sub (L' := [(0, _), (1, _), (2, _), (5, _)]) [1, 2, 3, 5] rfl ?_
            cases (Option.some.inj hf)
            exact kq13
          · refine r_iload_n 3 dX12_over_87 rfl rfl ?_
            refine r_iconst (1 : Int32) dX12_over_88 (by decide) ?_
            refine r_icmp_ne 102 hf dX12_over_89 (by decide) (fun c16 hf => ?_) (fun c16 hf => ?_)
            · refine r_lload 0 dX12_over_102 rfl ?_
              refine r_lload_n 4 dX12_over_104 rfl rfl ?_
              refine r_lcmp_le 114 hf dX12_over_105 dX12_over_106 (by decide) (fun c17 hf => ?_) (fun c17 hf => ?_)
              · refine r_lload_n 4 dX12_over_114 rfl rfl ?_
                refine r_sub (L' := [(0, _), (1, _), (2, _), (5, _)]) [1, 2, 3, 5] rfl ?_
                cases (Option.some.inj hf)
                exact kq13
              · refine r_lload 0 dX12_over_109 rfl ?_
                refine r_goto 115 dX12_over_111 (by decide) ?_
                refine r_sub (L' := [(0, _), (1, _), (2, _), (5, _)]) [1, 2, 3, 5] rfl ?_
                cases (Option.some.inj hf)
                exact kq13
            · refine r_lload 0 dX12_over_92 rfl ?_
              refine r_lload_n 4 dX12_over_94 rfl rfl ?_
              refine r_lcmp_ge 114 hf dX12_over_95 dX12_over_96 (by decide) (fun c18 hf => ?_) (fun c18 hf => ?_)
              · refine r_lload_n 4 dX12_over_114 rfl rfl ?_
                refine r_sub (L' := [(0, _), (1, _), (2, _), (5, _)]) [1, 2, 3, 5] rfl ?_
                cases (Option.some.inj hf)
                exact kq13
              · refine r_goto 109 dX12_over_99 (by decide) ?_
                refine r_lload 0 dX12_over_109 rfl ?_
                refine r_goto 115 dX12_over_111 (by decide) ?_
                refine r_sub (L' := [(0, _), (1, _), (2, _), (5, _)]) [1, 2, 3, 5] rfl ?_
                cases (Option.some.inj hf)
                exact kq13
        · refine r_lload_n 4 dX12_over_75 rfl rfl ?_
          refine r_lload 0 dX12_over_76 rfl ?_
          refine r_ladd dX12_over_78 ?_
          refine r_goto 115 dX12_over_79 (by decide) ?_
          refine r_sub (L' := [(0, _), (1, _), (2, _), (5, _)]) [1, 2, 3, 5] rfl ?_
          cases (Option.some.inj hf)
          exact kq13
    · refine r_if_ne 56 hf dX12_over_37 (by decide) (fun c8 hf => ?_) (fun c8 hf => ?_)
      · refine r_aload_n 0 dX12_over_56 rfl rfl ?_
        refine rr_ldR (c := 4) hB dX12_over_57 fl_RX12_20 rfl rfl (by decide) ?_
        refine r_aload_n 0 dX12_over_60 rfl rfl ?_
        refine rr_ldR (c := 20) hB dX12_over_61 fl_RX12_76 rfl rfl (by decide) ?_
        refine r_iload 4 dX12_over_64 rfl ?_
        refine rr_raI hf hB dX12_over_66 (by decide) rfl (fun v9 ev9 hf => ?_)
        refine rr_raI hf hB dX12_over_67 (by decide) rfl (fun v10 ev10 hf => ?_)
        refine r_i2l dX12_over_68 ?_
        refine r_sub (L' := [(0, _), (1, _), (2, _), (3, _), (5, _)]) [0, 1, 2, 3, 4] rfl ?_
        cases (Option.some.inj hf)
        exact kq7
      · refine r_aload_n 0 dX12_over_40 rfl rfl ?_
        refine rr_ldR (c := 3) hB dX12_over_41 fl_RX12_17 rfl rfl (by decide) ?_
        refine r_aload_n 0 dX12_over_44 rfl rfl ?_
        refine rr_ldR (c := 20) hB dX12_over_45 fl_RX12_76 rfl rfl (by decide) ?_
        refine r_iload 4 dX12_over_48 rfl ?_
        refine rr_raI hf hB dX12_over_50 (by decide) rfl (fun v11 ev11 hf => ?_)
        refine rr_raI hf hB dX12_over_51 (by decide) rfl (fun v12 ev12 hf => ?_)
        refine r_i2l dX12_over_52 ?_
        refine r_goto 69 dX12_over_53 (by decide) ?_
        refine r_sub (L' := [(0, _), (1, _), (2, _), (3, _), (5, _)]) [0, 1, 2, 3, 4] rfl ?_
        cases (Option.some.inj hf)
        exact kq7
set_option maxRecDepth 100000 in
set_option maxHeartbeats 4000000 in
theorem t_M_over {Γ : W0} {τ : Mem} {B : Nat} {R : RS} {x1 : Int32} {x2 : Int32} {v : Int64} (hB : RB τ B) (hf : M_over R x1 x2 = some v) : CT Γ MD_M_over yX12_over [va_rf (some B), .int x1, .int x2] (emb τ B R) (some (.long v), (emb τ B R)) := by
  refine CT.of (L := [(0, va_rf (some B)), (1, .int x1), (2, .int x2)]) rfl (by decide) (fun h => Bool.noConfusion (show false = true from h)) (Nat.le_of_ble_eq_true rfl) rfl ?_
  unfold M_over at hf
  generalize hr : mkR Γ (emb τ B R) (some (.long v)) (emb τ B R) = r
  refine r_iload_n 1 dX12_over_0 rfl rfl ?_
  refine r_iconst (0 : Int32) dX12_over_1 (by decide) ?_
  refine r_iconst (1 : Int32) dX12_over_2 (by decide) ?_
  refine bnd hf (fun v1 ev1 hf => ?_)
  refine r_callSr dX12_over_3 cs_RX12_164 ww_1258 (by decide) rfl (rest := []) rfl (Or.inl (Nat.le_of_ble_eq_true rfl)) (t_M_in ev1) ?_
  refine r_jn (fun (q2 : Unit) => V Γ MD_M_over (emb τ B R) r (emb τ B R) 18 [] []) hf (fun q2 hf => ?_) (fun yq2 hf oq2 kq2 => ?_)
  · refine r_ldc2 (-2 : Int64) dX12_over_18 ww_1489 ?_
    exact r_lret rfl dX12_over_21 (by have h1 := (Option.some.inj hf); subst h1; exact hr.symm)
  · refine r_ifeqZ 18 hf dX12_over_6 (by decide) (fun c3 hf => ?_) (fun c3 hf => ?_)
    · refine r_iload_n 2 dX12_over_9 rfl rfl ?_
      refine r_iconst (0 : Int32) dX12_over_10 (by decide) ?_
      refine r_iconst (2 : Int32) dX12_over_11 (by decide) ?_
      refine bnd hf (fun v4 ev4 hf => ?_)
      refine r_callSr dX12_over_12 cs_RX12_164 ww_1258 (by decide) rfl (rest := []) rfl (Or.inl (Nat.le_of_ble_eq_true rfl)) (t_M_in ev4) ?_
      refine r_ifneZ 22 hf dX12_over_15 (by decide) (fun c5 hf => ?_) (fun c5 hf => ?_)
      · refine r_lconst (0 : Int64) dX12_over_22 (by decide) ?_
        refine r_lstore_n (L' := [(3, _), (0, _), (1, _), (2, _)]) dX12_over_23 rfl (show 4 < 8 by decide) rfl ?_
        refine r_iconst (0 : Int32) dX12_over_24 (by decide) ?_
        refine r_istore (L' := [(5, _), (3, _), (0, _), (1, _), (2, _)]) dX12_over_25 (show 5 < 8 by decide) rfl ?_
        refine bnd hf (fun t19 et19 hf => ?_)
        refine r_sub (L' := [(0, _), (1, _), (2, _), (3, _), (5, _)]) [2, 3, 4, 1, 0] rfl ?_
        refine x_M_over_l27 hB ?_ _ et19
        · intro z20 hz20
          subst hz20
          refine r_lload_n 0 dX12_over_122 rfl rfl ?_
          exact r_lret rfl dX12_over_123 (by have h1 := (oq2 _ (Option.some.inj hf).symm); subst h1; exact hr.symm)
      · refine r_sub (L' := []) [] rfl ?_
        exact kq2 _ (Option.some.inj hf).symm
    · refine r_sub (L' := []) [] rfl ?_
      exact kq2 _ (Option.some.inj hf).symm
/-! SearchEngineModel.isMarked -/
noncomputable def M_isMarked_l95 (R : RS) (x1 : Int32) (x2 : Int32) (x3 : Int32) (x4 : Int32) (x5 : Int32) : Option ((Int32 × Int32) ⊕ Int32) :=
  (rdI R 24 400 x3).bind fun v19 =>
  if v19 ≤ x5 then
    some (Sum.inr x4)
  else
    if x4 = 0 then
      some (Sum.inr x4)
    else
      (rdI R 10 1200000 (((12 : Int32) * x1) + x5)).bind fun v22 =>
      (rdI R 25 4800 (((12 : Int32) * x3) + x5)).bind fun v23 =>
      Option.bind (
        if ¬ v22 = v23 then
          some (0 : Int32)
        else
          some (1 : Int32)) fun q24 =>
      some (Sum.inl (q24, (x5 + (1 : Int32))))
noncomputable def M_isMarked_l2 (R : RS) (x1 : Int32) (x2 : Int32) (x3 : Int32) : Option (Int32 ⊕ (Unit ⊕ Unit)) :=
  if (R.1 0 30) ≤ x3 then
    some (Sum.inr (Sum.inr ()))
  else
    (rdI R 23 400 x3).bind fun v2 =>
    jn (
      jn (
        if v2 = (-1 : Int32) then
          some (Sum.inr ())
        else
          (rdI R 23 400 x3).bind fun v6 =>
          if v6 = x2 then
            some (Sum.inr ())
          else
            some (Sum.inl (Sum.inr ()))) fun q4 =>
      (rdI R 9 100000 x1).bind fun v8 =>
      Option.bind (
        if v8 ≤ 0 then
          some (0 : Int32)
        else
          (rdI R 22 400 x3).bind fun v11 =>
          if ¬ v11 = (2 : Int32) then
            (rdI R 9 100000 x1).bind fun v13 =>
            (rdI R 24 400 x3).bind fun v14 =>
            if ¬ v13 = v14 then
              some (0 : Int32)
            else
              some (1 : Int32)
          else
            (rdI R 9 100000 x1).bind fun v16 =>
            (rdI R 24 400 x3).bind fun v17 =>
            if v16 < v17 then
              some (0 : Int32)
            else
              some (1 : Int32)) fun q9 =>
      (lp (fun q => M_isMarked_l95 R x1 x2 x3 q.1 q.2) (q9, (0 : Int32))).bind fun z27 =>
      if z27 = 0 then
        some (Sum.inr ())
      else
        some (Sum.inl (Sum.inr (Sum.inl ())))) fun q3 =>
    some (Sum.inl (x3 + (1 : Int32)))
noncomputable def M_isMarked (R : RS) (x1 : Int32) (x2 : Int32) : Option Bool :=
  (lp (fun q => M_isMarked_l2 R x1 x2 q) (0 : Int32)).bind 
    (se (fun z30 =>
      some true)
      (fun z31 =>
        some false))
set_option maxRecDepth 100000 in
set_option maxHeartbeats 4000000 in
theorem x_M_isMarked_l95 {Γ : W0} {σ0 : Mem} {r : RT} {τ : Mem} {B : Nat} {R : RS} {x1 : Int32} {x2 : Int32} {x3 : Int32} {t : Int32} (hB : RB τ B) (hk0 : ∀ z : Int32, z = t → V Γ MD_M_isMarked σ0 r (emb τ B R) 151 [(0, va_rf (some B)), (1, .int x1), (2, .int x2), (3, .int x3), (4, .int z)] []) : ∀ q : Int32 × Int32, lp (fun q => M_isMarked_l95 R x1 x2 x3 q.1 q.2) q = some t → V Γ MD_M_isMarked σ0 r (emb τ B R) 95 [(0, va_rf (some B)), (1, .int x1), (2, .int x2), (3, .int x3), (4, .int q.1), (5, .int q.2)] [] := by
  refine lp_ind (fun (q : Int32 × Int32) => V Γ MD_M_isMarked σ0 r (emb τ B R) 95 [(0, va_rf (some B)), (1, .int x1), (2, .int x2), (3, .int x3), (4, .int q.1), (5, .int q.2)] []) (fun q x hf ih ho => ?_)
  obtain ⟨x4, x5⟩ := q
  show V Γ MD_M_isMarked σ0 r (emb τ B R) 95 [(0, va_rf (some B)), (1, .int x1), (2, .int x2), (3, .int x3), (4, .int x4), (5, .int x5)] []
  replace hf : M_isMarked_l95 R x1 x2 x3 x4 x5 = some x := hf
  unfold M_isMarked_l95 at hf
  refine r_iload 5 dX12_isMarked_95 rfl ?_
  refine r_aload_n 0 dX12_isMarked_97 rfl rfl ?_
  refine rr_ldR (c := 24) hB dX12_isMarked_98 fl_RX12_88 rfl rfl (by decide) ?_
  refine r_iload_n 3 dX12_isMarked_101 rfl rfl ?_
  refine rr_raI hf hB dX12_isMarked_102 (by decide) rfl (fun v19 ev19 hf => ?_)
  refine r_icmp_ge 151 hf dX12_isMarked_103 (by decide) (fun c20 hf => ?_) (fun c20 hf => ?_)
  · refine r_sub (L' := [(0, _), (1, _), (2, _), (3, _), (4, _)]) [0, 1, 2, 3, 4] rfl ?_
    exact hk0 _ (ho _ (Option.some.inj hf).symm)
  · refine r_iload 4 dX12_isMarked_106 rfl ?_
    refine r_if_eq 151 hf dX12_isMarked_108 (by decide) (fun c21 hf => ?_) (fun c21 hf => ?_)
    · refine r_sub (L' := [(0, _), (1, _), (2, _), (3, _), (4, _)]) [0, 1, 2, 3, 4] rfl ?_
      exact hk0 _ (ho _ (Option.some.inj hf).symm)
    · refine r_aload_n 0 dX12_isMarked_111 rfl rfl ?_
      refine rr_ldR (c := 10) hB dX12_isMarked_112 fl_RX12_41 rfl rfl (by decide) ?_
      refine r_bipush (12 : Int32) dX12_isMarked_115 (by decide) ?_
      refine r_iload_n 1 dX12_isMarked_117 rfl rfl ?_
      refine r_imul dX12_isMarked_118 ?_
      refine r_iload 5 dX12_isMarked_119 rfl ?_
      refine r_iadd dX12_isMarked_121 ?_
      refine rr_raI hf hB dX12_isMarked_122 (by decide) rfl (fun v22 ev22 hf => ?_)
      refine r_aload_n 0 dX12_isMarked_123 rfl rfl ?_
      refine rr_ldR (c := 25) hB dX12_isMarked_124 fl_RX12_91 rfl rfl (by decide) ?_
      refine r_bipush (12 : Int32) dX12_isMarked_127 (by decide) ?_
      refine r_iload_n 3 dX12_isMarked_129 rfl rfl ?_
      refine r_imul dX12_isMarked_130 ?_
      refine r_iload 5 dX12_isMarked_131 rfl ?_
      refine r_iadd dX12_isMarked_133 ?_
      refine rr_raI hf hB dX12_isMarked_134 (by decide) rfl (fun v23 ev23 hf => ?_)
      refine r_bd (fun (q24 : Int32) => V Γ MD_M_isMarked σ0 r (emb τ B R) 143 [(0, va_rf (some B)), (1, .int x1), (2, .int x2), (3, .int x3), (5, .int x5)] [.int q24]) hf (fun q24 hf => ?_) (fun yq24 hf kq24 => ?_)
      · refine r_istore (L' := [(4, _), (0, _), (1, _), (2, _), (3, _), (5, _)]) dX12_isMarked_143 (show 4 < 6 by decide) rfl ?_
        refine r_iinc (1 : Int32) (L' := [(5, _), (4, _), (0, _), (1, _), (2, _), (3, _)]) 5 dX12_isMarked_145 rfl (by decide) (show 5 < 6 by decide) rfl ?_
        refine r_goto 95 dX12_isMarked_148 (by decide) ?_
        refine r_sub (L' := [(0, _), (1, _), (2, _), (3, _), (4, _), (5, _)]) [2, 3, 4, 5, 1, 0] rfl ?_
        exact ih _ (Option.some.inj hf).symm
      · refine r_icmp_ne 142 hf dX12_isMarked_135 (by decide) (fun c25 hf => ?_) (fun c25 hf => ?_)
        · refine r_iconst (0 : Int32) dX12_isMarked_142 (by decide) ?_
          refine r_sub (L' := [(0, _), (1, _), (2, _), (3, _), (5, _)]) [0, 1, 2, 3, 5] rfl ?_
          cases (Option.some.inj hf)
          exact kq24
        · refine r_iconst (1 : Int32) dX12_isMarked_138 (by decide) ?_
          refine r_goto 143 dX12_isMarked_139 (by decide) ?_
          refine r_sub (L' := [(0, _), (1, _), (2, _), (3, _), (5, _)]) [0, 1, 2, 3, 5] rfl ?_
          cases (Option.some.inj hf)
          exact kq24
set_option maxRecDepth 100000 in
set_option maxHeartbeats 4000000 in
theorem x_M_isMarked_l2 {Γ : W0} {σ0 : Mem} {r : RT} {τ : Mem} {B : Nat} {R : RS} {x1 : Int32} {x2 : Int32} {t : Unit ⊕ Unit} (hB : RB τ B) (hk0 : ∀ z : Unit, (Sum.inl z) = t → V Γ MD_M_isMarked σ0 r (emb τ B R) 156 [] []) (hk1 : ∀ z : Unit, (Sum.inr z) = t → V Γ MD_M_isMarked σ0 r (emb τ B R) 164 [] []) : ∀ q : Int32, lp (fun q => M_isMarked_l2 R x1 x2 q) q = some t → V Γ MD_M_isMarked σ0 r (emb τ B R) 2 [(0, va_rf (some B)), (1, .int x1), (2, .int x2), (3, .int q)] [] := by
  refine lp_ind (fun (q : Int32) => V Γ MD_M_isMarked σ0 r (emb τ B R) 2 [(0, va_rf (some B)), (1, .int x1), (2, .int x2), (3, .int q)] []) (fun q x hf ih ho => ?_)
  revert hf ih
  generalize q = x3
  intro hf ih
  show V Γ MD_M_isMarked σ0 r (emb τ B R) 2 [(0, va_rf (some B)), (1, .int x1), (2, .int x2), (3, .int x3)] []
  replace hf : M_isMarked_l2 R x1 x2 x3 = some x := hf
  unfold M_isMarked_l2 at hf
  refine r_iload_n 3 dX12_isMarked_2 rfl rfl ?_
  refine r_aload_n 0 dX12_isMarked_3 rfl rfl ?_
  refine rr_ldI (k := 30) hB dX12_isMarked_4 fl_RX12_295 rfl ?_
  refine r_icmp_ge 164 hf dX12_isMarked_7 (by decide) (fun c1 hf => ?_) (fun c1 hf => ?_)
  · refine r_sub (L' := []) [] rfl ?_
    exact hk1 _ (ho _ (Option.some.inj hf).symm)
  · refine r_aload_n 0 dX12_isMarked_10 rfl rfl ?_
    refine rr_ldR (c := 23) hB dX12_isMarked_11 fl_RX12_85 rfl rfl (by decide) ?_
    refine r_iload_n 3 dX12_isMarked_14 rfl rfl ?_
    refine rr_raI hf hB dX12_isMarked_15 (by decide) rfl (fun v2 ev2 hf => ?_)
    refine r_iconst (-1 : Int32) dX12_isMarked_16 (by decide) ?_
    refine r_jn (fun (q3 : Unit) => V Γ MD_M_isMarked σ0 r (emb τ B R) 158 [(0, va_rf (some B)), (1, .int x1), (2, .int x2), (3, .int x3)] []) hf (fun q3 hf => ?_) (fun yq3 hf oq3 kq3 => ?_)
    · refine r_iinc (1 : Int32) (L' := [(3, _), (0, _), (1, _), (2, _)]) 3 dX12_isMarked_158 rfl (by decide) (show 3 < 6 by decide) rfl ?_
      refine r_goto 2 dX12_isMarked_161 (by decide) ?_
      refine r_sub (L' := [(0, _), (1, _), (2, _), (3, _)]) [1, 2, 3, 0] rfl ?_
      exact ih _ (Option.some.inj hf).symm
    · refine r_jn (fun (q4 : Unit) => V Γ MD_M_isMarked σ0 r (emb τ B R) 33 [(0, va_rf (some B)), (1, .int x1), (2, .int x2), (3, .int x3)] []) hf (fun q4 hf => ?_) (fun yq4 hf oq4 kq4 => ?_)
      · refine r_aload_n 0 dX12_isMarked_33 rfl rfl ?_
        refine rr_ldR (c := 9) hB dX12_isMarked_34 fl_RX12_37 rfl rfl (by decide) ?_
        refine r_iload_n 1 dX12_isMarked_37 rfl rfl ?_
        refine rr_raI hf hB dX12_isMarked_38 (by decide) rfl (fun v8 ev8 hf => ?_)
        refine r_bd (fun (q9 : Int32) => V Γ MD_M_isMarked σ0 r (emb τ B R) 90 [(0, va_rf (some B)), (1, .int x1), (2, .int x2), (3, .int x3)] [.int q9]) hf (fun q9 hf => ?_) (fun yq9 hf kq9 => ?_)
        · refine r_istore (L' := [(4, _), (0, _), (1, _), (2, _), (3, _)]) dX12_isMarked_90 (show 4 < 6 by decide) rfl ?_
          refine r_iconst (0 : Int32) dX12_isMarked_92 (by decide) ?_
          refine r_istore (L' := [(5, _), (4, _), (0, _), (1, _), (2, _), (3, _)]) dX12_isMarked_93 (show 5 < 6 by decide) rfl ?_
          refine bnd hf (fun t26 et26 hf => ?_)
          refine r_sub (L' := [(0, _), (1, _), (2, _), (3, _), (4, _), (5, _)]) [2, 3, 4, 5, 1, 0] rfl ?_
          refine x_M_isMarked_l95 hB ?_ _ et26
          · intro z27 hz27
            subst hz27
            refine r_iload 4 dX12_isMarked_151 rfl ?_
            refine r_if_eq 158 hf dX12_isMarked_153 (by decide) (fun c28 hf => ?_) (fun c28 hf => ?_)
            · refine r_sub (L' := [(0, _), (1, _), (2, _), (3, _)]) [0, 1, 2, 3] rfl ?_
              exact kq3 _ (Option.some.inj hf).symm
            · refine r_sub (L' := []) [] rfl ?_
              exact hk0 _ (ho _ (oq3 _ (Option.some.inj hf).symm).symm)
        · refine r_if_le 89 hf dX12_isMarked_39 (by decide) (fun c10 hf => ?_) (fun c10 hf => ?_)
          · refine r_iconst (0 : Int32) dX12_isMarked_89 (by decide) ?_
            refine r_sub (L' := [(0, _), (1, _), (2, _), (3, _)]) [0, 1, 2, 3] rfl ?_
            cases (Option.some.inj hf)
            exact kq9
          · refine r_aload_n 0 dX12_isMarked_42 rfl rfl ?_
            refine rr_ldR (c := 22) hB dX12_isMarked_43 fl_RX12_82 rfl rfl (by decide) ?_
            refine r_iload_n 3 dX12_isMarked_46 rfl rfl ?_
            refine rr_raI hf hB dX12_isMarked_47 (by decide) rfl (fun v11 ev11 hf => ?_)
            refine r_iconst (2 : Int32) dX12_isMarked_48 (by decide) ?_
            refine r_icmp_ne 70 hf dX12_isMarked_49 (by decide) (fun c12 hf => ?_) (fun c12 hf => ?_)
            · refine r_aload_n 0 dX12_isMarked_70 rfl rfl ?_
              refine rr_ldR (c := 9) hB dX12_isMarked_71 fl_RX12_37 rfl rfl (by decide) ?_
              refine r_iload_n 1 dX12_isMarked_74 rfl rfl ?_
              refine rr_raI hf hB dX12_isMarked_75 (by decide) rfl (fun v13 ev13 hf => ?_)
              refine r_aload_n 0 dX12_isMarked_76 rfl rfl ?_
              refine rr_ldR (c := 24) hB dX12_isMarked_77 fl_RX12_88 rfl rfl (by decide) ?_
              refine r_iload_n 3 dX12_isMarked_80 rfl rfl ?_
              refine rr_raI hf hB dX12_isMarked_81 (by decide) rfl (fun v14 ev14 hf => ?_)
              refine r_icmp_ne 89 hf dX12_isMarked_82 (by decide) (fun c15 hf => ?_) (fun c15 hf => ?_)
              · refine r_iconst (0 : Int32) dX12_isMarked_89 (by decide) ?_
                refine r_sub (L' := [(0, _), (1, _), (2, _), (3, _)]) [0, 1, 2, 3] rfl ?_
                cases (Option.some.inj hf)
                exact kq9
              · refine r_iconst (1 : Int32) dX12_isMarked_85 (by decide) ?_
                refine r_goto 90 dX12_isMarked_86 (by decide) ?_
                refine r_sub (L' := [(0, _), (1, _), (2, _), (3, _)]) [0, 1, 2, 3] rfl ?_
                cases (Option.some.inj hf)
                exact kq9
            · refine r_aload_n 0 dX12_isMarked_52 rfl rfl ?_
              refine rr_ldR (c := 9) hB dX12_isMarked_53 fl_RX12_37 rfl rfl (by decide) ?_
              refine r_iload_n 1 dX12_isMarked_56 rfl rfl ?_
              refine rr_raI hf hB dX12_isMarked_57 (by decide) rfl (fun v16 ev16 hf => ?_)
              refine r_aload_n 0 dX12_isMarked_58 rfl rfl ?_
              refine rr_ldR (c := 24) hB dX12_isMarked_59 fl_RX12_88 rfl rfl (by decide) ?_
              refine r_iload_n 3 dX12_isMarked_62 rfl rfl ?_
              refine rr_raI hf hB dX12_isMarked_63 (by decide) rfl (fun v17 ev17 hf => ?_)
              refine r_icmp_lt 89 hf dX12_isMarked_64 (by decide) (fun c18 hf => ?_) (fun c18 hf => ?_)
              · refine r_iconst (0 : Int32) dX12_isMarked_89 (by decide) ?_
                refine r_sub (L' := [(0, _), (1, _), (2, _), (3, _)]) [0, 1, 2, 3] rfl ?_
                cases (Option.some.inj hf)
                exact kq9
              · refine r_goto 85 dX12_isMarked_67 (by decide) ?_
                refine r_iconst (1 : Int32) dX12_isMarked_85 (by decide) ?_
                refine r_goto 90 dX12_isMarked_86 (by decide) ?_
                refine r_sub (L' := [(0, _), (1, _), (2, _), (3, _)]) [0, 1, 2, 3] rfl ?_
                cases (Option.some.inj hf)
                exact kq9
      · refine r_icmp_eq 33 hf dX12_isMarked_17 (by decide) (fun c5 hf => ?_) (fun c5 hf => ?_)
        · refine r_sub (L' := [(0, _), (1, _), (2, _), (3, _)]) [0, 1, 2, 3] rfl ?_
          exact kq4 _ (Option.some.inj hf).symm
        · refine r_aload_n 0 dX12_isMarked_20 rfl rfl ?_
          refine rr_ldR (c := 23) hB dX12_isMarked_21 fl_RX12_85 rfl rfl (by decide) ?_
          refine r_iload_n 3 dX12_isMarked_24 rfl rfl ?_
          refine rr_raI hf hB dX12_isMarked_25 (by decide) rfl (fun v6 ev6 hf => ?_)
          refine r_iload_n 2 dX12_isMarked_26 rfl rfl ?_
          refine r_icmp_eq 33 hf dX12_isMarked_27 (by decide) (fun c7 hf => ?_) (fun c7 hf => ?_)
          · refine r_sub (L' := [(0, _), (1, _), (2, _), (3, _)]) [0, 1, 2, 3] rfl ?_
            exact kq4 _ (Option.some.inj hf).symm
          · refine r_goto 158 dX12_isMarked_30 (by decide) ?_
            refine r_sub (L' := [(0, _), (1, _), (2, _), (3, _)]) [0, 1, 2, 3] rfl ?_
            exact kq3 _ (oq4 _ (Option.some.inj hf).symm).symm
set_option maxRecDepth 100000 in
set_option maxHeartbeats 4000000 in
theorem t_M_isMarked {Γ : W0} {τ : Mem} {B : Nat} {R : RS} {x1 : Int32} {x2 : Int32} {v : Bool} (hB : RB τ B) (hf : M_isMarked R x1 x2 = some v) : CT Γ MD_M_isMarked yX12_isMarked [va_rf (some B), .int x1, .int x2] (emb τ B R) (some (.int (b2i v)), (emb τ B R)) := by
  refine CT.of (L := [(0, va_rf (some B)), (1, .int x1), (2, .int x2)]) rfl (by decide) (fun h => Bool.noConfusion (show false = true from h)) (Nat.le_of_ble_eq_true rfl) rfl ?_
  unfold M_isMarked at hf
  generalize hr : mkR Γ (emb τ B R) (some (.int (b2i v))) (emb τ B R) = r
  refine r_iconst (0 : Int32) dX12_isMarked_0 (by decide) ?_
  refine r_istore_n (L' := [(3, _), (0, _), (1, _), (2, _)]) dX12_isMarked_1 rfl (show 3 < 6 by decide) rfl ?_
  refine bnd hf (fun t29 et29 hf => ?_)
  refine r_sub (L' := [(0, _), (1, _), (2, _), (3, _)]) [1, 2, 3, 0] rfl ?_
  refine x_M_isMarked_l2 hB ?_ ?_ _ et29
  · intro z30 hz30
    subst hz30
    simp only [se] at hf
    refine r_iconst (b2i true) dX12_isMarked_156 rfl ?_
    exact r_zret rfl dX12_isMarked_157 (by have h1 := (Option.some.inj hf); subst h1; exact hr.symm)
  · intro z31 hz31
    subst hz31
    simp only [se] at hf
    refine r_iconst (b2i false) dX12_isMarked_164 rfl ?_
    exact r_zret rfl dX12_isMarked_165 (by have h1 := (Option.some.inj hf); subst h1; exact hr.symm)
/-! SearchEngineModel.mark -/
noncomputable def M_mark__l39 (R : RS) (x2 : Int32) (x3 : Bool) (x4 : Int32) (x5 : Int32) : Option (Int32 ⊕ (Int32 ⊕ Unit)) :=
  (rdI R 6 800 (((2 : Int32) * x4) + x2)).bind fun v6 =>
  if v6 ≤ x5 then
    some (Sum.inr (Sum.inr ()))
  else
    (M_base x4 x2).bind fun v8 =>
    (M_isMarked R (v8 + x5) x2).bind fun v9 =>
    if v9 = true then
      some (Sum.inr (Sum.inl (v8 + x5)))
    else
      some (Sum.inl (x5 + (1 : Int32)))
noncomputable def M_mark_ (R : RS) (x1 : Int32) (x2 : Int32) (x3 : Bool) : Option Int32 :=
  (M_in x2 (0 : Int32) (1 : Int32)).bind fun v1 =>
  if v1 = true then
    (M_in x1 (0 : Int32) ((R.1 0 26) - (1 : Int32))).bind fun v3 =>
    if v3 = true then
      (rdI R 20 400 x1).bind fun v5 =>
      (lp (fun q => M_mark__l39 R x2 x3 v5 q) (0 : Int32)).bind 
        (se (fun z12 =>
          if x3 = true then
            (rdI R 8 100000 z12).bind fun v15 =>
            some v15
          else
            (rdI R 7 100000 z12).bind fun v16 =>
            some v16)
          (fun z13 =>
            some (-1 : Int32)))
    else
      some (-1 : Int32)
  else
    some (-2 : Int32)
set_option maxRecDepth 100000 in
set_option maxHeartbeats 4000000 in
theorem x_M_mark__l39 {Γ : W0} {σ0 : Mem} {r : RT} {τ : Mem} {B : Nat} {R : RS} {x2 : Int32} {x3 : Bool} {x4 : Int32} {t : Int32 ⊕ Unit} (hB : RB τ B) (hk0 : ∀ z : Int32, (Sum.inl z) = t → V Γ MD_M_mark_ σ0 r (emb τ B R) 76 [(0, va_rf (some B)), (3, .int (b2i x3)), (6, .int z)] []) (hk1 : ∀ z : Unit, (Sum.inr z) = t → V Γ MD_M_mark_ σ0 r (emb τ B R) 104 [] []) : ∀ q : Int32, lp (fun q => M_mark__l39 R x2 x3 x4 q) q = some t → V Γ MD_M_mark_ σ0 r (emb τ B R) 39 [(0, va_rf (some B)), (2, .int x2), (3, .int (b2i x3)), (4, .int x4), (5, .int q)] [] := by
  refine lp_ind (fun (q : Int32) => V Γ MD_M_mark_ σ0 r (emb τ B R) 39 [(0, va_rf (some B)), (2, .int x2), (3, .int (b2i x3)), (4, .int x4), (5, .int q)] []) (fun q x hf ih ho => ?_)
  revert hf ih
  generalize q = x5
  intro hf ih
  show V Γ MD_M_mark_ σ0 r (emb τ B R) 39 [(0, va_rf (some B)), (2, .int x2), (3, .int (b2i x3)), (4, .int x4), (5, .int x5)] []
  replace hf : M_mark__l39 R x2 x3 x4 x5 = some x := hf
  unfold M_mark__l39 at hf
  refine r_iload 4 dX12_mark__39 rfl ?_
  refine r_aload_n 0 dX12_mark__41 rfl rfl ?_
  refine rr_ldR (c := 6) hB dX12_mark__42 fl_RX12_27 rfl rfl (by decide) ?_
  refine r_iconst (2 : Int32) dX12_mark__45 (by decide) ?_
  refine r_iload 3 dX12_mark__46 rfl ?_
  refine r_imul dX12_mark__48 ?_
  refine r_iload_n 1 dX12_mark__49 rfl rfl ?_
  refine r_iadd dX12_mark__50 ?_
  refine rr_raI hf hB dX12_mark__51 (by decide) rfl (fun v6 ev6 hf => ?_)
  refine r_icmp_ge 104 hf dX12_mark__52 (by decide) (fun c7 hf => ?_) (fun c7 hf => ?_)
  · refine r_sub (L' := []) [] rfl ?_
    exact hk1 _ (ho _ (Option.some.inj hf).symm)
  · refine r_iload 3 dX12_mark__55 rfl ?_
    refine r_iload_n 1 dX12_mark__57 rfl rfl ?_
    refine bnd hf (fun v8 ev8 hf => ?_)
    refine r_callSr dX12_mark__58 cs_RX12_189 ww_1276 (by decide) rfl (rest := []) rfl (Or.inl (Nat.le_of_ble_eq_true rfl)) (t_M_base ev8) ?_
    refine r_iload 4 dX12_mark__61 rfl ?_
    refine r_iadd dX12_mark__63 ?_
    refine r_istore (L' := [(6, _), (0, _), (2, _), (3, _), (4, _), (5, _)]) dX12_mark__64 (show 6 < 7 by decide) rfl ?_
    refine r_aload_n 1 dX12_mark__66 rfl rfl ?_
    refine r_iload 0 dX12_mark__67 rfl ?_
    refine r_iload_n 2 dX12_mark__69 rfl rfl ?_
    refine bnd hf (fun v9 ev9 hf => ?_)
    refine r_callVr (ci := 12) rfl dX12_mark__70 cs_RX12_403 ww_1496 ww_81 (by decide) (hB.t0 _) (by decide) rfl (rest := []) rfl (Or.inl (Nat.le_of_ble_eq_true rfl)) (t_M_isMarked hB ev9) ?_
    refine r_ifeqZ 98 hf dX12_mark__73 (by decide) (fun c10 hf => ?_) (fun c10 hf => ?_)
    · refine r_sub (L' := [(0, _), (3, _), (6, _)]) [1, 3, 0] rfl ?_
      exact hk0 _ (ho _ (Option.some.inj hf).symm)
    · refine r_iinc (1 : Int32) (L' := [(5, _), (6, _), (0, _), (2, _), (3, _), (4, _)]) 5 dX12_mark__98 rfl (by decide) (show 5 < 7 by decide) rfl ?_
      refine r_goto 39 dX12_mark__101 (by decide) ?_
      refine r_sub (L' := [(0, _), (2, _), (3, _), (4, _), (5, _)]) [2, 3, 4, 5, 0] rfl ?_
      exact ih _ (Option.some.inj hf).symm
set_option maxRecDepth 100000 in
set_option maxHeartbeats 4000000 in
theorem t_M_mark_ {Γ : W0} {τ : Mem} {B : Nat} {R : RS} {x1 : Int32} {x2 : Int32} {x3 : Bool} {v : Int32} (hB : RB τ B) (hf : M_mark_ R x1 x2 x3 = some v) : CT Γ MD_M_mark_ yX12_mark_ [va_rf (some B), .int x1, .int x2, .int (b2i x3)] (emb τ B R) (some (.int v), (emb τ B R)) := by
  refine CT.of (L := [(0, va_rf (some B)), (1, .int x1), (2, .int x2), (3, .int (b2i x3))]) rfl (by decide) (fun h => Bool.noConfusion (show false = true from h)) (Nat.le_of_ble_eq_true rfl) rfl ?_
  unfold M_mark_ at hf
  generalize hr : mkR Γ (emb τ B R) (some (.int v)) (emb τ B R) = r
  refine r_iload_n 2 dX12_mark__0 rfl rfl ?_
  refine r_iconst (0 : Int32) dX12_mark__1 (by decide) ?_
  refine r_iconst (1 : Int32) dX12_mark__2 (by decide) ?_
  refine bnd hf (fun v1 ev1 hf => ?_)
  refine r_callSr dX12_mark__3 cs_RX12_164 ww_1258 (by decide) rfl (rest := []) rfl (Or.inl (Nat.le_of_ble_eq_true rfl)) (t_M_in ev1) ?_
  refine r_ifneZ 12 hf dX12_mark__6 (by decide) (fun c2 hf => ?_) (fun c2 hf => ?_)
  · refine r_iload_n 1 dX12_mark__12 rfl rfl ?_
    refine r_iconst (0 : Int32) dX12_mark__13 (by decide) ?_
    refine r_aload_n 0 dX12_mark__14 rfl rfl ?_
    refine rr_ldI (k := 26) hB dX12_mark__15 fl_RX12_389 rfl ?_
    refine r_iconst (1 : Int32) dX12_mark__18 (by decide) ?_
    refine r_isub dX12_mark__19 ?_
    refine bnd hf (fun v3 ev3 hf => ?_)
    refine r_callSr dX12_mark__20 cs_RX12_164 ww_1258 (by decide) rfl (rest := []) rfl (Or.inl (Nat.le_of_ble_eq_true rfl)) (t_M_in ev3) ?_
    refine r_ifneZ 28 hf dX12_mark__23 (by decide) (fun c4 hf => ?_) (fun c4 hf => ?_)
    · refine r_aload_n 0 dX12_mark__28 rfl rfl ?_
      refine rr_ldR (c := 20) hB dX12_mark__29 fl_RX12_76 rfl rfl (by decide) ?_
      refine r_iload_n 1 dX12_mark__32 rfl rfl ?_
      refine rr_raI hf hB dX12_mark__33 (by decide) rfl (fun v5 ev5 hf => ?_)
      refine r_istore (L' := [(4, _), (0, _), (1, _), (2, _), (3, _)]) dX12_mark__34 (show 4 < 7 by decide) rfl ?_
      refine r_iconst (0 : Int32) dX12_mark__36 (by decide) ?_
      refine r_istore (L' := [(5, _), (4, _), (0, _), (1, _), (2, _), (3, _)]) dX12_mark__37 (show 5 < 7 by decide) rfl ?_
      refine bnd hf (fun t11 et11 hf => ?_)
      refine r_sub (L' := [(0, _), (2, _), (3, _), (4, _), (5, _)]) [2, 4, 5, 1, 0] rfl ?_
      refine x_M_mark__l39 hB ?_ ?_ _ et11
      · intro z12 hz12
        subst hz12
        simp only [se] at hf
        refine r_iload_n 1 dX12_mark__76 rfl rfl ?_
        refine r_ifeqZ 90 hf dX12_mark__77 (by decide) (fun c14 hf => ?_) (fun c14 hf => ?_)
        · refine r_aload_n 0 dX12_mark__80 rfl rfl ?_
          refine rr_ldR (c := 8) hB dX12_mark__81 fl_RX12_34 rfl rfl (by decide) ?_
          refine r_iload 2 dX12_mark__84 rfl ?_
          refine rr_raI hf hB dX12_mark__86 (by decide) rfl (fun v15 ev15 hf => ?_)
          refine r_goto 97 dX12_mark__87 (by decide) ?_
          exact r_iret rfl dX12_mark__97 (by have h1 := (Option.some.inj hf); subst h1; exact hr.symm)
        · refine r_aload_n 0 dX12_mark__90 rfl rfl ?_
          refine rr_ldR (c := 7) hB dX12_mark__91 fl_RX12_31 rfl rfl (by decide) ?_
          refine r_iload 2 dX12_mark__94 rfl ?_
          refine rr_raI hf hB dX12_mark__96 (by decide) rfl (fun v16 ev16 hf => ?_)
          exact r_iret rfl dX12_mark__97 (by have h1 := (Option.some.inj hf); subst h1; exact hr.symm)
      · intro z13 hz13
        subst hz13
        simp only [se] at hf
        refine r_iconst (-1 : Int32) dX12_mark__104 (by decide) ?_
        exact r_iret rfl dX12_mark__105 (by have h1 := (Option.some.inj hf); subst h1; exact hr.symm)
    · refine r_iconst (-1 : Int32) dX12_mark__26 (by decide) ?_
      exact r_iret rfl dX12_mark__27 (by have h1 := (Option.some.inj hf); subst h1; exact hr.symm)
  · refine r_bipush (-2 : Int32) dX12_mark__9 (by decide) ?_
    exact r_iret rfl dX12_mark__11 (by have h1 := (Option.some.inj hf); subst h1; exact hr.symm)
/-! SearchEngineModel.isWord -/
noncomputable def M_isWord_l12 (R : RS) (x1 : Int32) (x2 : Bool) (x3 : Int32) : Option ((Bool × Int32) ⊕ Bool) :=
  if x1 ≤ x3 then
    some (Sum.inr x2)
  else
    Option.bind (
      if x2 = true then
        (rdI R 1 600 x3).bind fun v6 =>
        (M_isLetter v6).bind fun v7 =>
        if v7 = true then
          some true
        else
          some false
      else
        some false) fun q4 =>
    some (Sum.inl (q4, (x3 + (1 : Int32))))
noncomputable def M_isWord (R : RS) (x1 : Int32) : Option Bool :=
  Option.bind (
    if x1 ≤ 0 then
      some false
    else
      some true) fun q1 =>
  (lp (fun q => M_isWord_l12 R x1 q.1 q.2) (q1, (0 : Int32))).bind fun z10 =>
  some z10
set_option maxRecDepth 100000 in
set_option maxHeartbeats 4000000 in
theorem x_M_isWord_l12 {Γ : W0} {σ0 : Mem} {r : RT} {τ : Mem} {B : Nat} {R : RS} {x1 : Int32} {t : Bool} (hB : RB τ B) (hk0 : ∀ z : Bool, z = t → V Γ MD_M_isWord σ0 r (emb τ B R) 45 [(2, .int (b2i z))] []) : ∀ q : Bool × Int32, lp (fun q => M_isWord_l12 R x1 q.1 q.2) q = some t → V Γ MD_M_isWord σ0 r (emb τ B R) 12 [(0, va_rf (some B)), (1, .int x1), (2, .int (b2i q.1)), (3, .int q.2)] [] := by
  refine lp_ind (fun (q : Bool × Int32) => V Γ MD_M_isWord σ0 r (emb τ B R) 12 [(0, va_rf (some B)), (1, .int x1), (2, .int (b2i q.1)), (3, .int q.2)] []) (fun q x hf ih ho => ?_)
  obtain ⟨x2, x3⟩ := q
  show V Γ MD_M_isWord σ0 r (emb τ B R) 12 [(0, va_rf (some B)), (1, .int x1), (2, .int (b2i x2)), (3, .int x3)] []
  replace hf : M_isWord_l12 R x1 x2 x3 = some x := hf
  unfold M_isWord_l12 at hf
  refine r_iload_n 3 dX12_isWord_12 rfl rfl ?_
  refine r_iload_n 1 dX12_isWord_13 rfl rfl ?_
  refine r_icmp_ge 45 hf dX12_isWord_14 (by decide) (fun c3 hf => ?_) (fun c3 hf => ?_)
  · refine r_sub (L' := [(2, _)]) [2] rfl ?_
    exact hk0 _ (ho _ (Option.some.inj hf).symm)
  · refine r_iload_n 2 dX12_isWord_17 rfl rfl ?_
    refine r_bd (fun (q4 : Bool) => V Γ MD_M_isWord σ0 r (emb τ B R) 38 [(0, va_rf (some B)), (1, .int x1), (3, .int x3)] [.int (b2i q4)]) hf (fun q4 hf => ?_) (fun yq4 hf kq4 => ?_)
    · refine r_istore_n (L' := [(2, _), (0, _), (1, _), (3, _)]) dX12_isWord_38 rfl (show 2 < 4 by decide) rfl ?_
      refine r_iinc (1 : Int32) (L' := [(3, _), (2, _), (0, _), (1, _)]) 3 dX12_isWord_39 rfl (by decide) (show 3 < 4 by decide) rfl ?_
      refine r_goto 12 dX12_isWord_42 (by decide) ?_
      refine r_sub (L' := [(0, _), (1, _), (2, _), (3, _)]) [2, 3, 1, 0] rfl ?_
      exact ih _ (Option.some.inj hf).symm
    · refine r_ifeqZ 37 hf dX12_isWord_18 (by decide) (fun c5 hf => ?_) (fun c5 hf => ?_)
      · refine r_aload_n 0 dX12_isWord_21 rfl rfl ?_
        refine rr_ldR (c := 1) hB dX12_isWord_22 fl_RX12_7 rfl rfl (by decide) ?_
        refine r_iload_n 3 dX12_isWord_25 rfl rfl ?_
        refine rr_raI hf hB dX12_isWord_26 (by decide) rfl (fun v6 ev6 hf => ?_)
        refine bnd hf (fun v7 ev7 hf => ?_)
        refine r_callSr dX12_isWord_27 cs_RX12_185 ww_1273 (by decide) rfl (rest := []) rfl (Or.inl (Nat.le_of_ble_eq_true rfl)) (t_M_isLetter ev7) ?_
        refine r_ifeqZ 37 hf dX12_isWord_30 (by decide) (fun c8 hf => ?_) (fun c8 hf => ?_)
        · refine r_iconst (b2i true) dX12_isWord_33 rfl ?_
          refine r_goto 38 dX12_isWord_34 (by decide) ?_
          refine r_sub (L' := [(0, _), (1, _), (3, _)]) [0, 1, 3] rfl ?_
          cases (Option.some.inj hf)
          exact kq4
        · refine r_iconst (b2i false) dX12_isWord_37 rfl ?_
          refine r_sub (L' := [(0, _), (1, _), (3, _)]) [0, 1, 3] rfl ?_
          cases (Option.some.inj hf)
          exact kq4
      · refine r_iconst (b2i false) dX12_isWord_37 rfl ?_
        refine r_sub (L' := [(0, _), (1, _), (3, _)]) [0, 1, 3] rfl ?_
        cases (Option.some.inj hf)
        exact kq4
set_option maxRecDepth 100000 in
set_option maxHeartbeats 4000000 in
theorem t_M_isWord {Γ : W0} {τ : Mem} {B : Nat} {R : RS} {x1 : Int32} {v : Bool} (hB : RB τ B) (hf : M_isWord R x1 = some v) : CT Γ MD_M_isWord yX12_isWord [va_rf (some B), .int x1] (emb τ B R) (some (.int (b2i v)), (emb τ B R)) := by
  refine CT.of (L := [(0, va_rf (some B)), (1, .int x1)]) rfl (by decide) (fun h => Bool.noConfusion (show false = true from h)) (Nat.le_of_ble_eq_true rfl) rfl ?_
  unfold M_isWord at hf
  generalize hr : mkR Γ (emb τ B R) (some (.int (b2i v))) (emb τ B R) = r
  refine r_iload_n 1 dX12_isWord_0 rfl rfl ?_
  refine r_bd (fun (q1 : Bool) => V Γ MD_M_isWord (emb τ B R) r (emb τ B R) 9 [(0, va_rf (some B)), (1, .int x1)] [.int (b2i q1)]) hf (fun q1 hf => ?_) (fun yq1 hf kq1 => ?_)
  · refine r_istore_n (L' := [(2, _), (0, _), (1, _)]) dX12_isWord_9 rfl (show 2 < 4 by decide) rfl ?_
    refine r_iconst (0 : Int32) dX12_isWord_10 (by decide) ?_
    refine r_istore_n (L' := [(3, _), (2, _), (0, _), (1, _)]) dX12_isWord_11 rfl (show 3 < 4 by decide) rfl ?_
    refine bnd hf (fun t9 et9 hf => ?_)
    refine r_sub (L' := [(0, _), (1, _), (2, _), (3, _)]) [2, 3, 1, 0] rfl ?_
    refine x_M_isWord_l12 hB ?_ _ et9
    · intro z10 hz10
      subst hz10
      refine r_iload_n 0 dX12_isWord_45 rfl rfl ?_
      exact r_zret rfl dX12_isWord_46 (by have h1 := (Option.some.inj hf); subst h1; exact hr.symm)
  · refine r_if_le 8 hf dX12_isWord_1 (by decide) (fun c2 hf => ?_) (fun c2 hf => ?_)
    · refine r_iconst (b2i false) dX12_isWord_8 rfl ?_
      refine r_sub (L' := [(0, _), (1, _)]) [0, 1] rfl ?_
      cases (Option.some.inj hf)
      exact kq1
    · refine r_iconst (b2i true) dX12_isWord_4 rfl ?_
      refine r_goto 9 dX12_isWord_5 (by decide) ?_
      refine r_sub (L' := [(0, _), (1, _)]) [0, 1] rfl ?_
      cases (Option.some.inj hf)
      exact kq1
/-! SearchEngineModel.edits -/
noncomputable def M_edits_l2 (R : RS) (x1 : Int32) (x2 : Int32) : Option ((Int32 × RS) ⊕ RS) :=
  (rdI R 9 100000 x1).bind fun v1 =>
  if v1 < x2 then
    some (Sum.inr R)
  else
    (wrI R 45 14 x2 x2).bind fun R3 =>
    some (Sum.inl ((x2 + (1 : Int32)), R3))
noncomputable def M_edits_l44 (R : RS) (x1 : Int32) (x2 : Int32) (x3 : Int32) : Option ((Int32 × RS) ⊕ RS) :=
  (rdI R 9 100000 x1).bind fun v8 =>
  if v8 < x3 then
    some (Sum.inr R)
  else
    (rdI R 45 14 (x3 - (1 : Int32))).bind fun v10 =>
    (rdI R 27 12 (x2 - (1 : Int32))).bind fun v11 =>
    (rdI R 10 1200000 ((((12 : Int32) * x1) + x3) - (1 : Int32))).bind fun v12 =>
    Option.bind (
      if ¬ v11 = v12 then
        some (1 : Int32)
      else
        some (0 : Int32)) fun q13 =>
    (rdI R 45 14 x3).bind fun v15 =>
    (rdI R 44 14 (x3 - (1 : Int32))).bind fun v16 =>
    Option.bind (
      if v16 ≤ v15 then
        (rdI R 44 14 (x3 - (1 : Int32))).bind fun v19 =>
        some v19
      else
        (rdI R 45 14 x3).bind fun v20 =>
        some v20) fun q17 =>
    Option.bind (
      if ((1 : Int32) + q17) ≤ (v10 + q13) then
        some ((1 : Int32) + q17)
      else
        some (v10 + q13)) fun q21 =>
    (wrI R 44 14 x3 q21).bind fun R23 =>
    some (Sum.inl ((x3 + (1 : Int32)), R23))
noncomputable def M_edits_l160 (R : RS) (x1 : Int32) (x2 : Int32) (x3 : Int32) : Option ((Int32 × RS) ⊕ RS) :=
  (rdI R 9 100000 x1).bind fun v26 =>
  if v26 < x3 then
    some (Sum.inr R)
  else
    (rdI R 44 14 x3).bind fun v28 =>
    (wrI R 45 14 x3 v28).bind fun R29 =>
    some (Sum.inl ((x3 + (1 : Int32)), R29))
noncomputable def M_edits_l27 (R : RS) (x1 : Int32) (x2 : Int32) : Option ((Int32 × RS) ⊕ RS) :=
  if (R.1 0 38) < x2 then
    some (Sum.inr R)
  else
    (wrI R 44 14 (0 : Int32) x2).bind fun R7 =>
    (lp (fun q => M_edits_l44 q.2 x1 x2 q.1) ((1 : Int32), R7)).bind fun z25 =>
    (lp (fun q => M_edits_l160 q.2 x1 x2 q.1) ((0 : Int32), z25)).bind fun z31 =>
    some (Sum.inl ((x2 + (1 : Int32)), z31))
noncomputable def M_edits (R : RS) (x1 : Int32) : Option (Int32 × RS) :=
  (lp (fun q => M_edits_l2 q.2 x1 q.1) ((0 : Int32), R)).bind fun z5 =>
  (lp (fun q => M_edits_l27 q.2 x1 q.1) ((1 : Int32), z5)).bind fun z33 =>
  (rdI z33 9 100000 x1).bind fun v34 =>
  (rdI z33 45 14 v34).bind fun v35 =>
  some (v35, z33)
set_option maxRecDepth 100000 in
set_option maxHeartbeats 4000000 in
theorem x_M_edits_l2 {Γ : W0} {σ0 : Mem} {r : RT} {τ : Mem} {B : Nat} {x1 : Int32} {t : RS} (hB : RB τ B) (hk0 : ∀ z : RS, z = t → V Γ MD_M_edits σ0 r (emb τ B z) 25 [(0, va_rf (some B)), (1, .int x1)] []) : ∀ q : Int32 × RS, lp (fun q => M_edits_l2 q.2 x1 q.1) q = some t → V Γ MD_M_edits σ0 r (emb τ B q.2) 2 [(0, va_rf (some B)), (1, .int x1), (2, .int q.1)] [] := by
  refine lp_ind (fun (q : Int32 × RS) => V Γ MD_M_edits σ0 r (emb τ B q.2) 2 [(0, va_rf (some B)), (1, .int x1), (2, .int q.1)] []) (fun q x hf ih ho => ?_)
  obtain ⟨x2, R⟩ := q
  show V Γ MD_M_edits σ0 r (emb τ B R) 2 [(0, va_rf (some B)), (1, .int x1), (2, .int x2)] []
  replace hf : M_edits_l2 R x1 x2 = some x := hf
  unfold M_edits_l2 at hf
  refine r_iload_n 2 dX12_edits_2 rfl rfl ?_
  refine r_aload_n 0 dX12_edits_3 rfl rfl ?_
  refine rr_ldR (c := 9) hB dX12_edits_4 fl_RX12_37 rfl rfl (by decide) ?_
  refine r_iload_n 1 dX12_edits_7 rfl rfl ?_
  refine rr_raI hf hB dX12_edits_8 (by decide) rfl (fun v1 ev1 hf => ?_)
  refine r_icmp_gt 25 hf dX12_edits_9 (by decide) (fun c2 hf => ?_) (fun c2 hf => ?_)
  · refine r_sub (L' := [(0, _), (1, _)]) [0, 1] rfl ?_
    exact hk0 _ (ho _ (Option.some.inj hf).symm)
  · refine r_aload_n 0 dX12_edits_12 rfl rfl ?_
    refine rr_ldR (c := 45) hB dX12_edits_13 fl_RX12_154 rfl rfl (by decide) ?_
    refine r_iload_n 2 dX12_edits_16 rfl rfl ?_
    refine r_iload_n 2 dX12_edits_17 rfl rfl ?_
    refine rr_waI hf hB dX12_edits_18 (by decide) rfl (fun R3 eR3 hf => ?_)
    refine r_iinc (1 : Int32) (L' := [(2, _), (0, _), (1, _)]) 2 dX12_edits_19 rfl (by decide) (show 2 < 6 by decide) rfl ?_
    refine r_goto 2 dX12_edits_22 (by decide) ?_
    refine r_sub (L' := [(0, _), (1, _), (2, _)]) [1, 2, 0] rfl ?_
    exact ih _ (Option.some.inj hf).symm
set_option maxRecDepth 100000 in
set_option maxHeartbeats 4000000 in
theorem x_M_edits_l44 {Γ : W0} {σ0 : Mem} {r : RT} {τ : Mem} {B : Nat} {x1 : Int32} {x2 : Int32} {t : RS} (hB : RB τ B) (hk0 : ∀ z : RS, z = t → V Γ MD_M_edits σ0 r (emb τ B z) 158 [(0, va_rf (some B)), (1, .int x1), (2, .int x2)] []) : ∀ q : Int32 × RS, lp (fun q => M_edits_l44 q.2 x1 x2 q.1) q = some t → V Γ MD_M_edits σ0 r (emb τ B q.2) 44 [(0, va_rf (some B)), (1, .int x1), (2, .int x2), (3, .int q.1)] [] := by
  refine lp_ind (fun (q : Int32 × RS) => V Γ MD_M_edits σ0 r (emb τ B q.2) 44 [(0, va_rf (some B)), (1, .int x1), (2, .int x2), (3, .int q.1)] []) (fun q x hf ih ho => ?_)
  obtain ⟨x3, R⟩ := q
  show V Γ MD_M_edits σ0 r (emb τ B R) 44 [(0, va_rf (some B)), (1, .int x1), (2, .int x2), (3, .int x3)] []
  replace hf : M_edits_l44 R x1 x2 x3 = some x := hf
  unfold M_edits_l44 at hf
  refine r_iload_n 3 dX12_edits_44 rfl rfl ?_
  refine r_aload_n 0 dX12_edits_45 rfl rfl ?_
  refine rr_ldR (c := 9) hB dX12_edits_46 fl_RX12_37 rfl rfl (by decide) ?_
  refine r_iload_n 1 dX12_edits_49 rfl rfl ?_
  refine rr_raI hf hB dX12_edits_50 (by decide) rfl (fun v8 ev8 hf => ?_)
  refine r_icmp_gt 158 hf dX12_edits_51 (by decide) (fun c9 hf => ?_) (fun c9 hf => ?_)
  · refine r_sub (L' := [(0, _), (1, _), (2, _)]) [0, 1, 2] rfl ?_
    exact hk0 _ (ho _ (Option.some.inj hf).symm)
  · refine r_aload_n 0 dX12_edits_54 rfl rfl ?_
    refine rr_ldR (c := 45) hB dX12_edits_55 fl_RX12_154 rfl rfl (by decide) ?_
    refine r_iload_n 3 dX12_edits_58 rfl rfl ?_
    refine r_iconst (1 : Int32) dX12_edits_59 (by decide) ?_
    refine r_isub dX12_edits_60 ?_
    refine rr_raI hf hB dX12_edits_61 (by decide) rfl (fun v10 ev10 hf => ?_)
    refine r_aload_n 0 dX12_edits_62 rfl rfl ?_
    refine rr_ldR (c := 27) hB dX12_edits_63 fl_RX12_100 rfl rfl (by decide) ?_
    refine r_iload_n 2 dX12_edits_66 rfl rfl ?_
    refine r_iconst (1 : Int32) dX12_edits_67 (by decide) ?_
    refine r_isub dX12_edits_68 ?_
    refine rr_raI hf hB dX12_edits_69 (by decide) rfl (fun v11 ev11 hf => ?_)
    refine r_aload_n 0 dX12_edits_70 rfl rfl ?_
    refine rr_ldR (c := 10) hB dX12_edits_71 fl_RX12_41 rfl rfl (by decide) ?_
    refine r_bipush (12 : Int32) dX12_edits_74 (by decide) ?_
    refine r_iload_n 1 dX12_edits_76 rfl rfl ?_
    refine r_imul dX12_edits_77 ?_
    refine r_iload_n 3 dX12_edits_78 rfl rfl ?_
    refine r_iadd dX12_edits_79 ?_
    refine r_iconst (1 : Int32) dX12_edits_80 (by decide) ?_
    refine r_isub dX12_edits_81 ?_
    refine rr_raI hf hB dX12_edits_82 (by decide) rfl (fun v12 ev12 hf => ?_)
    refine r_bd (fun (q13 : Int32) => V Γ MD_M_edits σ0 r (emb τ B R) 91 [(0, va_rf (some B)), (1, .int x1), (2, .int x2), (3, .int x3)] [.int q13, .int v10]) hf (fun q13 hf => ?_) (fun yq13 hf kq13 => ?_)
    · refine r_iadd dX12_edits_91 ?_
      refine r_istore (L' := [(4, _), (0, _), (1, _), (2, _), (3, _)]) dX12_edits_92 (show 4 < 6 by decide) rfl ?_
      refine r_iconst (1 : Int32) dX12_edits_94 (by decide) ?_
      refine r_aload_n 1 dX12_edits_95 rfl rfl ?_
      refine rr_ldR (c := 45) hB dX12_edits_96 fl_RX12_154 rfl rfl (by decide) ?_
      refine r_iload_n 4 dX12_edits_99 rfl rfl ?_
      refine rr_raI hf hB dX12_edits_100 (by decide) rfl (fun v15 ev15 hf => ?_)
      refine r_aload_n 1 dX12_edits_101 rfl rfl ?_
      refine rr_ldR (c := 44) hB dX12_edits_102 fl_RX12_151 rfl rfl (by decide) ?_
      refine r_iload_n 4 dX12_edits_105 rfl rfl ?_
      refine r_iconst (1 : Int32) dX12_edits_106 (by decide) ?_
      refine r_isub dX12_edits_107 ?_
      refine rr_raI hf hB dX12_edits_108 (by decide) rfl (fun v16 ev16 hf => ?_)
      refine r_bd (fun (q17 : Int32) => V Γ MD_M_edits σ0 r (emb τ B R) 129 [(0, va_rf (some B)), (1, .int x1), (2, .int x2), (3, .int x3), (4, .int (v10 + q13))] [.int q17, .int (1 : Int32)]) hf (fun q17 hf => ?_) (fun yq17 hf kq17 => ?_)
      · refine r_iadd dX12_edits_129 ?_
        refine r_istore (L' := [(5, _), (0, _), (1, _), (2, _), (3, _), (4, _)]) dX12_edits_130 (show 5 < 6 by decide) rfl ?_
        refine r_aload_n 1 dX12_edits_132 rfl rfl ?_
        refine rr_ldR (c := 44) hB dX12_edits_133 fl_RX12_151 rfl rfl (by decide) ?_
        refine r_iload_n 4 dX12_edits_136 rfl rfl ?_
        refine r_iload 5 dX12_edits_137 rfl ?_
        refine r_iload 0 dX12_edits_139 rfl ?_
        refine r_bd (fun (q21 : Int32) => V Γ MD_M_edits σ0 r (emb τ B R) 151 [(0, va_rf (some B)), (1, .int x1), (2, .int x2), (3, .int x3)] [.int q21, .int x3, va_rf (some (B + 44))]) hf (fun q21 hf => ?_) (fun yq21 hf kq21 => ?_)
        · refine rr_waI hf hB dX12_edits_151 (by decide) rfl (fun R23 eR23 hf => ?_)
          refine r_iinc (1 : Int32) (L' := [(3, _), (0, _), (1, _), (2, _)]) 3 dX12_edits_152 rfl (by decide) (show 3 < 6 by decide) rfl ?_
          refine r_goto 44 dX12_edits_155 (by decide) ?_
          refine r_sub (L' := [(0, _), (1, _), (2, _), (3, _)]) [1, 2, 3, 0] rfl ?_
          exact ih _ (Option.some.inj hf).symm
        · refine r_icmp_ge 149 hf dX12_edits_141 (by decide) (fun c22 hf => ?_) (fun c22 hf => ?_)
          · refine r_iload 0 dX12_edits_149 rfl ?_
            refine r_sub (L' := [(0, _), (1, _), (2, _), (3, _)]) [1, 2, 3, 4] rfl ?_
            cases (Option.some.inj hf)
            exact kq21
          · refine r_iload 5 dX12_edits_144 rfl ?_
            refine r_goto 151 dX12_edits_146 (by decide) ?_
            refine r_sub (L' := [(0, _), (1, _), (2, _), (3, _)]) [1, 2, 3, 4] rfl ?_
            cases (Option.some.inj hf)
            exact kq21
      · refine r_icmp_ge 121 hf dX12_edits_109 (by decide) (fun c18 hf => ?_) (fun c18 hf => ?_)
        · refine r_aload_n 1 dX12_edits_121 rfl rfl ?_
          refine rr_ldR (c := 44) hB dX12_edits_122 fl_RX12_151 rfl rfl (by decide) ?_
          refine r_iload_n 4 dX12_edits_125 rfl rfl ?_
          refine r_iconst (1 : Int32) dX12_edits_126 (by decide) ?_
          refine r_isub dX12_edits_127 ?_
          refine rr_raI hf hB dX12_edits_128 (by decide) rfl (fun v19 ev19 hf => ?_)
          refine r_sub (L' := [(0, _), (1, _), (2, _), (3, _), (4, _)]) [1, 2, 3, 4, 0] rfl ?_
          cases (Option.some.inj hf)
          exact kq17
        · refine r_aload_n 1 dX12_edits_112 rfl rfl ?_
          refine rr_ldR (c := 45) hB dX12_edits_113 fl_RX12_154 rfl rfl (by decide) ?_
          refine r_iload_n 4 dX12_edits_116 rfl rfl ?_
          refine rr_raI hf hB dX12_edits_117 (by decide) rfl (fun v20 ev20 hf => ?_)
          refine r_goto 129 dX12_edits_118 (by decide) ?_
          refine r_sub (L' := [(0, _), (1, _), (2, _), (3, _), (4, _)]) [1, 2, 3, 4, 0] rfl ?_
          cases (Option.some.inj hf)
          exact kq17
    · refine r_icmp_ne 90 hf dX12_edits_83 (by decide) (fun c14 hf => ?_) (fun c14 hf => ?_)
      · refine r_iconst (1 : Int32) dX12_edits_90 (by decide) ?_
        refine r_sub (L' := [(0, _), (1, _), (2, _), (3, _)]) [0, 1, 2, 3] rfl ?_
        cases (Option.some.inj hf)
        exact kq13
      · refine r_iconst (0 : Int32) dX12_edits_86 (by decide) ?_
        refine r_goto 91 dX12_edits_87 (by decide) ?_
        refine r_sub (L' := [(0, _), (1, _), (2, _), (3, _)]) [0, 1, 2, 3] rfl ?_
        cases (Option.some.inj hf)
        exact kq13
set_option maxRecDepth 100000 in
set_option maxHeartbeats 4000000 in
theorem x_M_edits_l160 {Γ : W0} {σ0 : Mem} {r : RT} {τ : Mem} {B : Nat} {x1 : Int32} {x2 : Int32} {t : RS} (hB : RB τ B) (hk0 : ∀ z : RS, z = t → V Γ MD_M_edits σ0 r (emb τ B z) 188 [(0, va_rf (some B)), (1, .int x1), (2, .int x2)] []) : ∀ q : Int32 × RS, lp (fun q => M_edits_l160 q.2 x1 x2 q.1) q = some t → V Γ MD_M_edits σ0 r (emb τ B q.2) 160 [(0, va_rf (some B)), (1, .int x1), (2, .int x2), (3, .int q.1)] [] := by
  refine lp_ind (fun (q : Int32 × RS) => V Γ MD_M_edits σ0 r (emb τ B q.2) 160 [(0, va_rf (some B)), (1, .int x1), (2, .int x2), (3, .int q.1)] []) (fun q x hf ih ho => ?_)
  obtain ⟨x3, R⟩ := q
  show V Γ MD_M_edits σ0 r (emb τ B R) 160 [(0, va_rf (some B)), (1, .int x1), (2, .int x2), (3, .int x3)] []
  replace hf : M_edits_l160 R x1 x2 x3 = some x := hf
  unfold M_edits_l160 at hf
  refine r_iload_n 3 dX12_edits_160 rfl rfl ?_
  refine r_aload_n 0 dX12_edits_161 rfl rfl ?_
  refine rr_ldR (c := 9) hB dX12_edits_162 fl_RX12_37 rfl rfl (by decide) ?_
  refine r_iload_n 1 dX12_edits_165 rfl rfl ?_
  refine rr_raI hf hB dX12_edits_166 (by decide) rfl (fun v26 ev26 hf => ?_)
  refine r_icmp_gt 188 hf dX12_edits_167 (by decide) (fun c27 hf => ?_) (fun c27 hf => ?_)
  · refine r_sub (L' := [(0, _), (1, _), (2, _)]) [0, 1, 2] rfl ?_
    exact hk0 _ (ho _ (Option.some.inj hf).symm)
  · refine r_aload_n 0 dX12_edits_170 rfl rfl ?_
    refine rr_ldR (c := 45) hB dX12_edits_171 fl_RX12_154 rfl rfl (by decide) ?_
    refine r_iload_n 3 dX12_edits_174 rfl rfl ?_
    refine r_aload_n 0 dX12_edits_175 rfl rfl ?_
    refine rr_ldR (c := 44) hB dX12_edits_176 fl_RX12_151 rfl rfl (by decide) ?_
    refine r_iload_n 3 dX12_edits_179 rfl rfl ?_
    refine rr_raI hf hB dX12_edits_180 (by decide) rfl (fun v28 ev28 hf => ?_)
    refine rr_waI hf hB dX12_edits_181 (by decide) rfl (fun R29 eR29 hf => ?_)
    refine r_iinc (1 : Int32) (L' := [(3, _), (0, _), (1, _), (2, _)]) 3 dX12_edits_182 rfl (by decide) (show 3 < 6 by decide) rfl ?_
    refine r_goto 160 dX12_edits_185 (by decide) ?_
    refine r_sub (L' := [(0, _), (1, _), (2, _), (3, _)]) [1, 2, 3, 0] rfl ?_
    exact ih _ (Option.some.inj hf).symm
set_option maxRecDepth 100000 in
set_option maxHeartbeats 4000000 in
theorem x_M_edits_l27 {Γ : W0} {σ0 : Mem} {r : RT} {τ : Mem} {B : Nat} {x1 : Int32} {t : RS} (hB : RB τ B) (hk0 : ∀ z : RS, z = t → V Γ MD_M_edits σ0 r (emb τ B z) 194 [(0, va_rf (some B)), (1, .int x1)] []) : ∀ q : Int32 × RS, lp (fun q => M_edits_l27 q.2 x1 q.1) q = some t → V Γ MD_M_edits σ0 r (emb τ B q.2) 27 [(0, va_rf (some B)), (1, .int x1), (2, .int q.1)] [] := by
  refine lp_ind (fun (q : Int32 × RS) => V Γ MD_M_edits σ0 r (emb τ B q.2) 27 [(0, va_rf (some B)), (1, .int x1), (2, .int q.1)] []) (fun q x hf ih ho => ?_)
  obtain ⟨x2, R⟩ := q
  show V Γ MD_M_edits σ0 r (emb τ B R) 27 [(0, va_rf (some B)), (1, .int x1), (2, .int x2)] []
  replace hf : M_edits_l27 R x1 x2 = some x := hf
  unfold M_edits_l27 at hf
  refine r_iload_n 2 dX12_edits_27 rfl rfl ?_
  refine r_aload_n 0 dX12_edits_28 rfl rfl ?_
  refine rr_ldI (k := 38) hB dX12_edits_29 fl_RX12_171 rfl ?_
  refine r_icmp_gt 194 hf dX12_edits_32 (by decide) (fun c6 hf => ?_) (fun c6 hf => ?_)
  · refine r_sub (L' := [(0, _), (1, _)]) [0, 1] rfl ?_
    exact hk0 _ (ho _ (Option.some.inj hf).symm)
  · refine r_aload_n 0 dX12_edits_35 rfl rfl ?_
    refine rr_ldR (c := 44) hB dX12_edits_36 fl_RX12_151 rfl rfl (by decide) ?_
    refine r_iconst (0 : Int32) dX12_edits_39 (by decide) ?_
    refine r_iload_n 2 dX12_edits_40 rfl rfl ?_
    refine rr_waI hf hB dX12_edits_41 (by decide) rfl (fun R7 eR7 hf => ?_)
    refine r_iconst (1 : Int32) dX12_edits_42 (by decide) ?_
    refine r_istore_n (L' := [(3, _), (0, _), (1, _), (2, _)]) dX12_edits_43 rfl (show 3 < 6 by decide) rfl ?_
    refine bnd hf (fun t24 et24 hf => ?_)
    refine r_sub (L' := [(0, _), (1, _), (2, _), (3, _)]) [1, 2, 3, 0] rfl ?_
    refine x_M_edits_l44 hB ?_ _ et24
    · intro z25 hz25
      subst hz25
      refine r_iconst (0 : Int32) dX12_edits_158 (by decide) ?_
      refine r_istore_n (L' := [(3, _), (0, _), (1, _), (2, _)]) dX12_edits_159 rfl (show 3 < 6 by decide) rfl ?_
      refine bnd hf (fun t30 et30 hf => ?_)
      refine r_sub (L' := [(0, _), (1, _), (2, _), (3, _)]) [1, 2, 3, 0] rfl ?_
      refine x_M_edits_l160 hB ?_ _ et30
      · intro z31 hz31
        subst hz31
        refine r_iinc (1 : Int32) (L' := [(2, _), (0, _), (1, _)]) 2 dX12_edits_188 rfl (by decide) (show 2 < 6 by decide) rfl ?_
        refine r_goto 27 dX12_edits_191 (by decide) ?_
        refine r_sub (L' := [(0, _), (1, _), (2, _)]) [1, 2, 0] rfl ?_
        exact ih _ (Option.some.inj hf).symm
set_option maxRecDepth 100000 in
set_option maxHeartbeats 4000000 in
theorem t_M_edits {Γ : W0} {τ : Mem} {B : Nat} {R : RS} {x1 : Int32} {v : Int32} {R' : RS} (hB : RB τ B) (hf : M_edits R x1 = some (v, R')) : CT Γ MD_M_edits yX12_edits [va_rf (some B), .int x1] (emb τ B R) (some (.int v), (emb τ B R')) := by
  refine CT.of (L := [(0, va_rf (some B)), (1, .int x1)]) rfl (by decide) (fun h => Bool.noConfusion (show false = true from h)) (Nat.le_of_ble_eq_true rfl) rfl ?_
  unfold M_edits at hf
  generalize hr : mkR Γ (emb τ B R) (some (.int v)) (emb τ B R') = r
  refine r_iconst (0 : Int32) dX12_edits_0 (by decide) ?_
  refine r_istore_n (L' := [(2, _), (0, _), (1, _)]) dX12_edits_1 rfl (show 2 < 6 by decide) rfl ?_
  refine bnd hf (fun t4 et4 hf => ?_)
  refine r_sub (L' := [(0, _), (1, _), (2, _)]) [1, 2, 0] rfl ?_
  refine x_M_edits_l2 hB ?_ _ et4
  · intro z5 hz5
    subst hz5
    refine r_iconst (1 : Int32) dX12_edits_25 (by decide) ?_
    refine r_istore_n (L' := [(2, _), (0, _), (1, _)]) dX12_edits_26 rfl (show 2 < 6 by decide) rfl ?_
    refine bnd hf (fun t32 et32 hf => ?_)
    refine r_sub (L' := [(0, _), (1, _), (2, _)]) [1, 2, 0] rfl ?_
    refine x_M_edits_l27 hB ?_ _ et32
    · intro z33 hz33
      subst hz33
      refine r_aload_n 0 dX12_edits_194 rfl rfl ?_
      refine rr_ldR (c := 45) hB dX12_edits_195 fl_RX12_154 rfl rfl (by decide) ?_
      refine r_aload_n 0 dX12_edits_198 rfl rfl ?_
      refine rr_ldR (c := 9) hB dX12_edits_199 fl_RX12_37 rfl rfl (by decide) ?_
      refine r_iload_n 1 dX12_edits_202 rfl rfl ?_
      refine rr_raI hf hB dX12_edits_203 (by decide) rfl (fun v34 ev34 hf => ?_)
      refine rr_raI hf hB dX12_edits_204 (by decide) rfl (fun v35 ev35 hf => ?_)
      exact r_iret rfl dX12_edits_205 (by obtain ⟨h1, h2⟩ := Prod.mk.inj (Option.some.inj hf); subst h1; subst h2; exact hr.symm)
/-! SearchEngineModel.areAlike -/
noncomputable def M_areAlike_l24 (R : RS) (x1 : Int32) (x2 : Int32) (x3 : Bool) (x4 : Int32) : Option ((Bool × Int32) ⊕ Bool) :=
  (rdI R 9 100000 x1).bind fun v5 =>
  if v5 ≤ x4 then
    some (Sum.inr x3)
  else
    if x3 = true then
      (rdI R 10 1200000 (((12 : Int32) * x1) + x4)).bind fun v8 =>
      (rdI R 10 1200000 (((12 : Int32) * x2) + x4)).bind fun v9 =>
      Option.bind (
        if ¬ v8 = v9 then
          some false
        else
          some true) fun q10 =>
      some (Sum.inl (q10, (x4 + (1 : Int32))))
    else
      some (Sum.inr x3)
noncomputable def M_areAlike (R : RS) (x1 : Int32) (x2 : Int32) : Option Bool :=
  (rdI R 9 100000 x1).bind fun v1 =>
  (rdI R 9 100000 x2).bind fun v2 =>
  Option.bind (
    if ¬ v1 = v2 then
      some false
    else
      some true) fun q3 =>
  (lp (fun q => M_areAlike_l24 R x1 x2 q.1 q.2) (q3, (0 : Int32))).bind fun z13 =>
  some z13
set_option maxRecDepth 100000 in
set_option maxHeartbeats 4000000 in
theorem x_M_areAlike_l24 {Γ : W0} {σ0 : Mem} {r : RT} {τ : Mem} {B : Nat} {R : RS} {x1 : Int32} {x2 : Int32} {t : Bool} (hB : RB τ B) (hk0 : ∀ z : Bool, z = t → V Γ MD_M_areAlike σ0 r (emb τ B R) 78 [(3, .int (b2i z))] []) : ∀ q : Bool × Int32, lp (fun q => M_areAlike_l24 R x1 x2 q.1 q.2) q = some t → V Γ MD_M_areAlike σ0 r (emb τ B R) 24 [(0, va_rf (some B)), (1, .int x1), (2, .int x2), (3, .int (b2i q.1)), (4, .int q.2)] [] := by
  refine lp_ind (fun (q : Bool × Int32) => V Γ MD_M_areAlike σ0 r (emb τ B R) 24 [(0, va_rf (some B)), (1, .int x1), (2, .int x2), (3, .int (b2i q.1)), (4, .int q.2)] []) (fun q x hf ih ho => ?_)
  obtain ⟨x3, x4⟩ := q
  show V Γ MD_M_areAlike σ0 r (emb τ B R) 24 [(0, va_rf (some B)), (1, .int x1), (2, .int x2), (3, .int (b2i x3)), (4, .int x4)] []
  replace hf : M_areAlike_l24 R x1 x2 x3 x4 = some x := hf
  unfold M_areAlike_l24 at hf
  refine r_iload 4 dX12_areAlike_24 rfl ?_
  refine r_aload_n 0 dX12_areAlike_26 rfl rfl ?_
  refine rr_ldR (c := 9) hB dX12_areAlike_27 fl_RX12_37 rfl rfl (by decide) ?_
  refine r_iload_n 1 dX12_areAlike_30 rfl rfl ?_
  refine rr_raI hf hB dX12_areAlike_31 (by decide) rfl (fun v5 ev5 hf => ?_)
  refine r_icmp_ge 78 hf dX12_areAlike_32 (by decide) (fun c6 hf => ?_) (fun c6 hf => ?_)
  · refine r_sub (L' := [(3, _)]) [3] rfl ?_
    exact hk0 _ (ho _ (Option.some.inj hf).symm)
  · refine r_iload_n 3 dX12_areAlike_35 rfl rfl ?_
    refine r_ifeqZ 78 hf dX12_areAlike_36 (by decide) (fun c7 hf => ?_) (fun c7 hf => ?_)
    · refine r_aload_n 0 dX12_areAlike_39 rfl rfl ?_
      refine rr_ldR (c := 10) hB dX12_areAlike_40 fl_RX12_41 rfl rfl (by decide) ?_
      refine r_bipush (12 : Int32) dX12_areAlike_43 (by decide) ?_
      refine r_iload_n 1 dX12_areAlike_45 rfl rfl ?_
      refine r_imul dX12_areAlike_46 ?_
      refine r_iload 4 dX12_areAlike_47 rfl ?_
      refine r_iadd dX12_areAlike_49 ?_
      refine rr_raI hf hB dX12_areAlike_50 (by decide) rfl (fun v8 ev8 hf => ?_)
      refine r_aload_n 0 dX12_areAlike_51 rfl rfl ?_
      refine rr_ldR (c := 10) hB dX12_areAlike_52 fl_RX12_41 rfl rfl (by decide) ?_
      refine r_bipush (12 : Int32) dX12_areAlike_55 (by decide) ?_
      refine r_iload_n 2 dX12_areAlike_57 rfl rfl ?_
      refine r_imul dX12_areAlike_58 ?_
      refine r_iload 4 dX12_areAlike_59 rfl ?_
      refine r_iadd dX12_areAlike_61 ?_
      refine rr_raI hf hB dX12_areAlike_62 (by decide) rfl (fun v9 ev9 hf => ?_)
      refine r_bd (fun (q10 : Bool) => V Γ MD_M_areAlike σ0 r (emb τ B R) 71 [(0, va_rf (some B)), (1, .int x1), (2, .int x2), (4, .int x4)] [.int (b2i q10)]) hf (fun q10 hf => ?_) (fun yq10 hf kq10 => ?_)
      · refine r_istore_n (L' := [(3, _), (0, _), (1, _), (2, _), (4, _)]) dX12_areAlike_71 rfl (show 3 < 5 by decide) rfl ?_
        refine r_iinc (1 : Int32) (L' := [(4, _), (3, _), (0, _), (1, _), (2, _)]) 4 dX12_areAlike_72 rfl (by decide) (show 4 < 5 by decide) rfl ?_
        refine r_goto 24 dX12_areAlike_75 (by decide) ?_
        refine r_sub (L' := [(0, _), (1, _), (2, _), (3, _), (4, _)]) [2, 3, 4, 1, 0] rfl ?_
        exact ih _ (Option.some.inj hf).symm
      · refine r_icmp_ne 70 hf dX12_areAlike_63 (by decide) (fun c11 hf => ?_) (fun c11 hf => ?_)
        · refine r_iconst (b2i false) dX12_areAlike_70 rfl ?_
          refine r_sub (L' := [(0, _), (1, _), (2, _), (4, _)]) [0, 1, 2, 4] rfl ?_
          cases (Option.some.inj hf)
          exact kq10
        · refine r_iconst (b2i true) dX12_areAlike_66 rfl ?_
          refine r_goto 71 dX12_areAlike_67 (by decide) ?_
          refine r_sub (L' := [(0, _), (1, _), (2, _), (4, _)]) [0, 1, 2, 4] rfl ?_
          cases (Option.some.inj hf)
          exact kq10
    · refine r_sub (L' := [(3, _)]) [3] rfl ?_
      exact hk0 _ (ho _ (Option.some.inj hf).symm)
set_option maxRecDepth 100000 in
set_option maxHeartbeats 4000000 in
theorem t_M_areAlike {Γ : W0} {τ : Mem} {B : Nat} {R : RS} {x1 : Int32} {x2 : Int32} {v : Bool} (hB : RB τ B) (hf : M_areAlike R x1 x2 = some v) : CT Γ MD_M_areAlike yX12_areAlike [va_rf (some B), .int x1, .int x2] (emb τ B R) (some (.int (b2i v)), (emb τ B R)) := by
  refine CT.of (L := [(0, va_rf (some B)), (1, .int x1), (2, .int x2)]) rfl (by decide) (fun h => Bool.noConfusion (show false = true from h)) (Nat.le_of_ble_eq_true rfl) rfl ?_
  unfold M_areAlike at hf
  generalize hr : mkR Γ (emb τ B R) (some (.int (b2i v))) (emb τ B R) = r
  refine r_aload_n 0 dX12_areAlike_0 rfl rfl ?_
  refine rr_ldR (c := 9) hB dX12_areAlike_1 fl_RX12_37 rfl rfl (by decide) ?_
  refine r_iload_n 1 dX12_areAlike_4 rfl rfl ?_
  refine rr_raI hf hB dX12_areAlike_5 (by decide) rfl (fun v1 ev1 hf => ?_)
  refine r_aload_n 0 dX12_areAlike_6 rfl rfl ?_
  refine rr_ldR (c := 9) hB dX12_areAlike_7 fl_RX12_37 rfl rfl (by decide) ?_
  refine r_iload_n 2 dX12_areAlike_10 rfl rfl ?_
  refine rr_raI hf hB dX12_areAlike_11 (by decide) rfl (fun v2 ev2 hf => ?_)
  refine r_bd (fun (q3 : Bool) => V Γ MD_M_areAlike (emb τ B R) r (emb τ B R) 20 [(0, va_rf (some B)), (1, .int x1), (2, .int x2)] [.int (b2i q3)]) hf (fun q3 hf => ?_) (fun yq3 hf kq3 => ?_)
  · refine r_istore_n (L' := [(3, _), (0, _), (1, _), (2, _)]) dX12_areAlike_20 rfl (show 3 < 5 by decide) rfl ?_
    refine r_iconst (0 : Int32) dX12_areAlike_21 (by decide) ?_
    refine r_istore (L' := [(4, _), (3, _), (0, _), (1, _), (2, _)]) dX12_areAlike_22 (show 4 < 5 by decide) rfl ?_
    refine bnd hf (fun t12 et12 hf => ?_)
    refine r_sub (L' := [(0, _), (1, _), (2, _), (3, _), (4, _)]) [2, 3, 4, 1, 0] rfl ?_
    refine x_M_areAlike_l24 hB ?_ _ et12
    · intro z13 hz13
      subst hz13
      refine r_iload_n 0 dX12_areAlike_78 rfl rfl ?_
      exact r_zret rfl dX12_areAlike_79 (by have h1 := (Option.some.inj hf); subst h1; exact hr.symm)
  · refine r_icmp_ne 19 hf dX12_areAlike_12 (by decide) (fun c4 hf => ?_) (fun c4 hf => ?_)
    · refine r_iconst (b2i false) dX12_areAlike_19 rfl ?_
      refine r_sub (L' := [(0, _), (1, _), (2, _)]) [0, 1, 2] rfl ?_
      cases (Option.some.inj hf)
      exact kq3
    · refine r_iconst (b2i true) dX12_areAlike_15 rfl ?_
      refine r_goto 20 dX12_areAlike_16 (by decide) ?_
      refine r_sub (L' := [(0, _), (1, _), (2, _)]) [0, 1, 2] rfl ?_
      cases (Option.some.inj hf)
      exact kq3
/-! SearchEngineModel.isLess -/
noncomputable def M_isLess_l2 (R : RS) (x1 : Int32) (x2 : Int32) (x3 : Int32) : Option (Int32 ⊕ Int32) :=
  (rdI R 9 100000 x1).bind fun v1 =>
  if v1 ≤ x3 then
    some (Sum.inr x3)
  else
    (rdI R 9 100000 x2).bind fun v3 =>
    if v3 ≤ x3 then
      some (Sum.inr x3)
    else
      (rdI R 10 1200000 (((12 : Int32) * x1) + x3)).bind fun v5 =>
      (rdI R 10 1200000 (((12 : Int32) * x2) + x3)).bind fun v6 =>
      if ¬ v5 = v6 then
        some (Sum.inr x3)
      else
        some (Sum.inl (x3 + (1 : Int32)))
noncomputable def M_isLess (R : RS) (x1 : Int32) (x2 : Int32) : Option Bool :=
  (lp (fun q => M_isLess_l2 R x1 x2 q) (0 : Int32)).bind fun z9 =>
  (rdI R 9 100000 x2).bind fun v10 =>
  if v10 ≤ z9 then
    some false
  else
    (rdI R 9 100000 x1).bind fun v12 =>
    if z9 = v12 then
      some true
    else
      (rdI R 10 1200000 (((12 : Int32) * x1) + z9)).bind fun v14 =>
      (rdI R 10 1200000 (((12 : Int32) * x2) + z9)).bind fun v15 =>
      if v15 ≤ v14 then
        some false
      else
        some true
set_option maxRecDepth 100000 in
set_option maxHeartbeats 4000000 in
theorem x_M_isLess_l2 {Γ : W0} {σ0 : Mem} {r : RT} {τ : Mem} {B : Nat} {R : RS} {x1 : Int32} {x2 : Int32} {t : Int32} (hB : RB τ B) (hk0 : ∀ z : Int32, z = t → V Γ MD_M_isLess σ0 r (emb τ B R) 53 [(0, va_rf (some B)), (1, .int x1), (2, .int x2), (3, .int z)] []) : ∀ q : Int32, lp (fun q => M_isLess_l2 R x1 x2 q) q = some t → V Γ MD_M_isLess σ0 r (emb τ B R) 2 [(0, va_rf (some B)), (1, .int x1), (2, .int x2), (3, .int q)] [] := by
  refine lp_ind (fun (q : Int32) => V Γ MD_M_isLess σ0 r (emb τ B R) 2 [(0, va_rf (some B)), (1, .int x1), (2, .int x2), (3, .int q)] []) (fun q x hf ih ho => ?_)
  revert hf ih
  generalize q = x3
  intro hf ih
  show V Γ MD_M_isLess σ0 r (emb τ B R) 2 [(0, va_rf (some B)), (1, .int x1), (2, .int x2), (3, .int x3)] []
  replace hf : M_isLess_l2 R x1 x2 x3 = some x := hf
  unfold M_isLess_l2 at hf
  refine r_iload_n 3 dX12_isLess_2 rfl rfl ?_
  refine r_aload_n 0 dX12_isLess_3 rfl rfl ?_
  refine rr_ldR (c := 9) hB dX12_isLess_4 fl_RX12_37 rfl rfl (by decide) ?_
  refine r_iload_n 1 dX12_isLess_7 rfl rfl ?_
  refine rr_raI hf hB dX12_isLess_8 (by decide) rfl (fun v1 ev1 hf => ?_)
  refine r_icmp_ge 53 hf dX12_isLess_9 (by decide) (fun c2 hf => ?_) (fun c2 hf => ?_)
  · refine r_sub (L' := [(0, _), (1, _), (2, _), (3, _)]) [0, 1, 2, 3] rfl ?_
    exact hk0 _ (ho _ (Option.some.inj hf).symm)
  · refine r_iload_n 3 dX12_isLess_12 rfl rfl ?_
    refine r_aload_n 0 dX12_isLess_13 rfl rfl ?_
    refine rr_ldR (c := 9) hB dX12_isLess_14 fl_RX12_37 rfl rfl (by decide) ?_
    refine r_iload_n 2 dX12_isLess_17 rfl rfl ?_
    refine rr_raI hf hB dX12_isLess_18 (by decide) rfl (fun v3 ev3 hf => ?_)
    refine r_icmp_ge 53 hf dX12_isLess_19 (by decide) (fun c4 hf => ?_) (fun c4 hf => ?_)
    · refine r_sub (L' := [(0, _), (1, _), (2, _), (3, _)]) [0, 1, 2, 3] rfl ?_
      exact hk0 _ (ho _ (Option.some.inj hf).symm)
    · refine r_aload_n 0 dX12_isLess_22 rfl rfl ?_
      refine rr_ldR (c := 10) hB dX12_isLess_23 fl_RX12_41 rfl rfl (by decide) ?_
      refine r_bipush (12 : Int32) dX12_isLess_26 (by decide) ?_
      refine r_iload_n 1 dX12_isLess_28 rfl rfl ?_
      refine r_imul dX12_isLess_29 ?_
      refine r_iload_n 3 dX12_isLess_30 rfl rfl ?_
      refine r_iadd dX12_isLess_31 ?_
      refine rr_raI hf hB dX12_isLess_32 (by decide) rfl (fun v5 ev5 hf => ?_)
      refine r_aload_n 0 dX12_isLess_33 rfl rfl ?_
      refine rr_ldR (c := 10) hB dX12_isLess_34 fl_RX12_41 rfl rfl (by decide) ?_
      refine r_bipush (12 : Int32) dX12_isLess_37 (by decide) ?_
      refine r_iload_n 2 dX12_isLess_39 rfl rfl ?_
      refine r_imul dX12_isLess_40 ?_
      refine r_iload_n 3 dX12_isLess_41 rfl rfl ?_
      refine r_iadd dX12_isLess_42 ?_
      refine rr_raI hf hB dX12_isLess_43 (by decide) rfl (fun v6 ev6 hf => ?_)
      refine r_icmp_ne 53 hf dX12_isLess_44 (by decide) (fun c7 hf => ?_) (fun c7 hf => ?_)
      · refine r_sub (L' := [(0, _), (1, _), (2, _), (3, _)]) [0, 1, 2, 3] rfl ?_
        exact hk0 _ (ho _ (Option.some.inj hf).symm)
      · refine r_iinc (1 : Int32) (L' := [(3, _), (0, _), (1, _), (2, _)]) 3 dX12_isLess_47 rfl (by decide) (show 3 < 4 by decide) rfl ?_
        refine r_goto 2 dX12_isLess_50 (by decide) ?_
        refine r_sub (L' := [(0, _), (1, _), (2, _), (3, _)]) [1, 2, 3, 0] rfl ?_
        exact ih _ (Option.some.inj hf).symm
set_option maxRecDepth 100000 in
set_option maxHeartbeats 4000000 in
theorem t_M_isLess {Γ : W0} {τ : Mem} {B : Nat} {R : RS} {x1 : Int32} {x2 : Int32} {v : Bool} (hB : RB τ B) (hf : M_isLess R x1 x2 = some v) : CT Γ MD_M_isLess yX12_isLess [va_rf (some B), .int x1, .int x2] (emb τ B R) (some (.int (b2i v)), (emb τ B R)) := by
  refine CT.of (L := [(0, va_rf (some B)), (1, .int x1), (2, .int x2)]) rfl (by decide) (fun h => Bool.noConfusion (show false = true from h)) (Nat.le_of_ble_eq_true rfl) rfl ?_
  unfold M_isLess at hf
  generalize hr : mkR Γ (emb τ B R) (some (.int (b2i v))) (emb τ B R) = r
  refine r_iconst (0 : Int32) dX12_isLess_0 (by decide) ?_
  refine r_istore_n (L' := [(3, _), (0, _), (1, _), (2, _)]) dX12_isLess_1 rfl (show 3 < 4 by decide) rfl ?_
  refine bnd hf (fun t8 et8 hf => ?_)
  refine r_sub (L' := [(0, _), (1, _), (2, _), (3, _)]) [1, 2, 3, 0] rfl ?_
  refine x_M_isLess_l2 hB ?_ _ et8
  · intro z9 hz9
    subst hz9
    refine r_iload_n 3 dX12_isLess_53 rfl rfl ?_
    refine r_aload_n 0 dX12_isLess_54 rfl rfl ?_
    refine rr_ldR (c := 9) hB dX12_isLess_55 fl_RX12_37 rfl rfl (by decide) ?_
    refine r_iload_n 2 dX12_isLess_58 rfl rfl ?_
    refine rr_raI hf hB dX12_isLess_59 (by decide) rfl (fun v10 ev10 hf => ?_)
    refine r_icmp_ge 102 hf dX12_isLess_60 (by decide) (fun c11 hf => ?_) (fun c11 hf => ?_)
    · refine r_iconst (b2i false) dX12_isLess_102 rfl ?_
      exact r_zret rfl dX12_isLess_103 (by have h1 := (Option.some.inj hf); subst h1; exact hr.symm)
    · refine r_iload_n 3 dX12_isLess_63 rfl rfl ?_
      refine r_aload_n 0 dX12_isLess_64 rfl rfl ?_
      refine rr_ldR (c := 9) hB dX12_isLess_65 fl_RX12_37 rfl rfl (by decide) ?_
      refine r_iload_n 1 dX12_isLess_68 rfl rfl ?_
      refine rr_raI hf hB dX12_isLess_69 (by decide) rfl (fun v12 ev12 hf => ?_)
      refine r_icmp_eq 98 hf dX12_isLess_70 (by decide) (fun c13 hf => ?_) (fun c13 hf => ?_)
      · refine r_iconst (b2i true) dX12_isLess_98 rfl ?_
        refine r_goto 103 dX12_isLess_99 (by decide) ?_
        exact r_zret rfl dX12_isLess_103 (by have h1 := (Option.some.inj hf); subst h1; exact hr.symm)
      · refine r_aload_n 0 dX12_isLess_73 rfl rfl ?_
        refine rr_ldR (c := 10) hB dX12_isLess_74 fl_RX12_41 rfl rfl (by decide) ?_
        refine r_bipush (12 : Int32) dX12_isLess_77 (by decide) ?_
        refine r_iload_n 1 dX12_isLess_79 rfl rfl ?_
        refine r_imul dX12_isLess_80 ?_
        refine r_iload_n 3 dX12_isLess_81 rfl rfl ?_
        refine r_iadd dX12_isLess_82 ?_
        refine rr_raI hf hB dX12_isLess_83 (by decide) rfl (fun v14 ev14 hf => ?_)
        refine r_aload_n 0 dX12_isLess_84 rfl rfl ?_
        refine rr_ldR (c := 10) hB dX12_isLess_85 fl_RX12_41 rfl rfl (by decide) ?_
        refine r_bipush (12 : Int32) dX12_isLess_88 (by decide) ?_
        refine r_iload_n 2 dX12_isLess_90 rfl rfl ?_
        refine r_imul dX12_isLess_91 ?_
        refine r_iload_n 3 dX12_isLess_92 rfl rfl ?_
        refine r_iadd dX12_isLess_93 ?_
        refine rr_raI hf hB dX12_isLess_94 (by decide) rfl (fun v15 ev15 hf => ?_)
        refine r_icmp_ge 102 hf dX12_isLess_95 (by decide) (fun c16 hf => ?_) (fun c16 hf => ?_)
        · refine r_iconst (b2i false) dX12_isLess_102 rfl ?_
          exact r_zret rfl dX12_isLess_103 (by have h1 := (Option.some.inj hf); subst h1; exact hr.symm)
        · refine r_iconst (b2i true) dX12_isLess_98 rfl ?_
          refine r_goto 103 dX12_isLess_99 (by decide) ?_
          exact r_zret rfl dX12_isLess_103 (by have h1 := (Option.some.inj hf); subst h1; exact hr.symm)
/-! SearchEngineModel.hasTerm -/
noncomputable def M_hasTerm_l3 (R : RS) (x1 : Int32) (x2 : Int32) (x3 : Int32) (x4 : Int32) : Option (Int32 ⊕ (Unit ⊕ Unit)) :=
  (rdI R 6 800 (((2 : Int32) * x1) + x2)).bind fun v1 =>
  if v1 ≤ x4 then
    some (Sum.inr (Sum.inr ()))
  else
    (M_base x1 x2).bind fun v3 =>
    (M_areAlike R (v3 + x4) x3).bind fun v4 =>
    if v4 = true then
      some (Sum.inr (Sum.inl ()))
    else
      some (Sum.inl (x4 + (1 : Int32)))
noncomputable def M_hasTerm (R : RS) (x1 : Int32) (x2 : Int32) (x3 : Int32) : Option Bool :=
  (lp (fun q => M_hasTerm_l3 R x1 x2 x3 q) (0 : Int32)).bind 
    (se (fun z7 =>
      some true)
      (fun z8 =>
        some false))
set_option maxRecDepth 100000 in
set_option maxHeartbeats 4000000 in
theorem x_M_hasTerm_l3 {Γ : W0} {σ0 : Mem} {r : RT} {τ : Mem} {B : Nat} {R : RS} {x1 : Int32} {x2 : Int32} {x3 : Int32} {t : Unit ⊕ Unit} (hB : RB τ B) (hk0 : ∀ z : Unit, (Sum.inl z) = t → V Γ MD_M_hasTerm σ0 r (emb τ B R) 34 [] []) (hk1 : ∀ z : Unit, (Sum.inr z) = t → V Γ MD_M_hasTerm σ0 r (emb τ B R) 42 [] []) : ∀ q : Int32, lp (fun q => M_hasTerm_l3 R x1 x2 x3 q) q = some t → V Γ MD_M_hasTerm σ0 r (emb τ B R) 3 [(0, va_rf (some B)), (1, .int x1), (2, .int x2), (3, .int x3), (4, .int q)] [] := by
  refine lp_ind (fun (q : Int32) => V Γ MD_M_hasTerm σ0 r (emb τ B R) 3 [(0, va_rf (some B)), (1, .int x1), (2, .int x2), (3, .int x3), (4, .int q)] []) (fun q x hf ih ho => ?_)
  revert hf ih
  generalize q = x4
  intro hf ih
  show V Γ MD_M_hasTerm σ0 r (emb τ B R) 3 [(0, va_rf (some B)), (1, .int x1), (2, .int x2), (3, .int x3), (4, .int x4)] []
  replace hf : M_hasTerm_l3 R x1 x2 x3 x4 = some x := hf
  unfold M_hasTerm_l3 at hf
  refine r_iload 4 dX12_hasTerm_3 rfl ?_
  refine r_aload_n 0 dX12_hasTerm_5 rfl rfl ?_
  refine rr_ldR (c := 6) hB dX12_hasTerm_6 fl_RX12_27 rfl rfl (by decide) ?_
  refine r_iconst (2 : Int32) dX12_hasTerm_9 (by decide) ?_
  refine r_iload_n 1 dX12_hasTerm_10 rfl rfl ?_
  refine r_imul dX12_hasTerm_11 ?_
  refine r_iload_n 2 dX12_hasTerm_12 rfl rfl ?_
  refine r_iadd dX12_hasTerm_13 ?_
  refine rr_raI hf hB dX12_hasTerm_14 (by decide) rfl (fun v1 ev1 hf => ?_)
  refine r_icmp_ge 42 hf dX12_hasTerm_15 (by decide) (fun c2 hf => ?_) (fun c2 hf => ?_)
  · refine r_sub (L' := []) [] rfl ?_
    exact hk1 _ (ho _ (Option.some.inj hf).symm)
  · refine r_aload_n 0 dX12_hasTerm_18 rfl rfl ?_
    refine r_iload_n 1 dX12_hasTerm_19 rfl rfl ?_
    refine r_iload_n 2 dX12_hasTerm_20 rfl rfl ?_
    refine bnd hf (fun v3 ev3 hf => ?_)
    refine r_callSr dX12_hasTerm_21 cs_RX12_189 ww_1276 (by decide) rfl (rest := [_]) rfl (Or.inl (Nat.le_of_ble_eq_true rfl)) (t_M_base ev3) ?_
    refine r_iload 4 dX12_hasTerm_24 rfl ?_
    refine r_iadd dX12_hasTerm_26 ?_
    refine r_iload_n 3 dX12_hasTerm_27 rfl rfl ?_
    refine bnd hf (fun v4 ev4 hf => ?_)
    refine r_callVr (ci := 12) rfl dX12_hasTerm_28 cs_RX12_406 ww_1512 ww_84 (by decide) (hB.t0 _) (by decide) rfl (rest := []) rfl (Or.inl (Nat.le_of_ble_eq_true rfl)) (t_M_areAlike hB ev4) ?_
    refine r_ifeqZ 36 hf dX12_hasTerm_31 (by decide) (fun c5 hf => ?_) (fun c5 hf => ?_)
    · refine r_sub (L' := []) [] rfl ?_
      exact hk0 _ (ho _ (Option.some.inj hf).symm)
    · refine r_iinc (1 : Int32) (L' := [(4, _), (0, _), (1, _), (2, _), (3, _)]) 4 dX12_hasTerm_36 rfl (by decide) (show 4 < 5 by decide) rfl ?_
      refine r_goto 3 dX12_hasTerm_39 (by decide) ?_
      refine r_sub (L' := [(0, _), (1, _), (2, _), (3, _), (4, _)]) [1, 2, 3, 4, 0] rfl ?_
      exact ih _ (Option.some.inj hf).symm
set_option maxRecDepth 100000 in
set_option maxHeartbeats 4000000 in
theorem t_M_hasTerm {Γ : W0} {τ : Mem} {B : Nat} {R : RS} {x1 : Int32} {x2 : Int32} {x3 : Int32} {v : Bool} (hB : RB τ B) (hf : M_hasTerm R x1 x2 x3 = some v) : CT Γ MD_M_hasTerm yX12_hasTerm [va_rf (some B), .int x1, .int x2, .int x3] (emb τ B R) (some (.int (b2i v)), (emb τ B R)) := by
  refine CT.of (L := [(0, va_rf (some B)), (1, .int x1), (2, .int x2), (3, .int x3)]) rfl (by decide) (fun h => Bool.noConfusion (show false = true from h)) (Nat.le_of_ble_eq_true rfl) rfl ?_
  unfold M_hasTerm at hf
  generalize hr : mkR Γ (emb τ B R) (some (.int (b2i v))) (emb τ B R) = r
  refine r_iconst (0 : Int32) dX12_hasTerm_0 (by decide) ?_
  refine r_istore (L' := [(4, _), (0, _), (1, _), (2, _), (3, _)]) dX12_hasTerm_1 (show 4 < 5 by decide) rfl ?_
  refine bnd hf (fun t6 et6 hf => ?_)
  refine r_sub (L' := [(0, _), (1, _), (2, _), (3, _), (4, _)]) [1, 2, 3, 4, 0] rfl ?_
  refine x_M_hasTerm_l3 hB ?_ ?_ _ et6
  · intro z7 hz7
    subst hz7
    simp only [se] at hf
    refine r_iconst (b2i true) dX12_hasTerm_34 rfl ?_
    exact r_zret rfl dX12_hasTerm_35 (by have h1 := (Option.some.inj hf); subst h1; exact hr.symm)
  · intro z8 hz8
    subst hz8
    simp only [se] at hf
    refine r_iconst (b2i false) dX12_hasTerm_42 rfl ?_
    exact r_zret rfl dX12_hasTerm_43 (by have h1 := (Option.some.inj hf); subst h1; exact hr.symm)
/-! SearchEngineModel.dfOf -/
noncomputable def M_dfOf_l5 (R : RS) (x1 : Int32) (x2 : Int32) (x3 : Int32) (x4 : Int32) : Option ((Int32 × Int32) ⊕ Int32) :=
  (rdI R 17 4 x1).bind fun v1 =>
  if v1 ≤ x4 then
    some (Sum.inr x3)
  else
    (rdI R 18 1600 (((400 : Int32) * x1) + x4)).bind fun v3 =>
    (M_hasTerm R v3 (1 : Int32) x2).bind fun v4 =>
    Option.bind (
      if v4 = true then
        some (1 : Int32)
      else
        some (0 : Int32)) fun q5 =>
    some (Sum.inl ((x3 + q5), (x4 + (1 : Int32))))
noncomputable def M_dfOf (R : RS) (x1 : Int32) (x2 : Int32) : Option Int32 :=
  (lp (fun q => M_dfOf_l5 R x1 x2 q.1 q.2) ((0 : Int32), (0 : Int32))).bind fun z8 =>
  some z8
set_option maxRecDepth 100000 in
set_option maxHeartbeats 4000000 in
theorem x_M_dfOf_l5 {Γ : W0} {σ0 : Mem} {r : RT} {τ : Mem} {B : Nat} {R : RS} {x1 : Int32} {x2 : Int32} {t : Int32} (hB : RB τ B) (hk0 : ∀ z : Int32, z = t → V Γ MD_M_dfOf σ0 r (emb τ B R) 52 [(3, .int z)] []) : ∀ q : Int32 × Int32, lp (fun q => M_dfOf_l5 R x1 x2 q.1 q.2) q = some t → V Γ MD_M_dfOf σ0 r (emb τ B R) 5 [(0, va_rf (some B)), (1, .int x1), (2, .int x2), (3, .int q.1), (4, .int q.2)] [] := by
  refine lp_ind (fun (q : Int32 × Int32) => V Γ MD_M_dfOf σ0 r (emb τ B R) 5 [(0, va_rf (some B)), (1, .int x1), (2, .int x2), (3, .int q.1), (4, .int q.2)] []) (fun q x hf ih ho => ?_)
  obtain ⟨x3, x4⟩ := q
  show V Γ MD_M_dfOf σ0 r (emb τ B R) 5 [(0, va_rf (some B)), (1, .int x1), (2, .int x2), (3, .int x3), (4, .int x4)] []
  replace hf : M_dfOf_l5 R x1 x2 x3 x4 = some x := hf
  unfold M_dfOf_l5 at hf
  refine r_iload 4 dX12_dfOf_5 rfl ?_
  refine r_aload_n 0 dX12_dfOf_7 rfl rfl ?_
  refine rr_ldR (c := 17) hB dX12_dfOf_8 fl_RX12_63 rfl rfl (by decide) ?_
  refine r_iload_n 1 dX12_dfOf_11 rfl rfl ?_
  refine rr_raI hf hB dX12_dfOf_12 (by decide) rfl (fun v1 ev1 hf => ?_)
  refine r_icmp_ge 52 hf dX12_dfOf_13 (by decide) (fun c2 hf => ?_) (fun c2 hf => ?_)
  · refine r_sub (L' := [(3, _)]) [3] rfl ?_
    exact hk0 _ (ho _ (Option.some.inj hf).symm)
  · refine r_iload_n 3 dX12_dfOf_16 rfl rfl ?_
    refine r_aload_n 0 dX12_dfOf_17 rfl rfl ?_
    refine r_aload_n 0 dX12_dfOf_18 rfl rfl ?_
    refine rr_ldR (c := 18) hB dX12_dfOf_19 fl_RX12_66 rfl rfl (by decide) ?_
    refine r_sipush (400 : Int32) dX12_dfOf_22 (by decide) ?_
    refine r_iload_n 1 dX12_dfOf_25 rfl rfl ?_
    refine r_imul dX12_dfOf_26 ?_
    refine r_iload 4 dX12_dfOf_27 rfl ?_
    refine r_iadd dX12_dfOf_29 ?_
    refine rr_raI hf hB dX12_dfOf_30 (by decide) rfl (fun v3 ev3 hf => ?_)
    refine r_iconst (1 : Int32) dX12_dfOf_31 (by decide) ?_
    refine r_iload_n 2 dX12_dfOf_32 rfl rfl ?_
    refine bnd hf (fun v4 ev4 hf => ?_)
    refine r_callVr (ci := 12) rfl dX12_dfOf_33 cs_RX12_409 ww_1520 ww_86 (by decide) (hB.t0 _) (by decide) rfl (rest := [_]) rfl (Or.inl (Nat.le_of_ble_eq_true rfl)) (t_M_hasTerm hB ev4) ?_
    refine r_bd (fun (q5 : Int32) => V Γ MD_M_dfOf σ0 r (emb τ B R) 44 [(0, va_rf (some B)), (1, .int x1), (2, .int x2), (4, .int x4)] [.int q5, .int x3]) hf (fun q5 hf => ?_) (fun yq5 hf kq5 => ?_)
    · refine r_iadd dX12_dfOf_44 ?_
      refine r_istore_n (L' := [(3, _), (0, _), (1, _), (2, _), (4, _)]) dX12_dfOf_45 rfl (show 3 < 5 by decide) rfl ?_
      refine r_iinc (1 : Int32) (L' := [(4, _), (3, _), (0, _), (1, _), (2, _)]) 4 dX12_dfOf_46 rfl (by decide) (show 4 < 5 by decide) rfl ?_
      refine r_goto 5 dX12_dfOf_49 (by decide) ?_
      refine r_sub (L' := [(0, _), (1, _), (2, _), (3, _), (4, _)]) [2, 3, 4, 1, 0] rfl ?_
      exact ih _ (Option.some.inj hf).symm
    · refine r_ifeqZ 43 hf dX12_dfOf_36 (by decide) (fun c6 hf => ?_) (fun c6 hf => ?_)
      · refine r_iconst (1 : Int32) dX12_dfOf_39 (by decide) ?_
        refine r_goto 44 dX12_dfOf_40 (by decide) ?_
        refine r_sub (L' := [(0, _), (1, _), (2, _), (4, _)]) [0, 1, 2, 4] rfl ?_
        cases (Option.some.inj hf)
        exact kq5
      · refine r_iconst (0 : Int32) dX12_dfOf_43 (by decide) ?_
        refine r_sub (L' := [(0, _), (1, _), (2, _), (4, _)]) [0, 1, 2, 4] rfl ?_
        cases (Option.some.inj hf)
        exact kq5
set_option maxRecDepth 100000 in
set_option maxHeartbeats 4000000 in
theorem t_M_dfOf {Γ : W0} {τ : Mem} {B : Nat} {R : RS} {x1 : Int32} {x2 : Int32} {v : Int32} (hB : RB τ B) (hf : M_dfOf R x1 x2 = some v) : CT Γ MD_M_dfOf yX12_dfOf [va_rf (some B), .int x1, .int x2] (emb τ B R) (some (.int v), (emb τ B R)) := by
  refine CT.of (L := [(0, va_rf (some B)), (1, .int x1), (2, .int x2)]) rfl (by decide) (fun h => Bool.noConfusion (show false = true from h)) (Nat.le_of_ble_eq_true rfl) rfl ?_
  unfold M_dfOf at hf
  generalize hr : mkR Γ (emb τ B R) (some (.int v)) (emb τ B R) = r
  refine r_iconst (0 : Int32) dX12_dfOf_0 (by decide) ?_
  refine r_istore_n (L' := [(3, _), (0, _), (1, _), (2, _)]) dX12_dfOf_1 rfl (show 3 < 5 by decide) rfl ?_
  refine r_iconst (0 : Int32) dX12_dfOf_2 (by decide) ?_
  refine r_istore (L' := [(4, _), (3, _), (0, _), (1, _), (2, _)]) dX12_dfOf_3 (show 4 < 5 by decide) rfl ?_
  refine bnd hf (fun t7 et7 hf => ?_)
  refine r_sub (L' := [(0, _), (1, _), (2, _), (3, _), (4, _)]) [2, 3, 4, 1, 0] rfl ?_
  refine x_M_dfOf_l5 hB ?_ _ et7
  · intro z8 hz8
    subst hz8
    refine r_iload_n 0 dX12_dfOf_52 rfl rfl ?_
    exact r_iret rfl dX12_dfOf_53 (by have h1 := (Option.some.inj hf); subst h1; exact hr.symm)
/-! SearchEngineModel.near -/
noncomputable def M_near_l75 (R : RS) (x1 : Int32) (x3 : Int32) (x4 : Int32) (x5 : Int32) (x6 : Int32) (x7 : Int32) (x8 : Int32) : Option ((Int32 × Int32 × Int32 × Int32 × RS) ⊕ (Int32 × Int32 × Int32 × RS)) :=
  (rdI R 6 800 (((2 : Int32) * x7) + (1 : Int32))).bind fun v10 =>
  if v10 ≤ x8 then
    some (Sum.inr (x3, x4, x5, R))
  else
    (M_base x7 (1 : Int32)).bind fun v12 =>
    (rdI R 9 100000 (v12 + x8)).bind fun v13 =>
    Option.bind (
      if ¬ v13 = 0 then
        (M_edits R (v12 + x8)).bind fun v16 =>
        if x4 < v16.1 then
          some (x3, x4, x5, v16.2)
        else
          if (2 : Int32) < v16.1 then
            some (x3, x4, x5, v16.2)
          else
            jn (
              if x3 = (-1 : Int32) then
                some (Sum.inr ())
              else
                (M_areAlike v16.2 (v12 + x8) x3).bind fun v21 =>
                if v21 = true then
                  some (Sum.inl (x3, x4, x5, v16.2))
                else
                  some (Sum.inr ())) fun q19 =>
            (M_dfOf v16.2 x1 (v12 + x8)).bind fun v23 =>
            jn (
              if ¬ v16.1 = x4 then
                some (Sum.inr ())
              else
                if v23 < x5 then
                  some (Sum.inl (x3, x4, x5, v16.2))
                else
                  if ¬ v23 = x5 then
                    some (Sum.inr ())
                  else
                    (M_isLess v16.2 (v12 + x8) x3).bind fun v28 =>
                    if v28 = true then
                      some (Sum.inr ())
                    else
                      some (Sum.inl (x3, x4, x5, v16.2))) fun q24 =>
            some ((v12 + x8), v16.1, v23, v16.2)
      else
        some (x3, x4, x5, R)) fun q14 =>
    some (Sum.inl (q14.1, q14.2.1, q14.2.2.1, (x8 + (1 : Int32)), q14.2.2.2))
noncomputable def M_near_l46 (R : RS) (x1 : Int32) (x3 : Int32) (x4 : Int32) (x5 : Int32) (x6 : Int32) : Option ((Int32 × Int32 × Int32 × Int32 × RS) ⊕ (Int32 × Int32 × RS)) :=
  (rdI R 17 4 x1).bind fun v7 =>
  if v7 ≤ x6 then
    some (Sum.inr (x3, x4, R))
  else
    (rdI R 18 1600 (((400 : Int32) * x1) + x6)).bind fun v9 =>
    (lp (fun q => M_near_l75 q.2.2.2.2 x1 q.1 q.2.1 q.2.2.1 x6 v9 q.2.2.2.1) (x3, x4, x5, (0 : Int32), R)).bind fun z31 =>
    some (Sum.inl (z31.1, z31.2.1, z31.2.2.1, (x6 + (1 : Int32)), z31.2.2.2))
noncomputable def M_near_l240 (R : RS) (x3 : Int32) (x4 : Int32) (x6 : Int32) : Option ((Int32 × RS) ⊕ RS) :=
  if (R.1 0 35) ≤ x6 then
    some (Sum.inr R)
  else
    (rdI R 10 1200000 (((12 : Int32) * x3) + x6)).bind fun v38 =>
    (wrI R 26 12 x6 v38).bind fun R39 =>
    some (Sum.inl ((x6 + (1 : Int32)), R39))
noncomputable def M_near (R : RS) (x1 : Int32) : Option (Int32 × RS) :=
  (some (pI R 3 (0 : Int32))).bind fun R1 =>
  (M_isView R1 x1).bind fun v2 =>
  if v2 = true then
    (M_isWord R1 (R.1 0 3)).bind fun v4 =>
    if v4 = true then
      (M_small R1 (0 : Int32) (R.1 0 3)).bind fun v6 =>
      (lp (fun q => M_near_l46 q.2.2.2.2 x1 q.1 q.2.1 q.2.2.1 q.2.2.2.1) ((-1 : Int32), (3 : Int32), (0 : Int32), (0 : Int32), v6)).bind fun z33 =>
      if ¬ z33.1 = (-1 : Int32) then
        (rdI z33.2.2 9 100000 z33.1).bind fun v35 =>
        (some (pI z33.2.2 35 v35)).bind fun R36 =>
        (lp (fun q => M_near_l240 q.2 z33.1 z33.2.1 q.1) ((0 : Int32), R36)).bind fun z41 =>
        some (z33.2.1, z41)
      else
        some ((-1 : Int32), z33.2.2)
    else
      some ((-2 : Int32), R1)
  else
    some ((-2 : Int32), R1)
set_option maxRecDepth 100000 in
set_option maxHeartbeats 4000000 in
theorem x_M_near_l75 {Γ : W0} {σ0 : Mem} {r : RT} {τ : Mem} {B : Nat} {x1 : Int32} {x6 : Int32} {x7 : Int32} {t : Int32 × Int32 × Int32 × RS} (hB : RB τ B) (hk0 : ∀ z : Int32 × Int32 × Int32 × RS, z = t → V Γ MD_M_near σ0 r (emb τ B z.2.2.2) 214 [(0, va_rf (some B)), (1, .int x1), (3, .int z.1), (4, .int z.2.1), (5, .int z.2.2.1), (6, .int x6)] []) : ∀ q : Int32 × Int32 × Int32 × Int32 × RS, lp (fun q => M_near_l75 q.2.2.2.2 x1 q.1 q.2.1 q.2.2.1 x6 x7 q.2.2.2.1) q = some t → V Γ MD_M_near σ0 r (emb τ B q.2.2.2.2) 75 [(0, va_rf (some B)), (1, .int x1), (3, .int q.1), (4, .int q.2.1), (5, .int q.2.2.1), (6, .int x6), (7, .int x7), (8, .int q.2.2.2.1)] [] := by
  refine lp_ind (fun (q : Int32 × Int32 × Int32 × Int32 × RS) => V Γ MD_M_near σ0 r (emb τ B q.2.2.2.2) 75 [(0, va_rf (some B)), (1, .int x1), (3, .int q.1), (4, .int q.2.1), (5, .int q.2.2.1), (6, .int x6), (7, .int x7), (8, .int q.2.2.2.1)] []) (fun q x hf ih ho => ?_)
  obtain ⟨x3, x4, x5, x8, R⟩ := q
  show V Γ MD_M_near σ0 r (emb τ B R) 75 [(0, va_rf (some B)), (1, .int x1), (3, .int x3), (4, .int x4), (5, .int x5), (6, .int x6), (7, .int x7), (8, .int x8)] []
  replace hf : M_near_l75 R x1 x3 x4 x5 x6 x7 x8 = some x := hf
  unfold M_near_l75 at hf
  refine r_iload 7 dX12_near_75 rfl ?_
  refine r_aload_n 0 dX12_near_77 rfl rfl ?_
  refine rr_ldR (c := 6) hB dX12_near_78 fl_RX12_27 rfl rfl (by decide) ?_
  refine r_iconst (2 : Int32) dX12_near_81 (by decide) ?_
  refine r_iload 6 dX12_near_82 rfl ?_
  refine r_imul dX12_near_84 ?_
  refine r_iconst (1 : Int32) dX12_near_85 (by decide) ?_
  refine r_iadd dX12_near_86 ?_
  refine rr_raI hf hB dX12_near_87 (by decide) rfl (fun v10 ev10 hf => ?_)
  refine r_icmp_ge 214 hf dX12_near_88 (by decide) (fun c11 hf => ?_) (fun c11 hf => ?_)
  · refine r_sub (L' := [(0, _), (1, _), (3, _), (4, _), (5, _), (6, _)]) [0, 1, 2, 3, 4, 5] rfl ?_
    exact hk0 _ (ho _ (Option.some.inj hf).symm)
  · refine r_iload 6 dX12_near_91 rfl ?_
    refine r_iconst (1 : Int32) dX12_near_93 (by decide) ?_
    refine bnd hf (fun v12 ev12 hf => ?_)
    refine r_callSr dX12_near_94 cs_RX12_189 ww_1276 (by decide) rfl (rest := []) rfl (Or.inl (Nat.le_of_ble_eq_true rfl)) (t_M_base ev12) ?_
    refine r_iload 7 dX12_near_97 rfl ?_
    refine r_iadd dX12_near_99 ?_
    refine r_istore (L' := [(9, _), (0, _), (1, _), (3, _), (4, _), (5, _), (6, _), (7, _), (8, _)]) dX12_near_100 (show 9 < 12 by decide) rfl ?_
    refine r_aload_n 1 dX12_near_102 rfl rfl ?_
    refine rr_ldR (c := 9) hB dX12_near_103 fl_RX12_37 rfl rfl (by decide) ?_
    refine r_iload 0 dX12_near_106 rfl ?_
    refine rr_raI hf hB dX12_near_108 (by decide) rfl (fun v13 ev13 hf => ?_)
    refine r_bd (fun (q14 : Int32 × Int32 × Int32 × RS) => V Γ MD_M_near σ0 r (emb τ B q14.2.2.2) 208 [(0, va_rf (some B)), (1, .int x1), (3, .int q14.1), (4, .int q14.2.1), (5, .int q14.2.2.1), (6, .int x6), (7, .int x7), (8, .int x8)] []) hf (fun q14 hf => ?_) (fun yq14 hf kq14 => ?_)
    · refine r_iinc (1 : Int32) (L' := [(8, _), (0, _), (1, _), (3, _), (4, _), (5, _), (6, _), (7, _)]) 7 dX12_near_208 rfl (by decide) (show 8 < 12 by decide) rfl ?_
      refine r_goto 75 dX12_near_211 (by decide) ?_
      refine r_sub (L' := [(0, _), (1, _), (3, _), (4, _), (5, _), (6, _), (7, _), (8, _)]) [1, 2, 3, 4, 5, 6, 7, 0] rfl ?_
      exact ih _ (Option.some.inj hf).symm
    · refine r_if_ne 115 hf dX12_near_109 (by decide) (fun c15 hf => ?_) (fun c15 hf => ?_)
      · refine r_aload_n 1 dX12_near_115 rfl rfl ?_
        refine r_iload 0 dX12_near_116 rfl ?_
        refine bnd hf (fun v16 ev16 hf => ?_)
        refine r_callVr (ci := 12) rfl dX12_near_118 cs_RX12_415 ww_1508 ww_83 (by decide) (hB.t0 _) (by decide) rfl (rest := []) rfl (Or.inl (Nat.le_of_ble_eq_true rfl)) (t_M_edits hB ev16) ?_
        refine r_istore (L' := [(10, _), (9, _), (0, _), (1, _), (3, _), (4, _), (5, _), (6, _), (7, _), (8, _)]) dX12_near_121 (show 10 < 12 by decide) rfl ?_
        refine r_iload 0 dX12_near_123 rfl ?_
        refine r_iload 5 dX12_near_125 rfl ?_
        refine r_icmp_gt 208 hf dX12_near_127 (by decide) (fun c17 hf => ?_) (fun c17 hf => ?_)
        · refine r_sub (L' := [(0, _), (1, _), (3, _), (4, _), (5, _), (6, _), (7, _), (8, _)]) [2, 3, 4, 5, 6, 7, 8, 9] rfl ?_
          cases (Option.some.inj hf)
          exact kq14
        · refine r_iload 0 dX12_near_130 rfl ?_
          refine r_iconst (2 : Int32) dX12_near_132 (by decide) ?_
          refine r_icmp_gt 208 hf dX12_near_133 (by decide) (fun c18 hf => ?_) (fun c18 hf => ?_)
          · refine r_sub (L' := [(0, _), (1, _), (3, _), (4, _), (5, _), (6, _), (7, _), (8, _)]) [2, 3, 4, 5, 6, 7, 8, 9] rfl ?_
            cases (Option.some.inj hf)
            exact kq14
          · refine r_iload_n 4 dX12_near_136 rfl rfl ?_
            refine r_iconst (-1 : Int32) dX12_near_137 (by decide) ?_
            refine r_jn (fun (q19 : Unit) => V Γ MD_M_near σ0 r (emb τ B v16.2) 154 [(0, va_rf (some B)), (1, .int x1), (3, .int x3), (4, .int x4), (5, .int x5), (6, .int x6), (7, .int x7), (8, .int x8), (9, .int (v12 + x8)), (10, .int v16.1)] []) hf (fun q19 hf => ?_) (fun yq19 hf oq19 kq19 => ?_)
            · refine r_aload_n 0 dX12_near_154 rfl rfl ?_
              refine r_iload_n 1 dX12_near_155 rfl rfl ?_
              refine r_iload 8 dX12_near_156 rfl ?_
              refine bnd hf (fun v23 ev23 hf => ?_)
              refine r_callVr (ci := 12) rfl dX12_near_158 cs_RX12_418 ww_1516 ww_85 (by decide) (hB.t0 _) (by decide) rfl (rest := []) rfl (Or.inl (Nat.le_of_ble_eq_true rfl)) (t_M_dfOf hB ev23) ?_
              refine r_istore (L' := [(11, _), (0, _), (1, _), (3, _), (4, _), (5, _), (6, _), (7, _), (8, _), (9, _), (10, _)]) dX12_near_161 (show 11 < 12 by decide) rfl ?_
              refine r_iload 10 dX12_near_163 rfl ?_
              refine r_iload 4 dX12_near_165 rfl ?_
              refine r_jn (fun (q24 : Unit) => V Γ MD_M_near σ0 r (emb τ B v16.2) 197 [(0, va_rf (some B)), (1, .int x1), (6, .int x6), (7, .int x7), (8, .int x8), (9, .int (v12 + x8)), (10, .int v16.1), (11, .int v23)] []) hf (fun q24 hf => ?_) (fun yq24 hf oq24 kq24 => ?_)
              · refine r_iload 5 dX12_near_197 rfl ?_
                refine r_istore_n (L' := [(3, _), (0, _), (1, _), (6, _), (7, _), (8, _), (9, _), (10, _), (11, _)]) dX12_near_199 rfl (show 3 < 12 by decide) rfl ?_
                refine r_iload 7 dX12_near_200 rfl ?_
                refine r_istore (L' := [(4, _), (3, _), (0, _), (1, _), (6, _), (7, _), (8, _), (9, _), (10, _), (11, _)]) dX12_near_202 (show 4 < 12 by decide) rfl ?_
                refine r_iload 9 dX12_near_204 rfl ?_
                refine r_istore (L' := [(5, _), (4, _), (3, _), (0, _), (1, _), (6, _), (7, _), (8, _), (9, _), (10, _), (11, _)]) dX12_near_206 (show 5 < 12 by decide) rfl ?_
                refine r_sub (L' := [(0, _), (1, _), (3, _), (4, _), (5, _), (6, _), (7, _), (8, _)]) [3, 4, 2, 1, 0, 5, 6, 7] rfl ?_
                cases (Option.some.inj hf)
                exact kq14
              · refine r_icmp_ne 197 hf dX12_near_167 (by decide) (fun c25 hf => ?_) (fun c25 hf => ?_)
                · refine r_sub (L' := [(0, _), (1, _), (6, _), (7, _), (8, _), (9, _), (10, _), (11, _)]) [1, 2, 6, 7, 8, 9, 10, 0] rfl ?_
                  exact kq24 _ (Option.some.inj hf).symm
                · refine r_iload 0 dX12_near_170 rfl ?_
                  refine r_iload 5 dX12_near_172 rfl ?_
                  refine r_icmp_lt 208 hf dX12_near_174 (by decide) (fun c26 hf => ?_) (fun c26 hf => ?_)
                  · refine r_sub (L' := [(0, _), (1, _), (3, _), (4, _), (5, _), (6, _), (7, _), (8, _)]) [1, 2, 3, 4, 5, 6, 7, 8] rfl ?_
                    cases (oq24 _ (Option.some.inj hf).symm)
                    exact kq14
                  · refine r_iload 0 dX12_near_177 rfl ?_
                    refine r_iload 5 dX12_near_179 rfl ?_
                    refine r_icmp_ne 197 hf dX12_near_181 (by decide) (fun c27 hf => ?_) (fun c27 hf => ?_)
                    · refine r_sub (L' := [(0, _), (1, _), (6, _), (7, _), (8, _), (9, _), (10, _), (11, _)]) [1, 2, 6, 7, 8, 9, 10, 0] rfl ?_
                      exact kq24 _ (Option.some.inj hf).symm
                    · refine r_aload_n 1 dX12_near_184 rfl rfl ?_
                      refine r_iload 9 dX12_near_185 rfl ?_
                      refine r_iload_n 3 dX12_near_187 rfl rfl ?_
                      refine bnd hf (fun v28 ev28 hf => ?_)
                      refine r_callVr (ci := 12) rfl dX12_near_188 cs_RX12_421 ww_1524 ww_87 (by decide) (hB.t0 _) (by decide) rfl (rest := []) rfl (Or.inl (Nat.le_of_ble_eq_true rfl)) (t_M_isLess hB ev28) ?_
                      refine r_ifneZ 197 hf dX12_near_191 (by decide) (fun c29 hf => ?_) (fun c29 hf => ?_)
                      · refine r_sub (L' := [(0, _), (1, _), (6, _), (7, _), (8, _), (9, _), (10, _), (11, _)]) [1, 2, 6, 7, 8, 9, 10, 0] rfl ?_
                        exact kq24 _ (Option.some.inj hf).symm
                      · refine r_goto 208 dX12_near_194 (by decide) ?_
                        refine r_sub (L' := [(0, _), (1, _), (3, _), (4, _), (5, _), (6, _), (7, _), (8, _)]) [1, 2, 3, 4, 5, 6, 7, 8] rfl ?_
                        cases (oq24 _ (Option.some.inj hf).symm)
                        exact kq14
            · refine r_icmp_eq 154 hf dX12_near_138 (by decide) (fun c20 hf => ?_) (fun c20 hf => ?_)
              · refine r_sub (L' := [(0, _), (1, _), (3, _), (4, _), (5, _), (6, _), (7, _), (8, _), (9, _), (10, _)]) [2, 3, 4, 5, 6, 7, 8, 9, 1, 0] rfl ?_
                exact kq19 _ (Option.some.inj hf).symm
              · refine r_aload_n 2 dX12_near_141 rfl rfl ?_
                refine r_iload 1 dX12_near_142 rfl ?_
                refine r_iload_n 4 dX12_near_144 rfl rfl ?_
                refine bnd hf (fun v21 ev21 hf => ?_)
                refine r_callVr (ci := 12) rfl dX12_near_145 cs_RX12_406 ww_1512 ww_84 (by decide) (hB.t0 _) (by decide) rfl (rest := []) rfl (Or.inl (Nat.le_of_ble_eq_true rfl)) (t_M_areAlike hB ev21) ?_
                refine r_ifeqZ 154 hf dX12_near_148 (by decide) (fun c22 hf => ?_) (fun c22 hf => ?_)
                · refine r_goto 208 dX12_near_151 (by decide) ?_
                  refine r_sub (L' := [(0, _), (1, _), (3, _), (4, _), (5, _), (6, _), (7, _), (8, _)]) [2, 3, 4, 5, 6, 7, 8, 9] rfl ?_
                  cases (oq19 _ (Option.some.inj hf).symm)
                  exact kq14
                · refine r_sub (L' := [(0, _), (1, _), (3, _), (4, _), (5, _), (6, _), (7, _), (8, _), (9, _), (10, _)]) [2, 3, 4, 5, 6, 7, 8, 9, 1, 0] rfl ?_
                  exact kq19 _ (Option.some.inj hf).symm
      · refine r_goto 208 dX12_near_112 (by decide) ?_
        refine r_sub (L' := [(0, _), (1, _), (3, _), (4, _), (5, _), (6, _), (7, _), (8, _)]) [1, 2, 3, 4, 5, 6, 7, 8] rfl ?_
        cases (Option.some.inj hf)
        exact kq14
set_option maxRecDepth 100000 in
set_option maxHeartbeats 4000000 in
theorem x_M_near_l46 {Γ : W0} {σ0 : Mem} {r : RT} {τ : Mem} {B : Nat} {x1 : Int32} {t : Int32 × Int32 × RS} (hB : RB τ B) (hk0 : ∀ z : Int32 × Int32 × RS, z = t → V Γ MD_M_near σ0 r (emb τ B z.2.2) 220 [(0, va_rf (some B)), (3, .int z.1), (4, .int z.2.1)] []) : ∀ q : Int32 × Int32 × Int32 × Int32 × RS, lp (fun q => M_near_l46 q.2.2.2.2 x1 q.1 q.2.1 q.2.2.1 q.2.2.2.1) q = some t → V Γ MD_M_near σ0 r (emb τ B q.2.2.2.2) 46 [(0, va_rf (some B)), (1, .int x1), (3, .int q.1), (4, .int q.2.1), (5, .int q.2.2.1), (6, .int q.2.2.2.1)] [] := by
  refine lp_ind (fun (q : Int32 × Int32 × Int32 × Int32 × RS) => V Γ MD_M_near σ0 r (emb τ B q.2.2.2.2) 46 [(0, va_rf (some B)), (1, .int x1), (3, .int q.1), (4, .int q.2.1), (5, .int q.2.2.1), (6, .int q.2.2.2.1)] []) (fun q x hf ih ho => ?_)
  obtain ⟨x3, x4, x5, x6, R⟩ := q
  show V Γ MD_M_near σ0 r (emb τ B R) 46 [(0, va_rf (some B)), (1, .int x1), (3, .int x3), (4, .int x4), (5, .int x5), (6, .int x6)] []
  replace hf : M_near_l46 R x1 x3 x4 x5 x6 = some x := hf
  unfold M_near_l46 at hf
  refine r_iload 5 dX12_near_46 rfl ?_
  refine r_aload_n 0 dX12_near_48 rfl rfl ?_
  refine rr_ldR (c := 17) hB dX12_near_49 fl_RX12_63 rfl rfl (by decide) ?_
  refine r_iload_n 1 dX12_near_52 rfl rfl ?_
  refine rr_raI hf hB dX12_near_53 (by decide) rfl (fun v7 ev7 hf => ?_)
  refine r_icmp_ge 220 hf dX12_near_54 (by decide) (fun c8 hf => ?_) (fun c8 hf => ?_)
  · refine r_sub (L' := [(0, _), (3, _), (4, _)]) [0, 2, 3] rfl ?_
    exact hk0 _ (ho _ (Option.some.inj hf).symm)
  · refine r_aload_n 0 dX12_near_57 rfl rfl ?_
    refine rr_ldR (c := 18) hB dX12_near_58 fl_RX12_66 rfl rfl (by decide) ?_
    refine r_sipush (400 : Int32) dX12_near_61 (by decide) ?_
    refine r_iload_n 1 dX12_near_64 rfl rfl ?_
    refine r_imul dX12_near_65 ?_
    refine r_iload 5 dX12_near_66 rfl ?_
    refine r_iadd dX12_near_68 ?_
    refine rr_raI hf hB dX12_near_69 (by decide) rfl (fun v9 ev9 hf => ?_)
    refine r_istore (L' := [(7, _), (0, _), (1, _), (3, _), (4, _), (5, _), (6, _)]) dX12_near_70 (show 7 < 12 by decide) rfl ?_
    refine r_iconst (0 : Int32) dX12_near_72 (by decide) ?_
    refine r_istore (L' := [(8, _), (7, _), (0, _), (1, _), (3, _), (4, _), (5, _), (6, _)]) dX12_near_73 (show 8 < 12 by decide) rfl ?_
    refine bnd hf (fun t30 et30 hf => ?_)
    refine r_sub (L' := [(0, _), (1, _), (3, _), (4, _), (5, _), (6, _), (7, _), (8, _)]) [2, 3, 4, 5, 6, 7, 1, 0] rfl ?_
    refine x_M_near_l75 hB ?_ _ et30
    · intro z31 hz31
      subst hz31
      refine r_iinc (1 : Int32) (L' := [(6, _), (0, _), (1, _), (3, _), (4, _), (5, _)]) 5 dX12_near_214 rfl (by decide) (show 6 < 12 by decide) rfl ?_
      refine r_goto 46 dX12_near_217 (by decide) ?_
      refine r_sub (L' := [(0, _), (1, _), (3, _), (4, _), (5, _), (6, _)]) [1, 2, 3, 4, 5, 0] rfl ?_
      exact ih _ (Option.some.inj hf).symm
set_option maxRecDepth 100000 in
set_option maxHeartbeats 4000000 in
theorem x_M_near_l240 {Γ : W0} {σ0 : Mem} {r : RT} {τ : Mem} {B : Nat} {x3 : Int32} {x4 : Int32} {t : RS} (hB : RB τ B) (hk0 : ∀ z : RS, z = t → V Γ MD_M_near σ0 r (emb τ B z) 274 [(4, .int x4)] []) : ∀ q : Int32 × RS, lp (fun q => M_near_l240 q.2 x3 x4 q.1) q = some t → V Γ MD_M_near σ0 r (emb τ B q.2) 240 [(0, va_rf (some B)), (3, .int x3), (4, .int x4), (6, .int q.1)] [] := by
  refine lp_ind (fun (q : Int32 × RS) => V Γ MD_M_near σ0 r (emb τ B q.2) 240 [(0, va_rf (some B)), (3, .int x3), (4, .int x4), (6, .int q.1)] []) (fun q x hf ih ho => ?_)
  obtain ⟨x6, R⟩ := q
  show V Γ MD_M_near σ0 r (emb τ B R) 240 [(0, va_rf (some B)), (3, .int x3), (4, .int x4), (6, .int x6)] []
  replace hf : M_near_l240 R x3 x4 x6 = some x := hf
  unfold M_near_l240 at hf
  refine r_iload 3 dX12_near_240 rfl ?_
  refine r_aload_n 0 dX12_near_242 rfl rfl ?_
  refine rr_ldI (k := 35) hB dX12_near_243 fl_RX12_94 rfl ?_
  refine r_icmp_ge 274 hf dX12_near_246 (by decide) (fun c37 hf => ?_) (fun c37 hf => ?_)
  · refine r_sub (L' := [(4, _)]) [2] rfl ?_
    exact hk0 _ (ho _ (Option.some.inj hf).symm)
  · refine r_aload_n 0 dX12_near_249 rfl rfl ?_
    refine rr_ldR (c := 26) hB dX12_near_250 fl_RX12_97 rfl rfl (by decide) ?_
    refine r_iload 3 dX12_near_253 rfl ?_
    refine r_aload_n 0 dX12_near_255 rfl rfl ?_
    refine rr_ldR (c := 10) hB dX12_near_256 fl_RX12_41 rfl rfl (by decide) ?_
    refine r_bipush (12 : Int32) dX12_near_259 (by decide) ?_
    refine r_iload_n 1 dX12_near_261 rfl rfl ?_
    refine r_imul dX12_near_262 ?_
    refine r_iload 3 dX12_near_263 rfl ?_
    refine r_iadd dX12_near_265 ?_
    refine rr_raI hf hB dX12_near_266 (by decide) rfl (fun v38 ev38 hf => ?_)
    refine rr_waI hf hB dX12_near_267 (by decide) rfl (fun R39 eR39 hf => ?_)
    refine r_iinc (1 : Int32) (L' := [(6, _), (0, _), (3, _), (4, _)]) 3 dX12_near_268 rfl (by decide) (show 6 < 12 by decide) rfl ?_
    refine r_goto 240 dX12_near_271 (by decide) ?_
    refine r_sub (L' := [(0, _), (3, _), (4, _), (6, _)]) [1, 2, 3, 0] rfl ?_
    exact ih _ (Option.some.inj hf).symm
set_option maxRecDepth 100000 in
set_option maxHeartbeats 4000000 in
theorem t_M_near {Γ : W0} {τ : Mem} {B : Nat} {R : RS} {x1 : Int32} {v : Int32} {R' : RS} (hB : RB τ B) (hf : M_near R x1 = some (v, R')) : CT Γ MD_M_near yX12_near [va_rf (some B), .int x1] (emb τ B R) (some (.int v), (emb τ B R')) := by
  refine CT.of (L := [(0, va_rf (some B)), (1, .int x1)]) rfl (by decide) (fun h => Bool.noConfusion (show false = true from h)) (Nat.le_of_ble_eq_true rfl) rfl ?_
  unfold M_near at hf
  generalize hr : mkR Γ (emb τ B R) (some (.int v)) (emb τ B R') = r
  refine r_aload_n 0 dX12_near_0 rfl rfl ?_
  refine rr_ldI (k := 3) hB dX12_near_1 fl_RX12_168 rfl ?_
  refine r_istore_n (L' := [(2, _), (0, _), (1, _)]) dX12_near_4 rfl (show 2 < 12 by decide) rfl ?_
  refine r_aload_n 1 dX12_near_5 rfl rfl ?_
  refine r_iconst (0 : Int32) dX12_near_6 (by decide) ?_
  refine rr_stI hf hB dX12_near_7 fl_RX12_168 rfl rfl rfl (fun R1 eR1 hf => ?_)
  refine r_aload_n 1 dX12_near_10 rfl rfl ?_
  refine r_iload_n 2 dX12_near_11 rfl rfl ?_
  refine bnd hf (fun v2 ev2 hf => ?_)
  refine r_callVr (ci := 12) rfl dX12_near_12 cs_RX12_236 ww_1332 ww_48 (by decide) (hB.t0 _) (by decide) rfl (rest := []) rfl (Or.inl (Nat.le_of_ble_eq_true rfl)) (t_M_isView hB ev2) ?_
  refine r_ifeqZ 26 hf dX12_near_15 (by decide) (fun c3 hf => ?_) (fun c3 hf => ?_)
  · refine r_aload_n 1 dX12_near_18 rfl rfl ?_
    refine r_iload_n 0 dX12_near_19 rfl rfl ?_
    refine bnd hf (fun v4 ev4 hf => ?_)
    refine r_callVr (ci := 12) rfl dX12_near_20 cs_RX12_412 ww_1504 ww_82 (by decide) (hB.t0 _) (by decide) rfl (rest := []) rfl (Or.inl (Nat.le_of_ble_eq_true rfl)) (t_M_isWord hB ev4) ?_
    refine r_ifneZ 29 hf dX12_near_23 (by decide) (fun c5 hf => ?_) (fun c5 hf => ?_)
    · refine r_aload_n 1 dX12_near_29 rfl rfl ?_
      refine r_iconst (0 : Int32) dX12_near_30 (by decide) ?_
      refine r_iload_n 0 dX12_near_31 rfl rfl ?_
      refine bnd hf (fun v6 ev6 hf => ?_)
      refine r_callVv (ci := 12) rfl dX12_near_32 cs_RX12_178 ww_1284 ww_41 (by decide) (hB.t0 _) (by decide) rfl (rest := []) rfl (Or.inl (Nat.le_of_ble_eq_true rfl)) (t_M_small hB ev6) ?_
      refine r_iconst (-1 : Int32) dX12_near_35 (by decide) ?_
      refine r_istore_n (L' := [(3, _), (2, _), (0, _), (1, _)]) dX12_near_36 rfl (show 3 < 12 by decide) rfl ?_
      refine r_iconst (3 : Int32) dX12_near_37 (by decide) ?_
      refine r_istore (L' := [(4, _), (3, _), (2, _), (0, _), (1, _)]) dX12_near_38 (show 4 < 12 by decide) rfl ?_
      refine r_iconst (0 : Int32) dX12_near_40 (by decide) ?_
      refine r_istore (L' := [(5, _), (4, _), (3, _), (2, _), (0, _), (1, _)]) dX12_near_41 (show 5 < 12 by decide) rfl ?_
      refine r_iconst (0 : Int32) dX12_near_43 (by decide) ?_
      refine r_istore (L' := [(6, _), (5, _), (4, _), (3, _), (2, _), (0, _), (1, _)]) dX12_near_44 (show 6 < 12 by decide) rfl ?_
      refine bnd hf (fun t32 et32 hf => ?_)
      refine r_sub (L' := [(0, _), (1, _), (3, _), (4, _), (5, _), (6, _)]) [5, 6, 3, 2, 1, 0] rfl ?_
      refine x_M_near_l46 hB ?_ _ et32
      · intro z33 hz33
        subst hz33
        refine r_iload_n 1 dX12_near_220 rfl rfl ?_
        refine r_iconst (-1 : Int32) dX12_near_221 (by decide) ?_
        refine r_icmp_ne 227 hf dX12_near_222 (by decide) (fun c34 hf => ?_) (fun c34 hf => ?_)
        · refine r_aload_n 0 dX12_near_227 rfl rfl ?_
          refine r_aload_n 0 dX12_near_228 rfl rfl ?_
          refine rr_ldR (c := 9) hB dX12_near_229 fl_RX12_37 rfl rfl (by decide) ?_
          refine r_iload_n 1 dX12_near_232 rfl rfl ?_
          refine rr_raI hf hB dX12_near_233 (by decide) rfl (fun v35 ev35 hf => ?_)
          refine rr_stI hf hB dX12_near_234 fl_RX12_94 rfl rfl rfl (fun R36 eR36 hf => ?_)
          refine r_iconst (0 : Int32) dX12_near_237 (by decide) ?_
          refine r_istore (L' := [(6, _), (0, _), (3, _), (4, _)]) dX12_near_238 (show 6 < 12 by decide) rfl ?_
          refine bnd hf (fun t40 et40 hf => ?_)
          refine r_sub (L' := [(0, _), (3, _), (4, _), (6, _)]) [1, 2, 3, 0] rfl ?_
          refine x_M_near_l240 hB ?_ _ et40
          · intro z41 hz41
            subst hz41
            refine r_iload 0 dX12_near_274 rfl ?_
            exact r_iret rfl dX12_near_276 (by obtain ⟨h1, h2⟩ := Prod.mk.inj (Option.some.inj hf); subst h1; subst h2; exact hr.symm)
        · refine r_iconst (-1 : Int32) dX12_near_225 (by decide) ?_
          exact r_iret rfl dX12_near_226 (by obtain ⟨h1, h2⟩ := Prod.mk.inj (Option.some.inj hf); subst h1; subst h2; exact hr.symm)
    · refine r_bipush (-2 : Int32) dX12_near_26 (by decide) ?_
      exact r_iret rfl dX12_near_28 (by obtain ⟨h1, h2⟩ := Prod.mk.inj (Option.some.inj hf); subst h1; subst h2; exact hr.symm)
  · refine r_bipush (-2 : Int32) dX12_near_26 (by decide) ?_
    exact r_iret rfl dX12_near_28 (by obtain ⟨h1, h2⟩ := Prod.mk.inj (Option.some.inj hf); subst h1; subst h2; exact hr.symm)
/-! SearchEngineModel.nearByte -/
noncomputable def M_nearByte (R : RS) (x1 : Int32) : Option Int32 :=
  if (R.1 0 35) = (-1 : Int32) then
    some (-1 : Int32)
  else
    (M_in x1 (-1 : Int32) ((R.1 0 35) - (1 : Int32))).bind fun v2 =>
    if v2 = true then
      if 0 ≤ x1 then
        (rdI R 26 12 x1).bind fun v5 =>
        some v5
      else
        some (R.1 0 35)
    else
      some (-1 : Int32)
set_option maxRecDepth 100000 in
set_option maxHeartbeats 4000000 in
theorem t_M_nearByte {Γ : W0} {τ : Mem} {B : Nat} {R : RS} {x1 : Int32} {v : Int32} (hB : RB τ B) (hf : M_nearByte R x1 = some v) : CT Γ MD_M_nearByte yX12_nearByte [va_rf (some B), .int x1] (emb τ B R) (some (.int v), (emb τ B R)) := by
  refine CT.of (L := [(0, va_rf (some B)), (1, .int x1)]) rfl (by decide) (fun h => Bool.noConfusion (show false = true from h)) (Nat.le_of_ble_eq_true rfl) rfl ?_
  unfold M_nearByte at hf
  generalize hr : mkR Γ (emb τ B R) (some (.int v)) (emb τ B R) = r
  refine r_aload_n 0 dX12_nearByte_0 rfl rfl ?_
  refine rr_ldI (k := 35) hB dX12_nearByte_1 fl_RX12_94 rfl ?_
  refine r_iconst (-1 : Int32) dX12_nearByte_4 (by decide) ?_
  refine r_icmp_eq 22 hf dX12_nearByte_5 (by decide) (fun c1 hf => ?_) (fun c1 hf => ?_)
  · refine r_iconst (-1 : Int32) dX12_nearByte_22 (by decide) ?_
    exact r_iret rfl dX12_nearByte_23 (by have h1 := (Option.some.inj hf); subst h1; exact hr.symm)
  · refine r_iload_n 1 dX12_nearByte_8 rfl rfl ?_
    refine r_iconst (-1 : Int32) dX12_nearByte_9 (by decide) ?_
    refine r_aload_n 0 dX12_nearByte_10 rfl rfl ?_
    refine rr_ldI (k := 35) hB dX12_nearByte_11 fl_RX12_94 rfl ?_
    refine r_iconst (1 : Int32) dX12_nearByte_14 (by decide) ?_
    refine r_isub dX12_nearByte_15 ?_
    refine bnd hf (fun v2 ev2 hf => ?_)
    refine r_callSr dX12_nearByte_16 cs_RX12_164 ww_1258 (by decide) rfl (rest := []) rfl (Or.inl (Nat.le_of_ble_eq_true rfl)) (t_M_in ev2) ?_
    refine r_ifneZ 24 hf dX12_nearByte_19 (by decide) (fun c3 hf => ?_) (fun c3 hf => ?_)
    · refine r_iload_n 1 dX12_nearByte_24 rfl rfl ?_
      refine r_if_ge 35 hf dX12_nearByte_25 (by decide) (fun c4 hf => ?_) (fun c4 hf => ?_)
      · refine r_aload_n 0 dX12_nearByte_35 rfl rfl ?_
        refine rr_ldR (c := 26) hB dX12_nearByte_36 fl_RX12_97 rfl rfl (by decide) ?_
        refine r_iload_n 1 dX12_nearByte_39 rfl rfl ?_
        refine rr_raI hf hB dX12_nearByte_40 (by decide) rfl (fun v5 ev5 hf => ?_)
        exact r_iret rfl dX12_nearByte_41 (by have h1 := (Option.some.inj hf); subst h1; exact hr.symm)
      · refine r_aload_n 0 dX12_nearByte_28 rfl rfl ?_
        refine rr_ldI (k := 35) hB dX12_nearByte_29 fl_RX12_94 rfl ?_
        refine r_goto 41 dX12_nearByte_32 (by decide) ?_
        exact r_iret rfl dX12_nearByte_41 (by have h1 := (Option.some.inj hf); subst h1; exact hr.symm)
    · refine r_iconst (-1 : Int32) dX12_nearByte_22 (by decide) ?_
      exact r_iret rfl dX12_nearByte_23 (by have h1 := (Option.some.inj hf); subst h1; exact hr.symm)
/-! SearchEngineModel.isFirst -/
noncomputable def M_isFirst_l24 (R : RS) (x1 : Int32) (x2 : Int32) (x3 : Int32) (x4 : Int32) (x5 : Int32) (x6 : Int32) : Option (Int32 ⊕ (Unit ⊕ Unit)) :=
  if x3 ≤ x6 then
    some (Sum.inr (Sum.inr ()))
  else
    (rdI R 14 168000 (((400 : Int32) * x1) + x6)).bind fun v4 =>
    (M_hasTerm R v4 x2 x5).bind fun v5 =>
    if v5 = true then
      some (Sum.inr (Sum.inl ()))
    else
      some (Sum.inl (x6 + (1 : Int32)))
noncomputable def M_isFirst_l78 (R : RS) (x2 : Int32) (x4 : Int32) (x5 : Int32) (x6 : Int32) (x7 : Int32) : Option (Int32 ⊕ (Unit ⊕ Unit)) :=
  if x4 ≤ x7 then
    some (Sum.inr (Sum.inr ()))
  else
    (M_base x6 x2).bind fun v12 =>
    (M_areAlike R (v12 + x7) x5).bind fun v13 =>
    if v13 = true then
      some (Sum.inr (Sum.inl ()))
    else
      some (Sum.inl (x7 + (1 : Int32)))
noncomputable def M_isFirst (R : RS) (x1 : Int32) (x2 : Int32) (x3 : Int32) (x4 : Int32) : Option Bool :=
  (rdI R 14 168000 (((400 : Int32) * x1) + x3)).bind fun v1 =>
  (M_base v1 x2).bind fun v2 =>
  (lp (fun q => M_isFirst_l24 R x1 x2 x3 x4 (v2 + x4) q) (0 : Int32)).bind 
    (se (fun z8 =>
      some false)
      (fun z9 =>
        (rdI R 14 168000 (((400 : Int32) * x1) + x3)).bind fun v10 =>
        (lp (fun q => M_isFirst_l78 R x2 x4 (v2 + x4) v10 q) (0 : Int32)).bind 
          (se (fun z16 =>
            some false)
            (fun z17 =>
              some true))))
set_option maxRecDepth 100000 in
set_option maxHeartbeats 4000000 in
theorem x_M_isFirst_l24 {Γ : W0} {σ0 : Mem} {r : RT} {τ : Mem} {B : Nat} {R : RS} {x1 : Int32} {x2 : Int32} {x3 : Int32} {x4 : Int32} {x5 : Int32} {t : Unit ⊕ Unit} (hB : RB τ B) (hk0 : ∀ z : Unit, (Sum.inl z) = t → V Γ MD_M_isFirst σ0 r (emb τ B R) 53 [] []) (hk1 : ∀ z : Unit, (Sum.inr z) = t → V Γ MD_M_isFirst σ0 r (emb τ B R) 61 [(0, va_rf (some B)), (1, .int x1), (2, .int x2), (3, .int x3), (4, .int x4), (5, .int x5)] []) : ∀ q : Int32, lp (fun q => M_isFirst_l24 R x1 x2 x3 x4 x5 q) q = some t → V Γ MD_M_isFirst σ0 r (emb τ B R) 24 [(0, va_rf (some B)), (1, .int x1), (2, .int x2), (3, .int x3), (4, .int x4), (5, .int x5), (6, .int q)] [] := by
  refine lp_ind (fun (q : Int32) => V Γ MD_M_isFirst σ0 r (emb τ B R) 24 [(0, va_rf (some B)), (1, .int x1), (2, .int x2), (3, .int x3), (4, .int x4), (5, .int x5), (6, .int q)] []) (fun q x hf ih ho => ?_)
  revert hf ih
  generalize q = x6
  intro hf ih
  show V Γ MD_M_isFirst σ0 r (emb τ B R) 24 [(0, va_rf (some B)), (1, .int x1), (2, .int x2), (3, .int x3), (4, .int x4), (5, .int x5), (6, .int x6)] []
  replace hf : M_isFirst_l24 R x1 x2 x3 x4 x5 x6 = some x := hf
  unfold M_isFirst_l24 at hf
  refine r_iload 6 dX12_isFirst_24 rfl ?_
  refine r_iload_n 3 dX12_isFirst_26 rfl rfl ?_
  refine r_icmp_ge 61 hf dX12_isFirst_27 (by decide) (fun c3 hf => ?_) (fun c3 hf => ?_)
  · refine r_sub (L' := [(0, _), (1, _), (2, _), (3, _), (4, _), (5, _)]) [0, 1, 2, 3, 4, 5] rfl ?_
    exact hk1 _ (ho _ (Option.some.inj hf).symm)
  · refine r_aload_n 0 dX12_isFirst_30 rfl rfl ?_
    refine r_aload_n 0 dX12_isFirst_31 rfl rfl ?_
    refine rr_ldR (c := 14) hB dX12_isFirst_32 fl_RX12_54 rfl rfl (by decide) ?_
    refine r_sipush (400 : Int32) dX12_isFirst_35 (by decide) ?_
    refine r_iload_n 1 dX12_isFirst_38 rfl rfl ?_
    refine r_imul dX12_isFirst_39 ?_
    refine r_iload 6 dX12_isFirst_40 rfl ?_
    refine r_iadd dX12_isFirst_42 ?_
    refine rr_raI hf hB dX12_isFirst_43 (by decide) rfl (fun v4 ev4 hf => ?_)
    refine r_iload_n 2 dX12_isFirst_44 rfl rfl ?_
    refine r_iload 5 dX12_isFirst_45 rfl ?_
    refine bnd hf (fun v5 ev5 hf => ?_)
    refine r_callVr (ci := 12) rfl dX12_isFirst_47 cs_RX12_409 ww_1520 ww_86 (by decide) (hB.t0 _) (by decide) rfl (rest := []) rfl (Or.inl (Nat.le_of_ble_eq_true rfl)) (t_M_hasTerm hB ev5) ?_
    refine r_ifeqZ 55 hf dX12_isFirst_50 (by decide) (fun c6 hf => ?_) (fun c6 hf => ?_)
    · refine r_sub (L' := []) [] rfl ?_
      exact hk0 _ (ho _ (Option.some.inj hf).symm)
    · refine r_iinc (1 : Int32) (L' := [(6, _), (0, _), (1, _), (2, _), (3, _), (4, _), (5, _)]) 6 dX12_isFirst_55 rfl (by decide) (show 6 < 8 by decide) rfl ?_
      refine r_goto 24 dX12_isFirst_58 (by decide) ?_
      refine r_sub (L' := [(0, _), (1, _), (2, _), (3, _), (4, _), (5, _), (6, _)]) [1, 2, 3, 4, 5, 6, 0] rfl ?_
      exact ih _ (Option.some.inj hf).symm
set_option maxRecDepth 100000 in
set_option maxHeartbeats 4000000 in
theorem x_M_isFirst_l78 {Γ : W0} {σ0 : Mem} {r : RT} {τ : Mem} {B : Nat} {R : RS} {x2 : Int32} {x4 : Int32} {x5 : Int32} {x6 : Int32} {t : Unit ⊕ Unit} (hB : RB τ B) (hk0 : ∀ z : Unit, (Sum.inl z) = t → V Γ MD_M_isFirst σ0 r (emb τ B R) 103 [] []) (hk1 : ∀ z : Unit, (Sum.inr z) = t → V Γ MD_M_isFirst σ0 r (emb τ B R) 111 [] []) : ∀ q : Int32, lp (fun q => M_isFirst_l78 R x2 x4 x5 x6 q) q = some t → V Γ MD_M_isFirst σ0 r (emb τ B R) 78 [(0, va_rf (some B)), (2, .int x2), (4, .int x4), (5, .int x5), (6, .int x6), (7, .int q)] [] := by
  refine lp_ind (fun (q : Int32) => V Γ MD_M_isFirst σ0 r (emb τ B R) 78 [(0, va_rf (some B)), (2, .int x2), (4, .int x4), (5, .int x5), (6, .int x6), (7, .int q)] []) (fun q x hf ih ho => ?_)
  revert hf ih
  generalize q = x7
  intro hf ih
  show V Γ MD_M_isFirst σ0 r (emb τ B R) 78 [(0, va_rf (some B)), (2, .int x2), (4, .int x4), (5, .int x5), (6, .int x6), (7, .int x7)] []
  replace hf : M_isFirst_l78 R x2 x4 x5 x6 x7 = some x := hf
  unfold M_isFirst_l78 at hf
  refine r_iload 5 dX12_isFirst_78 rfl ?_
  refine r_iload 2 dX12_isFirst_80 rfl ?_
  refine r_icmp_ge 111 hf dX12_isFirst_82 (by decide) (fun c11 hf => ?_) (fun c11 hf => ?_)
  · refine r_sub (L' := []) [] rfl ?_
    exact hk1 _ (ho _ (Option.some.inj hf).symm)
  · refine r_aload_n 0 dX12_isFirst_85 rfl rfl ?_
    refine r_iload 4 dX12_isFirst_86 rfl ?_
    refine r_iload_n 1 dX12_isFirst_88 rfl rfl ?_
    refine bnd hf (fun v12 ev12 hf => ?_)
    refine r_callSr dX12_isFirst_89 cs_RX12_189 ww_1276 (by decide) rfl (rest := [_]) rfl (Or.inl (Nat.le_of_ble_eq_true rfl)) (t_M_base ev12) ?_
    refine r_iload 5 dX12_isFirst_92 rfl ?_
    refine r_iadd dX12_isFirst_94 ?_
    refine r_iload 3 dX12_isFirst_95 rfl ?_
    refine bnd hf (fun v13 ev13 hf => ?_)
    refine r_callVr (ci := 12) rfl dX12_isFirst_97 cs_RX12_406 ww_1512 ww_84 (by decide) (hB.t0 _) (by decide) rfl (rest := []) rfl (Or.inl (Nat.le_of_ble_eq_true rfl)) (t_M_areAlike hB ev13) ?_
    refine r_ifeqZ 105 hf dX12_isFirst_100 (by decide) (fun c14 hf => ?_) (fun c14 hf => ?_)
    · refine r_sub (L' := []) [] rfl ?_
      exact hk0 _ (ho _ (Option.some.inj hf).symm)
    · refine r_iinc (1 : Int32) (L' := [(7, _), (0, _), (2, _), (4, _), (5, _), (6, _)]) 5 dX12_isFirst_105 rfl (by decide) (show 7 < 8 by decide) rfl ?_
      refine r_goto 78 dX12_isFirst_108 (by decide) ?_
      refine r_sub (L' := [(0, _), (2, _), (4, _), (5, _), (6, _), (7, _)]) [1, 2, 3, 4, 5, 0] rfl ?_
      exact ih _ (Option.some.inj hf).symm
set_option maxRecDepth 100000 in
set_option maxHeartbeats 4000000 in
theorem t_M_isFirst {Γ : W0} {τ : Mem} {B : Nat} {R : RS} {x1 : Int32} {x2 : Int32} {x3 : Int32} {x4 : Int32} {v : Bool} (hB : RB τ B) (hf : M_isFirst R x1 x2 x3 x4 = some v) : CT Γ MD_M_isFirst yX12_isFirst [va_rf (some B), .int x1, .int x2, .int x3, .int x4] (emb τ B R) (some (.int (b2i v)), (emb τ B R)) := by
  refine CT.of (L := [(0, va_rf (some B)), (1, .int x1), (2, .int x2), (3, .int x3), (4, .int x4)]) rfl (by decide) (fun h => Bool.noConfusion (show false = true from h)) (Nat.le_of_ble_eq_true rfl) rfl ?_
  unfold M_isFirst at hf
  generalize hr : mkR Γ (emb τ B R) (some (.int (b2i v))) (emb τ B R) = r
  refine r_aload_n 0 dX12_isFirst_0 rfl rfl ?_
  refine rr_ldR (c := 14) hB dX12_isFirst_1 fl_RX12_54 rfl rfl (by decide) ?_
  refine r_sipush (400 : Int32) dX12_isFirst_4 (by decide) ?_
  refine r_iload_n 1 dX12_isFirst_7 rfl rfl ?_
  refine r_imul dX12_isFirst_8 ?_
  refine r_iload_n 3 dX12_isFirst_9 rfl rfl ?_
  refine r_iadd dX12_isFirst_10 ?_
  refine rr_raI hf hB dX12_isFirst_11 (by decide) rfl (fun v1 ev1 hf => ?_)
  refine r_iload_n 2 dX12_isFirst_12 rfl rfl ?_
  refine bnd hf (fun v2 ev2 hf => ?_)
  refine r_callSr dX12_isFirst_13 cs_RX12_189 ww_1276 (by decide) rfl (rest := []) rfl (Or.inl (Nat.le_of_ble_eq_true rfl)) (t_M_base ev2) ?_
  refine r_iload 4 dX12_isFirst_16 rfl ?_
  refine r_iadd dX12_isFirst_18 ?_
  refine r_istore (L' := [(5, _), (0, _), (1, _), (2, _), (3, _), (4, _)]) dX12_isFirst_19 (show 5 < 8 by decide) rfl ?_
  refine r_iconst (0 : Int32) dX12_isFirst_21 (by decide) ?_
  refine r_istore (L' := [(6, _), (5, _), (0, _), (1, _), (2, _), (3, _), (4, _)]) dX12_isFirst_22 (show 6 < 8 by decide) rfl ?_
  refine bnd hf (fun t7 et7 hf => ?_)
  refine r_sub (L' := [(0, _), (1, _), (2, _), (3, _), (4, _), (5, _), (6, _)]) [2, 3, 4, 5, 6, 1, 0] rfl ?_
  refine x_M_isFirst_l24 hB ?_ ?_ _ et7
  · intro z8 hz8
    subst hz8
    simp only [se] at hf
    refine r_iconst (b2i false) dX12_isFirst_53 rfl ?_
    exact r_zret rfl dX12_isFirst_54 (by have h1 := (Option.some.inj hf); subst h1; exact hr.symm)
  · intro z9 hz9
    subst hz9
    simp only [se] at hf
    refine r_aload_n 0 dX12_isFirst_61 rfl rfl ?_
    refine rr_ldR (c := 14) hB dX12_isFirst_62 fl_RX12_54 rfl rfl (by decide) ?_
    refine r_sipush (400 : Int32) dX12_isFirst_65 (by decide) ?_
    refine r_iload_n 1 dX12_isFirst_68 rfl rfl ?_
    refine r_imul dX12_isFirst_69 ?_
    refine r_iload_n 3 dX12_isFirst_70 rfl rfl ?_
    refine r_iadd dX12_isFirst_71 ?_
    refine rr_raI hf hB dX12_isFirst_72 (by decide) rfl (fun v10 ev10 hf => ?_)
    refine r_istore (L' := [(6, _), (0, _), (1, _), (2, _), (3, _), (4, _), (5, _)]) dX12_isFirst_73 (show 6 < 8 by decide) rfl ?_
    refine r_iconst (0 : Int32) dX12_isFirst_75 (by decide) ?_
    refine r_istore (L' := [(7, _), (6, _), (0, _), (1, _), (2, _), (3, _), (4, _), (5, _)]) dX12_isFirst_76 (show 7 < 8 by decide) rfl ?_
    refine bnd hf (fun t15 et15 hf => ?_)
    refine r_sub (L' := [(0, _), (2, _), (4, _), (5, _), (6, _), (7, _)]) [2, 4, 6, 7, 1, 0] rfl ?_
    refine x_M_isFirst_l78 hB ?_ ?_ _ et15
    · intro z16 hz16
      subst hz16
      simp only [se] at hf
      refine r_iconst (b2i false) dX12_isFirst_103 rfl ?_
      exact r_zret rfl dX12_isFirst_104 (by have h1 := (Option.some.inj hf); subst h1; exact hr.symm)
    · intro z17 hz17
      subst hz17
      simp only [se] at hf
      refine r_iconst (b2i true) dX12_isFirst_111 rfl ?_
      exact r_zret rfl dX12_isFirst_112 (by have h1 := (Option.some.inj hf); subst h1; exact hr.symm)
