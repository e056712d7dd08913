/-! methods as functions, with their walks (by program) -/
/-! SearchEngineModel.differentTerms -/
noncomputable def M_differentTerms_l34 (R : RS) (x1 : Int32) (x2 : Int32) (x3 : Int32) (x4 : Int32) (x5 : Int32) (x6 : Int32) : Option ((Int32 × Int32) ⊕ Int32) :=
  (rdI R 6 800 (((2 : Int32) * x5) + x2)).bind fun v4 =>
  if v4 ≤ x6 then
    some (Sum.inr x3)
  else
    (M_base x5 x2).bind fun v6 =>
    (rdI R 9 100000 (v6 + x6)).bind fun v7 =>
    Option.bind (
      if v7 ≤ 0 then
        some x3
      else
        (M_isFirst R x1 x2 x4 x6).bind fun v10 =>
        if v10 = true then
          some (x3 + (1 : Int32))
        else
          some x3) fun q8 =>
    some (Sum.inl (q8, (x6 + (1 : Int32))))
noncomputable def M_differentTerms_l5 (R : RS) (x1 : Int32) (x2 : Int32) (x3 : Int32) (x4 : Int32) : Option ((Int32 × Int32) ⊕ Int32) :=
  (rdI R 13 420 x1).bind fun v1 =>
  if v1 ≤ x4 then
    some (Sum.inr x3)
  else
    (rdI R 14 168000 (((400 : Int32) * x1) + x4)).bind fun v3 =>
    (lp (fun q => M_differentTerms_l34 R x1 x2 q.1 x4 v3 q.2) (x3, (0 : Int32))).bind fun z13 =>
    some (Sum.inl (z13, (x4 + (1 : Int32))))
noncomputable def M_differentTerms (R : RS) (x1 : Int32) (x2 : Int32) : Option Int32 :=
  (lp (fun q => M_differentTerms_l5 R x1 x2 q.1 q.2) ((0 : Int32), (0 : Int32))).bind fun z15 =>
  some z15
set_option maxRecDepth 100000 in
set_option maxHeartbeats 4000000 in
theorem x_M_differentTerms_l34 {Γ : W0} {σ0 : Mem} {r : RT} {τ : Mem} {B : Nat} {R : RS} {x1 : Int32} {x2 : Int32} {x4 : Int32} {x5 : Int32} {t : Int32} (hB : RB τ B) (hk0 : ∀ z : Int32, z = t → V Γ MD_M_differentTerms σ0 r (emb τ B R) 93 [(0, va_rf (some B)), (1, .int x1), (2, .int x2), (3, .int z), (4, .int x4)] []) : ∀ q : Int32 × Int32, lp (fun q => M_differentTerms_l34 R x1 x2 q.1 x4 x5 q.2) q = some t → V Γ MD_M_differentTerms σ0 r (emb τ B R) 34 [(0, va_rf (some B)), (1, .int x1), (2, .int x2), (3, .int q.1), (4, .int x4), (5, .int x5), (6, .int q.2)] [] := by
  refine lp_ind (fun (q : Int32 × Int32) => V Γ MD_M_differentTerms σ0 r (emb τ B R) 34 [(0, va_rf (some B)), (1, .int x1), (2, .int x2), (3, .int q.1), (4, .int x4), (5, .int x5), (6, .int q.2)] []) (fun q x hf ih ho => ?_)
  obtain ⟨x3, x6⟩ := q
  show V Γ MD_M_differentTerms σ0 r (emb τ B R) 34 [(0, va_rf (some B)), (1, .int x1), (2, .int x2), (3, .int x3), (4, .int x4), (5, .int x5), (6, .int x6)] []
  replace hf : M_differentTerms_l34 R x1 x2 x3 x4 x5 x6 = some x := hf
  unfold M_differentTerms_l34 at hf
  refine r_iload 6 dX12_differentTerms_34 rfl ?_
  refine r_aload_n 0 dX12_differentTerms_36 rfl rfl ?_
  refine rr_ldR (c := 6) hB dX12_differentTerms_37 fl_RX12_27 rfl rfl (by decide) ?_
  refine r_iconst (2 : Int32) dX12_differentTerms_40 (by decide) ?_
  refine r_iload 5 dX12_differentTerms_41 rfl ?_
  refine r_imul dX12_differentTerms_43 ?_
  refine r_iload_n 2 dX12_differentTerms_44 rfl rfl ?_
  refine r_iadd dX12_differentTerms_45 ?_
  refine rr_raI hf hB dX12_differentTerms_46 (by decide) rfl (fun v4 ev4 hf => ?_)
  refine r_icmp_ge 93 hf dX12_differentTerms_47 (by decide) (fun c5 hf => ?_) (fun c5 hf => ?_)
  · refine r_sub (L' := [(0, _), (1, _), (2, _), (3, _), (4, _)]) [0, 1, 2, 3, 4] rfl ?_
    exact hk0 _ (ho _ (Option.some.inj hf).symm)
  · refine r_iload 5 dX12_differentTerms_50 rfl ?_
    refine r_iload_n 2 dX12_differentTerms_52 rfl rfl ?_
    refine bnd hf (fun v6 ev6 hf => ?_)
    refine r_callSr dX12_differentTerms_53 cs_RX12_189 ww_1276 (by decide) rfl (rest := []) rfl (Or.inl (Nat.le_of_ble_eq_true rfl)) (t_M_base ev6) ?_
    refine r_iload 6 dX12_differentTerms_56 rfl ?_
    refine r_iadd dX12_differentTerms_58 ?_
    refine r_istore (L' := [(7, _), (0, _), (1, _), (2, _), (3, _), (4, _), (5, _), (6, _)]) dX12_differentTerms_59 (show 7 < 8 by decide) rfl ?_
    refine r_aload_n 1 dX12_differentTerms_61 rfl rfl ?_
    refine rr_ldR (c := 9) hB dX12_differentTerms_62 fl_RX12_37 rfl rfl (by decide) ?_
    refine r_iload 0 dX12_differentTerms_65 rfl ?_
    refine rr_raI hf hB dX12_differentTerms_67 (by decide) rfl (fun v7 ev7 hf => ?_)
    refine r_bd (fun (q8 : Int32) => V Γ MD_M_differentTerms σ0 r (emb τ B R) 87 [(0, va_rf (some B)), (1, .int x1), (2, .int x2), (3, .int q8), (4, .int x4), (5, .int x5), (6, .int x6)] []) hf (fun q8 hf => ?_) (fun yq8 hf kq8 => ?_)
    · refine r_iinc (1 : Int32) (L' := [(6, _), (0, _), (1, _), (2, _), (3, _), (4, _), (5, _)]) 6 dX12_differentTerms_87 rfl (by decide) (show 6 < 8 by decide) rfl ?_
      refine r_goto 34 dX12_differentTerms_90 (by decide) ?_
      refine r_sub (L' := [(0, _), (1, _), (2, _), (3, _), (4, _), (5, _), (6, _)]) [1, 2, 3, 4, 5, 6, 0] rfl ?_
      exact ih _ (Option.some.inj hf).symm
    · refine r_if_le 87 hf dX12_differentTerms_68 (by decide) (fun c9 hf => ?_) (fun c9 hf => ?_)
      · refine r_sub (L' := [(0, _), (1, _), (2, _), (3, _), (4, _), (5, _), (6, _)]) [1, 2, 3, 4, 5, 6, 7] rfl ?_
        cases (Option.some.inj hf)
        exact kq8
      · refine r_aload_n 1 dX12_differentTerms_71 rfl rfl ?_
        refine r_iload_n 2 dX12_differentTerms_72 rfl rfl ?_
        refine r_iload_n 3 dX12_differentTerms_73 rfl rfl ?_
        refine r_iload 5 dX12_differentTerms_74 rfl ?_
        refine r_iload 7 dX12_differentTerms_76 rfl ?_
        refine bnd hf (fun v10 ev10 hf => ?_)
        refine r_callVr (ci := 12) rfl dX12_differentTerms_78 cs_RX12_427 ww_1540 ww_89 (by decide) (hB.t0 _) (by decide) rfl (rest := []) rfl (Or.inl (Nat.le_of_ble_eq_true rfl)) (t_M_isFirst hB ev10) ?_
        refine r_ifeqZ 87 hf dX12_differentTerms_81 (by decide) (fun c11 hf => ?_) (fun c11 hf => ?_)
        · refine r_iinc (1 : Int32) (L' := [(3, _), (7, _), (0, _), (1, _), (2, _), (4, _), (5, _), (6, _)]) 4 dX12_differentTerms_84 rfl (by decide) (show 3 < 8 by decide) rfl ?_
          refine r_sub (L' := [(0, _), (1, _), (2, _), (3, _), (4, _), (5, _), (6, _)]) [2, 3, 4, 0, 5, 6, 7] rfl ?_
          cases (Option.some.inj hf)
          exact kq8
        · refine r_sub (L' := [(0, _), (1, _), (2, _), (3, _), (4, _), (5, _), (6, _)]) [1, 2, 3, 4, 5, 6, 7] rfl ?_
          cases (Option.some.inj hf)
          exact kq8
set_option maxRecDepth 100000 in
set_option maxHeartbeats 4000000 in
theorem x_M_differentTerms_l5 {Γ : W0} {σ0 : Mem} {r : RT} {τ : Mem} {B : Nat} {R : RS} {x1 : Int32} {x2 : Int32} {t : Int32} (hB : RB τ B) (hk0 : ∀ z : Int32, z = t → V Γ MD_M_differentTerms σ0 r (emb τ B R) 99 [(3, .int z)] []) : ∀ q : Int32 × Int32, lp (fun q => M_differentTerms_l5 R x1 x2 q.1 q.2) q = some t → V Γ MD_M_differentTerms σ0 r (emb τ B R) 5 [(0, va_rf (some B)), (1, .int x1), (2, .int x2), (3, .int q.1), (4, .int q.2)] [] := by
  refine lp_ind (fun (q : Int32 × Int32) => V Γ MD_M_differentTerms σ0 r (emb τ B R) 5 [(0, va_rf (some B)), (1, .int x1), (2, .int x2), (3, .int q.1), (4, .int q.2)] []) (fun q x hf ih ho => ?_)
  obtain ⟨x3, x4⟩ := q
  show V Γ MD_M_differentTerms σ0 r (emb τ B R) 5 [(0, va_rf (some B)), (1, .int x1), (2, .int x2), (3, .int x3), (4, .int x4)] []
  replace hf : M_differentTerms_l5 R x1 x2 x3 x4 = some x := hf
  unfold M_differentTerms_l5 at hf
  refine r_iload 4 dX12_differentTerms_5 rfl ?_
  refine r_aload_n 0 dX12_differentTerms_7 rfl rfl ?_
  refine rr_ldR (c := 13) hB dX12_differentTerms_8 fl_RX12_50 rfl rfl (by decide) ?_
  refine r_iload_n 1 dX12_differentTerms_11 rfl rfl ?_
  refine rr_raI hf hB dX12_differentTerms_12 (by decide) rfl (fun v1 ev1 hf => ?_)
  refine r_icmp_ge 99 hf dX12_differentTerms_13 (by decide) (fun c2 hf => ?_) (fun c2 hf => ?_)
  · refine r_sub (L' := [(3, _)]) [3] rfl ?_
    exact hk0 _ (ho _ (Option.some.inj hf).symm)
  · refine r_aload_n 0 dX12_differentTerms_16 rfl rfl ?_
    refine rr_ldR (c := 14) hB dX12_differentTerms_17 fl_RX12_54 rfl rfl (by decide) ?_
    refine r_sipush (400 : Int32) dX12_differentTerms_20 (by decide) ?_
    refine r_iload_n 1 dX12_differentTerms_23 rfl rfl ?_
    refine r_imul dX12_differentTerms_24 ?_
    refine r_iload 4 dX12_differentTerms_25 rfl ?_
    refine r_iadd dX12_differentTerms_27 ?_
    refine rr_raI hf hB dX12_differentTerms_28 (by decide) rfl (fun v3 ev3 hf => ?_)
    refine r_istore (L' := [(5, _), (0, _), (1, _), (2, _), (3, _), (4, _)]) dX12_differentTerms_29 (show 5 < 8 by decide) rfl ?_
    refine r_iconst (0 : Int32) dX12_differentTerms_31 (by decide) ?_
    refine r_istore (L' := [(6, _), (5, _), (0, _), (1, _), (2, _), (3, _), (4, _)]) dX12_differentTerms_32 (show 6 < 8 by decide) rfl ?_
    refine bnd hf (fun t12 et12 hf => ?_)
    refine r_sub (L' := [(0, _), (1, _), (2, _), (3, _), (4, _), (5, _), (6, _)]) [2, 3, 4, 5, 6, 1, 0] rfl ?_
    refine x_M_differentTerms_l34 hB ?_ _ et12
    · intro z13 hz13
      subst hz13
      refine r_iinc (1 : Int32) (L' := [(4, _), (0, _), (1, _), (2, _), (3, _)]) 4 dX12_differentTerms_93 rfl (by decide) (show 4 < 8 by decide) rfl ?_
      refine r_goto 5 dX12_differentTerms_96 (by decide) ?_
      refine r_sub (L' := [(0, _), (1, _), (2, _), (3, _), (4, _)]) [1, 2, 3, 4, 0] rfl ?_
      exact ih _ (Option.some.inj hf).symm
set_option maxRecDepth 100000 in
set_option maxHeartbeats 4000000 in
theorem t_M_differentTerms {Γ : W0} {τ : Mem} {B : Nat} {R : RS} {x1 : Int32} {x2 : Int32} {v : Int32} (hB : RB τ B) (hf : M_differentTerms R x1 x2 = some v) : CT Γ MD_M_differentTerms yX12_differentTerms [va_rf (some B), .int x1, .int x2] (emb τ B R) (some (.int v), (emb τ B R)) := by
  refine CT.of (L := [(0, va_rf (some B)), (1, .int x1), (2, .int x2)]) rfl (by decide) (fun h => Bool.noConfusion (show false = true from h)) (Nat.le_of_ble_eq_true rfl) rfl ?_
  unfold M_differentTerms at hf
  generalize hr : mkR Γ (emb τ B R) (some (.int v)) (emb τ B R) = r
  refine r_iconst (0 : Int32) dX12_differentTerms_0 (by decide) ?_
  refine r_istore_n (L' := [(3, _), (0, _), (1, _), (2, _)]) dX12_differentTerms_1 rfl (show 3 < 8 by decide) rfl ?_
  refine r_iconst (0 : Int32) dX12_differentTerms_2 (by decide) ?_
  refine r_istore (L' := [(4, _), (3, _), (0, _), (1, _), (2, _)]) dX12_differentTerms_3 (show 4 < 8 by decide) rfl ?_
  refine bnd hf (fun t14 et14 hf => ?_)
  refine r_sub (L' := [(0, _), (1, _), (2, _), (3, _), (4, _)]) [2, 3, 4, 1, 0] rfl ?_
  refine x_M_differentTerms_l5 hB ?_ _ et14
  · intro z15 hz15
    subst hz15
    refine r_iload_n 0 dX12_differentTerms_99 rfl rfl ?_
    exact r_iret rfl dX12_differentTerms_100 (by have h1 := (Option.some.inj hf); subst h1; exact hr.symm)
/-! SearchEngineModel.segment -/
noncomputable def M_segment_l70 (R : RS) (x1 : Int32) (x3 : Int32) (x4 : Int32) : Option ((Int32 × Int32) ⊕ Int32) :=
  (rdI R 13 420 x1).bind fun v8 =>
  if v8 ≤ x4 then
    some (Sum.inr x3)
  else
    (rdI R 14 168000 (((400 : Int32) * x1) + x4)).bind fun v10 =>
    (rdB R 5 400 v10).bind fun v11 =>
    Option.bind (
      if v11 = true then
        some (1 : Int32)
      else
        some (0 : Int32)) fun q12 =>
    some (Sum.inl ((x3 + q12), (x4 + (1 : Int32))))
noncomputable def M_segment (R : RS) (x1 : Int32) (x2 : Int32) : Option Int32 :=
  (M_in x2 (0 : Int32) (4 : Int32)).bind fun v1 =>
  if v1 = true then
    (M_in x1 (0 : Int32) ((R.1 0 16) - (1 : Int32))).bind fun v3 =>
    if v3 = true then
      if ¬ x2 = 0 then
        if ¬ x2 = (1 : Int32) then
          if x2 ≤ (2 : Int32) then
            (lp (fun q => M_segment_l70 R x1 q.1 q.2) ((0 : Int32), (0 : Int32))).bind fun z15 =>
            some z15
          else
            (M_differentTerms R x1 (x2 - (3 : Int32))).bind fun v16 =>
            some v16
        else
          (rdI R 13 420 x1).bind fun v17 =>
          some v17
      else
        (rdI R 12 420 x1).bind fun v18 =>
        some v18
    else
      some (-1 : Int32)
  else
    some (-2 : Int32)
set_option maxRecDepth 100000 in
set_option maxHeartbeats 4000000 in
theorem x_M_segment_l70 {Γ : W0} {σ0 : Mem} {r : RT} {τ : Mem} {B : Nat} {R : RS} {x1 : Int32} {t : Int32} (hB : RB τ B) (hk0 : ∀ z : Int32, z = t → V Γ MD_M_segment σ0 r (emb τ B R) 116 [(3, .int z)] []) : ∀ q : Int32 × Int32, lp (fun q => M_segment_l70 R x1 q.1 q.2) q = some t → V Γ MD_M_segment σ0 r (emb τ B R) 70 [(0, va_rf (some B)), (1, .int x1), (3, .int q.1), (4, .int q.2)] [] := by
  refine lp_ind (fun (q : Int32 × Int32) => V Γ MD_M_segment σ0 r (emb τ B R) 70 [(0, va_rf (some B)), (1, .int x1), (3, .int q.1), (4, .int q.2)] []) (fun q x hf ih ho => ?_)
  obtain ⟨x3, x4⟩ := q
  show V Γ MD_M_segment σ0 r (emb τ B R) 70 [(0, va_rf (some B)), (1, .int x1), (3, .int x3), (4, .int x4)] []
  replace hf : M_segment_l70 R x1 x3 x4 = some x := hf
  unfold M_segment_l70 at hf
  refine r_iload 3 dX12_segment_70 rfl ?_
  refine r_aload_n 0 dX12_segment_72 rfl rfl ?_
  refine rr_ldR (c := 13) hB dX12_segment_73 fl_RX12_50 rfl rfl (by decide) ?_
  refine r_iload_n 1 dX12_segment_76 rfl rfl ?_
  refine rr_raI hf hB dX12_segment_77 (by decide) rfl (fun v8 ev8 hf => ?_)
  refine r_icmp_ge 116 hf dX12_segment_78 (by decide) (fun c9 hf => ?_) (fun c9 hf => ?_)
  · refine r_sub (L' := [(3, _)]) [2] rfl ?_
    exact hk0 _ (ho _ (Option.some.inj hf).symm)
  · refine r_iload_n 2 dX12_segment_81 rfl rfl ?_
    refine r_aload_n 0 dX12_segment_82 rfl rfl ?_
    refine rr_ldR (c := 5) hB dX12_segment_83 fl_RX12_23 rfl rfl (by decide) ?_
    refine r_aload_n 0 dX12_segment_86 rfl rfl ?_
    refine rr_ldR (c := 14) hB dX12_segment_87 fl_RX12_54 rfl rfl (by decide) ?_
    refine r_sipush (400 : Int32) dX12_segment_90 (by decide) ?_
    refine r_iload_n 1 dX12_segment_93 rfl rfl ?_
    refine r_imul dX12_segment_94 ?_
    refine r_iload 3 dX12_segment_95 rfl ?_
    refine r_iadd dX12_segment_97 ?_
    refine rr_raI hf hB dX12_segment_98 (by decide) rfl (fun v10 ev10 hf => ?_)
    refine rr_raB hf hB dX12_segment_99 (by decide) rfl (fun v11 ev11 hf => ?_)
    refine r_bd (fun (q12 : Int32) => V Γ MD_M_segment σ0 r (emb τ B R) 108 [(0, va_rf (some B)), (1, .int x1), (4, .int x4)] [.int q12, .int x3]) hf (fun q12 hf => ?_) (fun yq12 hf kq12 => ?_)
    · refine r_iadd dX12_segment_108 ?_
      refine r_istore_n (L' := [(3, _), (0, _), (1, _), (4, _)]) dX12_segment_109 rfl (show 3 < 5 by decide) rfl ?_
      refine r_iinc (1 : Int32) (L' := [(4, _), (3, _), (0, _), (1, _)]) 3 dX12_segment_110 rfl (by decide) (show 4 < 5 by decide) rfl ?_
      refine r_goto 70 dX12_segment_113 (by decide) ?_
      refine r_sub (L' := [(0, _), (1, _), (3, _), (4, _)]) [2, 3, 1, 0] rfl ?_
      exact ih _ (Option.some.inj hf).symm
    · refine r_ifeqZ 107 hf dX12_segment_100 (by decide) (fun c13 hf => ?_) (fun c13 hf => ?_)
      · refine r_iconst (1 : Int32) dX12_segment_103 (by decide) ?_
        refine r_goto 108 dX12_segment_104 (by decide) ?_
        refine r_sub (L' := [(0, _), (1, _), (4, _)]) [0, 1, 3] rfl ?_
        cases (Option.some.inj hf)
        exact kq12
      · refine r_iconst (0 : Int32) dX12_segment_107 (by decide) ?_
        refine r_sub (L' := [(0, _), (1, _), (4, _)]) [0, 1, 3] rfl ?_
        cases (Option.some.inj hf)
        exact kq12
set_option maxRecDepth 100000 in
set_option maxHeartbeats 4000000 in
theorem t_M_segment {Γ : W0} {τ : Mem} {B : Nat} {R : RS} {x1 : Int32} {x2 : Int32} {v : Int32} (hB : RB τ B) (hf : M_segment R x1 x2 = some v) : CT Γ MD_M_segment yX12_segment [va_rf (some B), .int x1, .int x2] (emb τ B R) (some (.int v), (emb τ B R)) := by
  refine CT.of (L := [(0, va_rf (some B)), (1, .int x1), (2, .int x2)]) rfl (by decide) (fun h => Bool.noConfusion (show false = true from h)) (Nat.le_of_ble_eq_true rfl) rfl ?_
  unfold M_segment at hf
  generalize hr : mkR Γ (emb τ B R) (some (.int v)) (emb τ B R) = r
  refine r_iload_n 2 dX12_segment_0 rfl rfl ?_
  refine r_iconst (0 : Int32) dX12_segment_1 (by decide) ?_
  refine r_iconst (4 : Int32) dX12_segment_2 (by decide) ?_
  refine bnd hf (fun v1 ev1 hf => ?_)
  refine r_callSr dX12_segment_3 cs_RX12_164 ww_1258 (by decide) rfl (rest := []) rfl (Or.inl (Nat.le_of_ble_eq_true rfl)) (t_M_in ev1) ?_
  refine r_ifneZ 12 hf dX12_segment_6 (by decide) (fun c2 hf => ?_) (fun c2 hf => ?_)
  · refine r_iload_n 1 dX12_segment_12 rfl rfl ?_
    refine r_iconst (0 : Int32) dX12_segment_13 (by decide) ?_
    refine r_aload_n 0 dX12_segment_14 rfl rfl ?_
    refine rr_ldI (k := 16) hB dX12_segment_15 fl_RX12_217 rfl ?_
    refine r_iconst (1 : Int32) dX12_segment_18 (by decide) ?_
    refine r_isub dX12_segment_19 ?_
    refine bnd hf (fun v3 ev3 hf => ?_)
    refine r_callSr dX12_segment_20 cs_RX12_164 ww_1258 (by decide) rfl (rest := []) rfl (Or.inl (Nat.le_of_ble_eq_true rfl)) (t_M_in ev3) ?_
    refine r_ifneZ 28 hf dX12_segment_23 (by decide) (fun c4 hf => ?_) (fun c4 hf => ?_)
    · refine r_iload_n 2 dX12_segment_28 rfl rfl ?_
      refine r_if_ne 39 hf dX12_segment_29 (by decide) (fun c5 hf => ?_) (fun c5 hf => ?_)
      · refine r_iload_n 2 dX12_segment_39 rfl rfl ?_
        refine r_iconst (1 : Int32) dX12_segment_40 (by decide) ?_
        refine r_icmp_ne 51 hf dX12_segment_41 (by decide) (fun c6 hf => ?_) (fun c6 hf => ?_)
        · refine r_iload_n 2 dX12_segment_51 rfl rfl ?_
          refine r_iconst (2 : Int32) dX12_segment_52 (by decide) ?_
          refine r_icmp_le 65 hf dX12_segment_53 (by decide) (fun c7 hf => ?_) (fun c7 hf => ?_)
          · refine r_iconst (0 : Int32) dX12_segment_65 (by decide) ?_
            refine r_istore_n (L' := [(3, _), (0, _), (1, _), (2, _)]) dX12_segment_66 rfl (show 3 < 5 by decide) rfl ?_
            refine r_iconst (0 : Int32) dX12_segment_67 (by decide) ?_
            refine r_istore (L' := [(4, _), (3, _), (0, _), (1, _), (2, _)]) dX12_segment_68 (show 4 < 5 by decide) rfl ?_
            refine bnd hf (fun t14 et14 hf => ?_)
            refine r_sub (L' := [(0, _), (1, _), (3, _), (4, _)]) [2, 3, 1, 0] rfl ?_
            refine x_M_segment_l70 hB ?_ _ et14
            · intro z15 hz15
              subst hz15
              refine r_iload_n 0 dX12_segment_116 rfl rfl ?_
              exact r_iret rfl dX12_segment_117 (by have h1 := (Option.some.inj hf); subst h1; exact hr.symm)
          · refine r_aload_n 0 dX12_segment_56 rfl rfl ?_
            refine r_iload_n 1 dX12_segment_57 rfl rfl ?_
            refine r_iload_n 2 dX12_segment_58 rfl rfl ?_
            refine r_iconst (3 : Int32) dX12_segment_59 (by decide) ?_
            refine r_isub dX12_segment_60 ?_
            refine bnd hf (fun v16 ev16 hf => ?_)
            refine r_callVr (ci := 12) rfl dX12_segment_61 cs_RX12_424 ww_1536 ww_88 (by decide) (hB.t0 _) (by decide) rfl (rest := []) rfl (Or.inl (Nat.le_of_ble_eq_true rfl)) (t_M_differentTerms hB ev16) ?_
            exact r_iret rfl dX12_segment_64 (by have h1 := (Option.some.inj hf); subst h1; exact hr.symm)
        · refine r_aload_n 0 dX12_segment_44 rfl rfl ?_
          refine rr_ldR (c := 13) hB dX12_segment_45 fl_RX12_50 rfl rfl (by decide) ?_
          refine r_iload_n 1 dX12_segment_48 rfl rfl ?_
          refine rr_raI hf hB dX12_segment_49 (by decide) rfl (fun v17 ev17 hf => ?_)
          exact r_iret rfl dX12_segment_50 (by have h1 := (Option.some.inj hf); subst h1; exact hr.symm)
      · refine r_aload_n 0 dX12_segment_32 rfl rfl ?_
        refine rr_ldR (c := 12) hB dX12_segment_33 fl_RX12_47 rfl rfl (by decide) ?_
        refine r_iload_n 1 dX12_segment_36 rfl rfl ?_
        refine rr_raI hf hB dX12_segment_37 (by decide) rfl (fun v18 ev18 hf => ?_)
        exact r_iret rfl dX12_segment_38 (by have h1 := (Option.some.inj hf); subst h1; exact hr.symm)
    · refine r_iconst (-1 : Int32) dX12_segment_26 (by decide) ?_
      exact r_iret rfl dX12_segment_27 (by have h1 := (Option.some.inj hf); subst h1; exact hr.symm)
  · refine r_bipush (-2 : Int32) dX12_segment_9 (by decide) ?_
    exact r_iret rfl dX12_segment_11 (by have h1 := (Option.some.inj hf); subst h1; exact hr.symm)
/-! SearchEngineModel.view -/
noncomputable def M_view_l48 (R : RS) (x1 : Int32) (x3 : Int32) (x4 : Int32) : Option ((Int32 × Int32) ⊕ Int32) :=
  (rdI R 17 4 x1).bind fun v7 =>
  if v7 ≤ x4 then
    some (Sum.inr x3)
  else
    (rdB R 19 1600 (((400 : Int32) * x1) + x4)).bind fun v9 =>
    Option.bind (
      if v9 = true then
        some (0 : Int32)
      else
        some (1 : Int32)) fun q10 =>
    some (Sum.inl ((x3 + q10), (x4 + (1 : Int32))))
noncomputable def M_view (R : RS) (x1 : Int32) (x2 : Int32) : Option Int32 :=
  (M_in x2 (0 : Int32) (2 : Int32)).bind fun v1 =>
  if v1 = true then
    (M_isView R x1).bind fun v3 =>
    if v3 = true then
      if ¬ x2 = 0 then
        if ¬ x2 = (1 : Int32) then
          (lp (fun q => M_view_l48 R x1 q.1 q.2) ((0 : Int32), (0 : Int32))).bind fun z13 =>
          some z13
        else
          (rdI R 17 4 x1).bind fun v14 =>
          some v14
      else
        (rdI R 16 4 x1).bind fun v15 =>
        some v15
    else
      some (-2 : Int32)
  else
    some (-2 : Int32)
set_option maxRecDepth 100000 in
set_option maxHeartbeats 4000000 in
theorem x_M_view_l48 {Γ : W0} {σ0 : Mem} {r : RT} {τ : Mem} {B : Nat} {R : RS} {x1 : Int32} {t : Int32} (hB : RB τ B) (hk0 : ∀ z : Int32, z = t → V Γ MD_M_view σ0 r (emb τ B R) 89 [(3, .int z)] []) : ∀ q : Int32 × Int32, lp (fun q => M_view_l48 R x1 q.1 q.2) q = some t → V Γ MD_M_view σ0 r (emb τ B R) 48 [(0, va_rf (some B)), (1, .int x1), (3, .int q.1), (4, .int q.2)] [] := by
  refine lp_ind (fun (q : Int32 × Int32) => V Γ MD_M_view σ0 r (emb τ B R) 48 [(0, va_rf (some B)), (1, .int x1), (3, .int q.1), (4, .int q.2)] []) (fun q x hf ih ho => ?_)
  obtain ⟨x3, x4⟩ := q
  show V Γ MD_M_view σ0 r (emb τ B R) 48 [(0, va_rf (some B)), (1, .int x1), (3, .int x3), (4, .int x4)] []
  replace hf : M_view_l48 R x1 x3 x4 = some x := hf
  unfold M_view_l48 at hf
  refine r_iload 3 dX12_view_48 rfl ?_
  refine r_aload_n 0 dX12_view_50 rfl rfl ?_
  refine rr_ldR (c := 17) hB dX12_view_51 fl_RX12_63 rfl rfl (by decide) ?_
  refine r_iload_n 1 dX12_view_54 rfl rfl ?_
  refine rr_raI hf hB dX12_view_55 (by decide) rfl (fun v7 ev7 hf => ?_)
  refine r_icmp_ge 89 hf dX12_view_56 (by decide) (fun c8 hf => ?_) (fun c8 hf => ?_)
  · refine r_sub (L' := [(3, _)]) [2] rfl ?_
    exact hk0 _ (ho _ (Option.some.inj hf).symm)
  · refine r_iload_n 2 dX12_view_59 rfl rfl ?_
    refine r_aload_n 0 dX12_view_60 rfl rfl ?_
    refine rr_ldR (c := 19) hB dX12_view_61 fl_RX12_69 rfl rfl (by decide) ?_
    refine r_sipush (400 : Int32) dX12_view_64 (by decide) ?_
    refine r_iload_n 1 dX12_view_67 rfl rfl ?_
    refine r_imul dX12_view_68 ?_
    refine r_iload 3 dX12_view_69 rfl ?_
    refine r_iadd dX12_view_71 ?_
    refine rr_raB hf hB dX12_view_72 (by decide) rfl (fun v9 ev9 hf => ?_)
    refine r_bd (fun (q10 : Int32) => V Γ MD_M_view σ0 r (emb τ B R) 81 [(0, va_rf (some B)), (1, .int x1), (4, .int x4)] [.int q10, .int x3]) hf (fun q10 hf => ?_) (fun yq10 hf kq10 => ?_)
    · refine r_iadd dX12_view_81 ?_
      refine r_istore_n (L' := [(3, _), (0, _), (1, _), (4, _)]) dX12_view_82 rfl (show 3 < 5 by decide) rfl ?_
      refine r_iinc (1 : Int32) (L' := [(4, _), (3, _), (0, _), (1, _)]) 3 dX12_view_83 rfl (by decide) (show 4 < 5 by decide) rfl ?_
      refine r_goto 48 dX12_view_86 (by decide) ?_
      refine r_sub (L' := [(0, _), (1, _), (3, _), (4, _)]) [2, 3, 1, 0] rfl ?_
      exact ih _ (Option.some.inj hf).symm
    · refine r_ifeqZ 80 hf dX12_view_73 (by decide) (fun c11 hf => ?_) (fun c11 hf => ?_)
      · refine r_iconst (0 : Int32) dX12_view_76 (by decide) ?_
        refine r_goto 81 dX12_view_77 (by decide) ?_
        refine r_sub (L' := [(0, _), (1, _), (4, _)]) [0, 1, 3] rfl ?_
        cases (Option.some.inj hf)
        exact kq10
      · refine r_iconst (1 : Int32) dX12_view_80 (by decide) ?_
        refine r_sub (L' := [(0, _), (1, _), (4, _)]) [0, 1, 3] rfl ?_
        cases (Option.some.inj hf)
        exact kq10
set_option maxRecDepth 100000 in
set_option maxHeartbeats 4000000 in
theorem t_M_view {Γ : W0} {τ : Mem} {B : Nat} {R : RS} {x1 : Int32} {x2 : Int32} {v : Int32} (hB : RB τ B) (hf : M_view R x1 x2 = some v) : CT Γ MD_M_view yX12_view [va_rf (some B), .int x1, .int x2] (emb τ B R) (some (.int v), (emb τ B R)) := by
  refine CT.of (L := [(0, va_rf (some B)), (1, .int x1), (2, .int x2)]) rfl (by decide) (fun h => Bool.noConfusion (show false = true from h)) (Nat.le_of_ble_eq_true rfl) rfl ?_
  unfold M_view at hf
  generalize hr : mkR Γ (emb τ B R) (some (.int v)) (emb τ B R) = r
  refine r_iload_n 2 dX12_view_0 rfl rfl ?_
  refine r_iconst (0 : Int32) dX12_view_1 (by decide) ?_
  refine r_iconst (2 : Int32) dX12_view_2 (by decide) ?_
  refine bnd hf (fun v1 ev1 hf => ?_)
  refine r_callSr dX12_view_3 cs_RX12_164 ww_1258 (by decide) rfl (rest := []) rfl (Or.inl (Nat.le_of_ble_eq_true rfl)) (t_M_in ev1) ?_
  refine r_ifeqZ 17 hf dX12_view_6 (by decide) (fun c2 hf => ?_) (fun c2 hf => ?_)
  · refine r_aload_n 0 dX12_view_9 rfl rfl ?_
    refine r_iload_n 1 dX12_view_10 rfl rfl ?_
    refine bnd hf (fun v3 ev3 hf => ?_)
    refine r_callVr (ci := 12) rfl dX12_view_11 cs_RX12_236 ww_1332 ww_48 (by decide) (hB.t0 _) (by decide) rfl (rest := []) rfl (Or.inl (Nat.le_of_ble_eq_true rfl)) (t_M_isView hB ev3) ?_
    refine r_ifneZ 20 hf dX12_view_14 (by decide) (fun c4 hf => ?_) (fun c4 hf => ?_)
    · refine r_iload_n 2 dX12_view_20 rfl rfl ?_
      refine r_if_ne 31 hf dX12_view_21 (by decide) (fun c5 hf => ?_) (fun c5 hf => ?_)
      · refine r_iload_n 2 dX12_view_31 rfl rfl ?_
        refine r_iconst (1 : Int32) dX12_view_32 (by decide) ?_
        refine r_icmp_ne 43 hf dX12_view_33 (by decide) (fun c6 hf => ?_) (fun c6 hf => ?_)
        · refine r_iconst (0 : Int32) dX12_view_43 (by decide) ?_
          refine r_istore_n (L' := [(3, _), (0, _), (1, _), (2, _)]) dX12_view_44 rfl (show 3 < 5 by decide) rfl ?_
          refine r_iconst (0 : Int32) dX12_view_45 (by decide) ?_
          refine r_istore (L' := [(4, _), (3, _), (0, _), (1, _), (2, _)]) dX12_view_46 (show 4 < 5 by decide) rfl ?_
          refine bnd hf (fun t12 et12 hf => ?_)
          refine r_sub (L' := [(0, _), (1, _), (3, _), (4, _)]) [2, 3, 1, 0] rfl ?_
          refine x_M_view_l48 hB ?_ _ et12
          · intro z13 hz13
            subst hz13
            refine r_iload_n 0 dX12_view_89 rfl rfl ?_
            exact r_iret rfl dX12_view_90 (by have h1 := (Option.some.inj hf); subst h1; exact hr.symm)
        · refine r_aload_n 0 dX12_view_36 rfl rfl ?_
          refine rr_ldR (c := 17) hB dX12_view_37 fl_RX12_63 rfl rfl (by decide) ?_
          refine r_iload_n 1 dX12_view_40 rfl rfl ?_
          refine rr_raI hf hB dX12_view_41 (by decide) rfl (fun v14 ev14 hf => ?_)
          exact r_iret rfl dX12_view_42 (by have h1 := (Option.some.inj hf); subst h1; exact hr.symm)
      · refine r_aload_n 0 dX12_view_24 rfl rfl ?_
        refine rr_ldR (c := 16) hB dX12_view_25 fl_RX12_60 rfl rfl (by decide) ?_
        refine r_iload_n 1 dX12_view_28 rfl rfl ?_
        refine rr_raI hf hB dX12_view_29 (by decide) rfl (fun v15 ev15 hf => ?_)
        exact r_iret rfl dX12_view_30 (by have h1 := (Option.some.inj hf); subst h1; exact hr.symm)
    · refine r_bipush (-2 : Int32) dX12_view_17 (by decide) ?_
      exact r_iret rfl dX12_view_19 (by have h1 := (Option.some.inj hf); subst h1; exact hr.symm)
  · refine r_bipush (-2 : Int32) dX12_view_17 (by decide) ?_
    exact r_iret rfl dX12_view_19 (by have h1 := (Option.some.inj hf); subst h1; exact hr.symm)
/-! SearchEngineModel.frequency -/
noncomputable def M_frequency_l66 (R : RS) (x1 : Int32) (x2 : Int32) (x4 : Int32) : Option ((Int32 × RS) ⊕ RS) :=
  if (R.1 0 38) ≤ x4 then
    some (Sum.inr R)
  else
    (rdI R 27 12 x4).bind fun v12 =>
    (wrI R 34 4800 x4 v12).bind fun R13 =>
    some (Sum.inl ((x4 + (1 : Int32)), R13))
noncomputable def M_frequency (R : RS) (x1 : Int32) (x2 : Int32) : Option (Int32 × RS) :=
  (some (pI R 3 (0 : Int32))).bind fun R1 =>
  (M_in x2 (0 : Int32) (1 : Int32)).bind fun v2 =>
  if v2 = true then
    (M_isView R1 x1).bind fun v4 =>
    if v4 = true then
      (M_isWord R1 (R.1 0 3)).bind fun v6 =>
      if v6 = true then
        (M_makeTerm R1 (0 : Int32) (R.1 0 3)).bind fun v8 =>
        if ¬ (v8.1 0 38) = 0 then
          (wrI v8 33 400 (0 : Int32) (v8.1 0 38)).bind fun R10 =>
          (lp (fun q => M_frequency_l66 q.2 x1 x2 q.1) ((0 : Int32), R10)).bind fun z15 =>
          (M_df z15 x1 x2 (0 : Int32)).bind fun v16 =>
          some (v16, z15)
        else
          some ((0 : Int32), v8)
      else
        some ((-2 : Int32), R1)
    else
      some ((-2 : Int32), R1)
  else
    some ((-2 : Int32), R1)
set_option maxRecDepth 100000 in
set_option maxHeartbeats 4000000 in
theorem x_M_frequency_l66 {Γ : W0} {σ0 : Mem} {r : RT} {τ : Mem} {B : Nat} {x1 : Int32} {x2 : Int32} {t : RS} (hB : RB τ B) (hk0 : ∀ z : RS, z = t → V Γ MD_M_frequency σ0 r (emb τ B z) 95 [(0, va_rf (some B)), (1, .int x1), (2, .int x2)] []) : ∀ q : Int32 × RS, lp (fun q => M_frequency_l66 q.2 x1 x2 q.1) q = some t → V Γ MD_M_frequency σ0 r (emb τ B q.2) 66 [(0, va_rf (some B)), (1, .int x1), (2, .int x2), (4, .int q.1)] [] := by
  refine lp_ind (fun (q : Int32 × RS) => V Γ MD_M_frequency σ0 r (emb τ B q.2) 66 [(0, va_rf (some B)), (1, .int x1), (2, .int x2), (4, .int q.1)] []) (fun q x hf ih ho => ?_)
  obtain ⟨x4, R⟩ := q
  show V Γ MD_M_frequency σ0 r (emb τ B R) 66 [(0, va_rf (some B)), (1, .int x1), (2, .int x2), (4, .int x4)] []
  replace hf : M_frequency_l66 R x1 x2 x4 = some x := hf
  unfold M_frequency_l66 at hf
  refine r_iload 3 dX12_frequency_66 rfl ?_
  refine r_aload_n 0 dX12_frequency_68 rfl rfl ?_
  refine rr_ldI (k := 38) hB dX12_frequency_69 fl_RX12_171 rfl ?_
  refine r_icmp_ge 95 hf dX12_frequency_72 (by decide) (fun c11 hf => ?_) (fun c11 hf => ?_)
  · refine r_sub (L' := [(0, _), (1, _), (2, _)]) [0, 1, 2] rfl ?_
    exact hk0 _ (ho _ (Option.some.inj hf).symm)
  · refine r_aload_n 0 dX12_frequency_75 rfl rfl ?_
    refine rr_ldR (c := 34) hB dX12_frequency_76 fl_RX12_121 rfl rfl (by decide) ?_
    refine r_iload 3 dX12_frequency_79 rfl ?_
    refine r_aload_n 0 dX12_frequency_81 rfl rfl ?_
    refine rr_ldR (c := 27) hB dX12_frequency_82 fl_RX12_100 rfl rfl (by decide) ?_
    refine r_iload 3 dX12_frequency_85 rfl ?_
    refine rr_raI hf hB dX12_frequency_87 (by decide) rfl (fun v12 ev12 hf => ?_)
    refine rr_waI hf hB dX12_frequency_88 (by decide) rfl (fun R13 eR13 hf => ?_)
    refine r_iinc (1 : Int32) (L' := [(4, _), (0, _), (1, _), (2, _)]) 3 dX12_frequency_89 rfl (by decide) (show 4 < 5 by decide) rfl ?_
    refine r_goto 66 dX12_frequency_92 (by decide) ?_
    refine r_sub (L' := [(0, _), (1, _), (2, _), (4, _)]) [1, 2, 3, 0] rfl ?_
    exact ih _ (Option.some.inj hf).symm
set_option maxRecDepth 100000 in
set_option maxHeartbeats 4000000 in
theorem t_M_frequency {Γ : W0} {τ : Mem} {B : Nat} {R : RS} {x1 : Int32} {x2 : Int32} {v : Int32} {R' : RS} (hB : RB τ B) (hf : M_frequency R x1 x2 = some (v, R')) : CT Γ MD_M_frequency yX12_frequency [va_rf (some B), .int x1, .int x2] (emb τ B R) (some (.int v), (emb τ B R')) := by
  refine CT.of (L := [(0, va_rf (some B)), (1, .int x1), (2, .int x2)]) rfl (by decide) (fun h => Bool.noConfusion (show false = true from h)) (Nat.le_of_ble_eq_true rfl) rfl ?_
  unfold M_frequency at hf
  generalize hr : mkR Γ (emb τ B R) (some (.int v)) (emb τ B R') = r
  refine r_aload_n 0 dX12_frequency_0 rfl rfl ?_
  refine rr_ldI (k := 3) hB dX12_frequency_1 fl_RX12_168 rfl ?_
  refine r_istore_n (L' := [(3, _), (0, _), (1, _), (2, _)]) dX12_frequency_4 rfl (show 3 < 5 by decide) rfl ?_
  refine r_aload_n 1 dX12_frequency_5 rfl rfl ?_
  refine r_iconst (0 : Int32) dX12_frequency_6 (by decide) ?_
  refine rr_stI hf hB dX12_frequency_7 fl_RX12_168 rfl rfl rfl (fun R1 eR1 hf => ?_)
  refine r_iload_n 3 dX12_frequency_10 rfl rfl ?_
  refine r_iconst (0 : Int32) dX12_frequency_11 (by decide) ?_
  refine r_iconst (1 : Int32) dX12_frequency_12 (by decide) ?_
  refine bnd hf (fun v2 ev2 hf => ?_)
  refine r_callSr dX12_frequency_13 cs_RX12_164 ww_1258 (by decide) rfl (rest := []) rfl (Or.inl (Nat.le_of_ble_eq_true rfl)) (t_M_in ev2) ?_
  refine r_ifeqZ 35 hf dX12_frequency_16 (by decide) (fun c3 hf => ?_) (fun c3 hf => ?_)
  · refine r_aload_n 1 dX12_frequency_19 rfl rfl ?_
    refine r_iload_n 2 dX12_frequency_20 rfl rfl ?_
    refine bnd hf (fun v4 ev4 hf => ?_)
    refine r_callVr (ci := 12) rfl dX12_frequency_21 cs_RX12_236 ww_1332 ww_48 (by decide) (hB.t0 _) (by decide) rfl (rest := []) rfl (Or.inl (Nat.le_of_ble_eq_true rfl)) (t_M_isView hB ev4) ?_
    refine r_ifeqZ 35 hf dX12_frequency_24 (by decide) (fun c5 hf => ?_) (fun c5 hf => ?_)
    · refine r_aload_n 1 dX12_frequency_27 rfl rfl ?_
      refine r_iload_n 0 dX12_frequency_28 rfl rfl ?_
      refine bnd hf (fun v6 ev6 hf => ?_)
      refine r_callVr (ci := 12) rfl dX12_frequency_29 cs_RX12_412 ww_1504 ww_82 (by decide) (hB.t0 _) (by decide) rfl (rest := []) rfl (Or.inl (Nat.le_of_ble_eq_true rfl)) (t_M_isWord hB ev6) ?_
      refine r_ifneZ 38 hf dX12_frequency_32 (by decide) (fun c7 hf => ?_) (fun c7 hf => ?_)
      · refine r_aload_n 1 dX12_frequency_38 rfl rfl ?_
        refine r_iconst (0 : Int32) dX12_frequency_39 (by decide) ?_
        refine r_iload_n 0 dX12_frequency_40 rfl rfl ?_
        refine bnd hf (fun v8 ev8 hf => ?_)
        refine r_callVv (ci := 12) rfl dX12_frequency_41 cs_RX12_193 ww_1280 ww_40 (by decide) (hB.t0 _) (by decide) rfl (rest := []) rfl (Or.inl (Nat.le_of_ble_eq_true rfl)) (t_M_makeTerm hB ev8) ?_
        refine r_aload_n 1 dX12_frequency_44 rfl rfl ?_
        refine rr_ldI (k := 38) hB dX12_frequency_45 fl_RX12_171 rfl ?_
        refine r_if_ne 53 hf dX12_frequency_48 (by decide) (fun c9 hf => ?_) (fun c9 hf => ?_)
        · refine r_aload_n 1 dX12_frequency_53 rfl rfl ?_
          refine rr_ldR (c := 33) hB dX12_frequency_54 fl_RX12_118 rfl rfl (by decide) ?_
          refine r_iconst (0 : Int32) dX12_frequency_57 (by decide) ?_
          refine r_aload_n 1 dX12_frequency_58 rfl rfl ?_
          refine rr_ldI (k := 38) hB dX12_frequency_59 fl_RX12_171 rfl ?_
          refine rr_waI hf hB dX12_frequency_62 (by decide) rfl (fun R10 eR10 hf => ?_)
          refine r_iconst (0 : Int32) dX12_frequency_63 (by decide) ?_
          refine r_istore (L' := [(4, _), (3, _), (0, _), (1, _), (2, _)]) dX12_frequency_64 (show 4 < 5 by decide) rfl ?_
          refine bnd hf (fun t14 et14 hf => ?_)
          refine r_sub (L' := [(0, _), (1, _), (2, _), (4, _)]) [2, 3, 4, 0] rfl ?_
          refine x_M_frequency_l66 hB ?_ _ et14
          · intro z15 hz15
            subst hz15
            refine r_aload_n 0 dX12_frequency_95 rfl rfl ?_
            refine r_iload_n 1 dX12_frequency_96 rfl rfl ?_
            refine r_iload_n 2 dX12_frequency_97 rfl rfl ?_
            refine r_iconst (0 : Int32) dX12_frequency_98 (by decide) ?_
            refine bnd hf (fun v16 ev16 hf => ?_)
            refine r_callVr (ci := 12) rfl dX12_frequency_99 cs_RX12_334 ww_1428 ww_71 (by decide) (hB.t0 _) (by decide) rfl (rest := []) rfl (Or.inl (Nat.le_of_ble_eq_true rfl)) (t_M_df hB ev16) ?_
            exact r_iret rfl dX12_frequency_102 (by obtain ⟨h1, h2⟩ := Prod.mk.inj (Option.some.inj hf); subst h1; subst h2; exact hr.symm)
        · refine r_iconst (0 : Int32) dX12_frequency_51 (by decide) ?_
          exact r_iret rfl dX12_frequency_52 (by obtain ⟨h1, h2⟩ := Prod.mk.inj (Option.some.inj hf); subst h1; subst h2; exact hr.symm)
      · refine r_bipush (-2 : Int32) dX12_frequency_35 (by decide) ?_
        exact r_iret rfl dX12_frequency_37 (by obtain ⟨h1, h2⟩ := Prod.mk.inj (Option.some.inj hf); subst h1; subst h2; exact hr.symm)
    · refine r_bipush (-2 : Int32) dX12_frequency_35 (by decide) ?_
      exact r_iret rfl dX12_frequency_37 (by obtain ⟨h1, h2⟩ := Prod.mk.inj (Option.some.inj hf); subst h1; subst h2; exact hr.symm)
  · refine r_bipush (-2 : Int32) dX12_frequency_35 (by decide) ?_
    exact r_iret rfl dX12_frequency_37 (by obtain ⟨h1, h2⟩ := Prod.mk.inj (Option.some.inj hf); subst h1; subst h2; exact hr.symm)
/-! SearchEngineModel.told -/
noncomputable def M_told_l77 (R : RS) (x2 : Int32) (x3 : Int32) : Option ((Int32 × Int32) ⊕ Int32) :=
  if (4 : Int32) ≤ x3 then
    some (Sum.inr x2)
  else
    (rdB R 15 4 x3).bind fun v10 =>
    Option.bind (
      if v10 = true then
        some (1 : Int32)
      else
        some (0 : Int32)) fun q11 =>
    some (Sum.inl ((x2 + q11), (x3 + (1 : Int32))))
noncomputable def M_told (R : RS) (x1 : Int32) : Option Int32 :=
  (M_in x1 (0 : Int32) (6 : Int32)).bind fun v1 =>
  if v1 = true then
    if ¬ x1 = 0 then
      if ¬ x1 = (1 : Int32) then
        if ¬ x1 = (2 : Int32) then
          if ¬ x1 = (4 : Int32) then
            if ¬ x1 = (5 : Int32) then
              if ¬ x1 = (6 : Int32) then
                (lp (fun q => M_told_l77 R q.1 q.2) ((0 : Int32), (0 : Int32))).bind fun z14 =>
                some z14
              else
                some (R.1 0 20)
            else
              some (R.1 0 27)
          else
            some (R.1 0 26)
        else
          some (R.1 0 16)
      else
        (M_inBuffer R).bind fun v15 =>
        some v15
    else
      some (R.1 0 4)
  else
    some (-2 : Int32)
set_option maxRecDepth 100000 in
set_option maxHeartbeats 4000000 in
theorem x_M_told_l77 {Γ : W0} {σ0 : Mem} {r : RT} {τ : Mem} {B : Nat} {R : RS} {t : Int32} (hB : RB τ B) (hk0 : ∀ z : Int32, z = t → V Γ MD_M_told σ0 r (emb τ B R) 105 [(2, .int z)] []) : ∀ q : Int32 × Int32, lp (fun q => M_told_l77 R q.1 q.2) q = some t → V Γ MD_M_told σ0 r (emb τ B R) 77 [(0, va_rf (some B)), (2, .int q.1), (3, .int q.2)] [] := by
  refine lp_ind (fun (q : Int32 × Int32) => V Γ MD_M_told σ0 r (emb τ B R) 77 [(0, va_rf (some B)), (2, .int q.1), (3, .int q.2)] []) (fun q x hf ih ho => ?_)
  obtain ⟨x2, x3⟩ := q
  show V Γ MD_M_told σ0 r (emb τ B R) 77 [(0, va_rf (some B)), (2, .int x2), (3, .int x3)] []
  replace hf : M_told_l77 R x2 x3 = some x := hf
  unfold M_told_l77 at hf
  refine r_iload_n 2 dX12_told_77 rfl rfl ?_
  refine r_iconst (4 : Int32) dX12_told_78 (by decide) ?_
  refine r_icmp_ge 105 hf dX12_told_79 (by decide) (fun c9 hf => ?_) (fun c9 hf => ?_)
  · refine r_sub (L' := [(2, _)]) [1] rfl ?_
    exact hk0 _ (ho _ (Option.some.inj hf).symm)
  · refine r_iload_n 1 dX12_told_82 rfl rfl ?_
    refine r_aload_n 0 dX12_told_83 rfl rfl ?_
    refine rr_ldR (c := 15) hB dX12_told_84 fl_RX12_57 rfl rfl (by decide) ?_
    refine r_iload_n 2 dX12_told_87 rfl rfl ?_
    refine rr_raB hf hB dX12_told_88 (by decide) rfl (fun v10 ev10 hf => ?_)
    refine r_bd (fun (q11 : Int32) => V Γ MD_M_told σ0 r (emb τ B R) 97 [(0, va_rf (some B)), (3, .int x3)] [.int q11, .int x2]) hf (fun q11 hf => ?_) (fun yq11 hf kq11 => ?_)
    · refine r_iadd dX12_told_97 ?_
      refine r_istore_n (L' := [(2, _), (0, _), (3, _)]) dX12_told_98 rfl (show 2 < 4 by decide) rfl ?_
      refine r_iinc (1 : Int32) (L' := [(3, _), (2, _), (0, _)]) 2 dX12_told_99 rfl (by decide) (show 3 < 4 by decide) rfl ?_
      refine r_goto 77 dX12_told_102 (by decide) ?_
      refine r_sub (L' := [(0, _), (2, _), (3, _)]) [2, 1, 0] rfl ?_
      exact ih _ (Option.some.inj hf).symm
    · refine r_ifeqZ 96 hf dX12_told_89 (by decide) (fun c12 hf => ?_) (fun c12 hf => ?_)
      · refine r_iconst (1 : Int32) dX12_told_92 (by decide) ?_
        refine r_goto 97 dX12_told_93 (by decide) ?_
        refine r_sub (L' := [(0, _), (3, _)]) [0, 2] rfl ?_
        cases (Option.some.inj hf)
        exact kq11
      · refine r_iconst (0 : Int32) dX12_told_96 (by decide) ?_
        refine r_sub (L' := [(0, _), (3, _)]) [0, 2] rfl ?_
        cases (Option.some.inj hf)
        exact kq11
set_option maxRecDepth 100000 in
set_option maxHeartbeats 4000000 in
theorem t_M_told {Γ : W0} {τ : Mem} {B : Nat} {R : RS} {x1 : Int32} {v : Int32} (hB : RB τ B) (hf : M_told R x1 = some v) : CT Γ MD_M_told yX12_told [va_rf (some B), .int x1] (emb τ B R) (some (.int v), (emb τ B R)) := by
  refine CT.of (L := [(0, va_rf (some B)), (1, .int x1)]) rfl (by decide) (fun h => Bool.noConfusion (show false = true from h)) (Nat.le_of_ble_eq_true rfl) rfl ?_
  unfold M_told at hf
  generalize hr : mkR Γ (emb τ B R) (some (.int v)) (emb τ B R) = r
  refine r_iload_n 1 dX12_told_0 rfl rfl ?_
  refine r_iconst (0 : Int32) dX12_told_1 (by decide) ?_
  refine r_bipush (6 : Int32) dX12_told_2 (by decide) ?_
  refine bnd hf (fun v1 ev1 hf => ?_)
  refine r_callSr dX12_told_4 cs_RX12_164 ww_1258 (by decide) rfl (rest := []) rfl (Or.inl (Nat.le_of_ble_eq_true rfl)) (t_M_in ev1) ?_
  refine r_ifneZ 13 hf dX12_told_7 (by decide) (fun c2 hf => ?_) (fun c2 hf => ?_)
  · refine r_iload_n 1 dX12_told_13 rfl rfl ?_
    refine r_if_ne 22 hf dX12_told_14 (by decide) (fun c3 hf => ?_) (fun c3 hf => ?_)
    · refine r_iload_n 1 dX12_told_22 rfl rfl ?_
      refine r_iconst (1 : Int32) dX12_told_23 (by decide) ?_
      refine r_icmp_ne 32 hf dX12_told_24 (by decide) (fun c4 hf => ?_) (fun c4 hf => ?_)
      · refine r_iload_n 1 dX12_told_32 rfl rfl ?_
        refine r_iconst (2 : Int32) dX12_told_33 (by decide) ?_
        refine r_icmp_ne 42 hf dX12_told_34 (by decide) (fun c5 hf => ?_) (fun c5 hf => ?_)
        · refine r_iload_n 1 dX12_told_42 rfl rfl ?_
          refine r_iconst (4 : Int32) dX12_told_43 (by decide) ?_
          refine r_icmp_ne 52 hf dX12_told_44 (by decide) (fun c6 hf => ?_) (fun c6 hf => ?_)
          · refine r_iload_n 1 dX12_told_52 rfl rfl ?_
            refine r_iconst (5 : Int32) dX12_told_53 (by decide) ?_
            refine r_icmp_ne 62 hf dX12_told_54 (by decide) (fun c7 hf => ?_) (fun c7 hf => ?_)
            · refine r_iload_n 1 dX12_told_62 rfl rfl ?_
              refine r_bipush (6 : Int32) dX12_told_63 (by decide) ?_
              refine r_icmp_ne 73 hf dX12_told_65 (by decide) (fun c8 hf => ?_) (fun c8 hf => ?_)
              · refine r_iconst (0 : Int32) dX12_told_73 (by decide) ?_
                refine r_istore_n (L' := [(2, _), (0, _), (1, _)]) dX12_told_74 rfl (show 2 < 4 by decide) rfl ?_
                refine r_iconst (0 : Int32) dX12_told_75 (by decide) ?_
                refine r_istore_n (L' := [(3, _), (2, _), (0, _), (1, _)]) dX12_told_76 rfl (show 3 < 4 by decide) rfl ?_
                refine bnd hf (fun t13 et13 hf => ?_)
                refine r_sub (L' := [(0, _), (2, _), (3, _)]) [2, 1, 0] rfl ?_
                refine x_M_told_l77 hB ?_ _ et13
                · intro z14 hz14
                  subst hz14
                  refine r_iload_n 0 dX12_told_105 rfl rfl ?_
                  exact r_iret rfl dX12_told_106 (by have h1 := (Option.some.inj hf); subst h1; exact hr.symm)
              · refine r_aload_n 0 dX12_told_68 rfl rfl ?_
                refine rr_ldI (k := 20) hB dX12_told_69 fl_RX12_230 rfl ?_
                exact r_iret rfl dX12_told_72 (by have h1 := (Option.some.inj hf); subst h1; exact hr.symm)
            · refine r_aload_n 0 dX12_told_57 rfl rfl ?_
              refine rr_ldI (k := 27) hB dX12_told_58 fl_RX12_72 rfl ?_
              exact r_iret rfl dX12_told_61 (by have h1 := (Option.some.inj hf); subst h1; exact hr.symm)
          · refine r_aload_n 0 dX12_told_47 rfl rfl ?_
            refine rr_ldI (k := 26) hB dX12_told_48 fl_RX12_389 rfl ?_
            exact r_iret rfl dX12_told_51 (by have h1 := (Option.some.inj hf); subst h1; exact hr.symm)
        · refine r_aload_n 0 dX12_told_37 rfl rfl ?_
          refine rr_ldI (k := 16) hB dX12_told_38 fl_RX12_217 rfl ?_
          exact r_iret rfl dX12_told_41 (by have h1 := (Option.some.inj hf); subst h1; exact hr.symm)
      · refine r_aload_n 0 dX12_told_27 rfl rfl ?_
        refine bnd hf (fun v15 ev15 hf => ?_)
        refine r_callVr (ci := 12) rfl dX12_told_28 cs_RX12_210 ww_1295 ww_43 (by decide) (hB.t0 _) (by decide) rfl (rest := []) rfl (Or.inl (Nat.le_of_ble_eq_true rfl)) (t_M_inBuffer hB ev15) ?_
        exact r_iret rfl dX12_told_31 (by have h1 := (Option.some.inj hf); subst h1; exact hr.symm)
    · refine r_aload_n 0 dX12_told_17 rfl rfl ?_
      refine rr_ldI (k := 4) hB dX12_told_18 fl_RX12_196 rfl ?_
      exact r_iret rfl dX12_told_21 (by have h1 := (Option.some.inj hf); subst h1; exact hr.symm)
  · refine r_bipush (-2 : Int32) dX12_told_10 (by decide) ?_
    exact r_iret rfl dX12_told_12 (by have h1 := (Option.some.inj hf); subst h1; exact hr.symm)
