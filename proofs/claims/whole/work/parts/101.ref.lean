/-! methods as functions, with their walks (by program) -/
/-! SearchEngineModel.merge -/
noncomputable def M_merge_l63 (R : RS) (x1 : Int32) (x2 : Int32) (x3 : Int32) (x4 : Int32) (x5 : Int32) (x6 : Int32) (x7 : Int32) (x8 : Int32) : Option ((Int32 × Int32 × RS) ⊕ (Int32 × RS)) :=
  (rdI R 13 420 x6).bind fun v9 =>
  if v9 ≤ x8 then
    some (Sum.inr (x2, R))
  else
    (rdI R 14 168000 (((400 : Int32) * x6) + x8)).bind fun v11 =>
    (rdB R 5 400 v11).bind fun v12 =>
    Option.bind (
      if v12 = true then
        some (x2, R)
      else
        (rdI R 14 168000 (((400 : Int32) * x6) + x8)).bind fun v15 =>
        (wrI R 28 400 x2 v15).bind fun R16 =>
        some ((x2 + (1 : Int32)), R16)) fun q13 =>
    some (Sum.inl (q13.1, (x8 + (1 : Int32)), q13.2))
noncomputable def M_merge_l23 (R : RS) (x1 : Int32) (x2 : Int32) (x3 : Int32) (x4 : Int32) (x5 : Int32) (x6 : Int32) : Option ((Int32 × Int32 × Int32 × Int32 × Int32 × RS) ⊕ (Int32 × Int32 × Int32 × RS)) :=
  if (R.1 0 16) ≤ x6 then
    some (Sum.inr (x2, x4, x5, R))
  else
    (rdI R 12 420 x6).bind fun v3 =>
    Option.bind (
      if ¬ v3 = x1 then
        some (0 : Int32)
      else
        if (4 : Int32) ≤ x3 then
          some (0 : Int32)
        else
          some (1 : Int32)) fun q4 =>
    Option.bind (
      if q4 = 0 then
        some (x2, x3, R)
      else
        (lp (fun q => M_merge_l63 q.2.2 x1 q.1 x3 x4 x5 x6 q4 q.2.1) (x2, (0 : Int32), R)).bind fun z18 =>
        some (z18.1, (x3 + (1 : Int32)), z18.2)) fun q7 =>
    Option.bind (
      jn (
        if q4 = 0 then
          some (Sum.inr ())
        else
          if x4 = (-1 : Int32) then
            some (Sum.inr ())
          else
            some (Sum.inl (x4, x5, q7.2.2))) fun q20 =>
      Option.bind (
        if q4 = 0 then
          some x4
        else
          some x5) fun q23 =>
      (M_move q7.2.2 x6 x5).bind fun v25 =>
      some (q23, (x5 + (1 : Int32)), v25)) fun q19 =>
    some (Sum.inl (q7.1, q7.2.1, q19.1, q19.2.1, (x6 + (1 : Int32)), q19.2.2))
noncomputable def M_merge_l199 (R : RS) (x2 : Int32) (x4 : Int32) (x6 : Int32) : Option ((Int32 × RS) ⊕ RS) :=
  if x2 ≤ x6 then
    some (Sum.inr R)
  else
    (rdI R 28 400 x6).bind fun v32 =>
    (wrI R 14 168000 (((400 : Int32) * x4) + x6) v32).bind fun R33 =>
    some (Sum.inl ((x6 + (1 : Int32)), R33))
noncomputable def M_merge_l243 (R : RS) (x6 : Int32) : Option ((Int32 × RS) ⊕ RS) :=
  if (R.1 0 16) ≤ x6 then
    some (Sum.inr R)
  else
    (M_move R x6 (x6 - (1 : Int32))).bind fun v38 =>
    some (Sum.inl ((x6 + (1 : Int32)), v38))
noncomputable def M_merge (R : RS) (x1 : Int32) : Option RS :=
  (some (pI R 20 ((R.1 0 20) + (1 : Int32)))).bind fun R1 =>
  (lp (fun q => M_merge_l23 q.2.2.2.2.2 x1 q.1 q.2.1 q.2.2.1 q.2.2.2.1 q.2.2.2.2.1) ((0 : Int32), (0 : Int32), (-1 : Int32), (0 : Int32), (0 : Int32), R1)).bind fun z27 =>
  (some (pI z27.2.2.2 16 z27.2.2.1)).bind fun R28 =>
  (wrI R28 12 420 z27.2.1 (x1 + (1 : Int32))).bind fun R29 =>
  (wrI R29 13 420 z27.2.1 z27.1).bind fun R30 =>
  (lp (fun q => M_merge_l199 q.2 z27.1 z27.2.1 q.1) ((0 : Int32), R30)).bind fun z35 =>
  if z27.1 ≤ 0 then
    (lp (fun q => M_merge_l243 q.2 q.1) ((z27.2.1 + (1 : Int32)), z35)).bind fun z40 =>
    (some (pI z40 16 ((z40.1 0 16) - (1 : Int32)))).bind fun R41 =>
    some R41
  else
    some z35
set_option maxRecDepth 100000 in
set_option maxHeartbeats 4000000 in
theorem x_M_merge_l63 {Γ : W0} {σ0 : Mem} {r : RT} {τ : Mem} {B : Nat} {x1 : Int32} {x3 : Int32} {x4 : Int32} {x5 : Int32} {x6 : Int32} {x7 : Int32} {t : Int32 × RS} (hB : RB τ B) (hk0 : ∀ z : Int32 × RS, z = t → V Γ MD_M_merge σ0 r (emb τ B z.2) 129 [(0, va_rf (some B)), (1, .int x1), (2, .int z.1), (3, .int x3), (4, .int x4), (5, .int x5), (6, .int x6), (7, .int x7)] []) : ∀ q : Int32 × Int32 × RS, lp (fun q => M_merge_l63 q.2.2 x1 q.1 x3 x4 x5 x6 x7 q.2.1) q = some t → V Γ MD_M_merge σ0 r (emb τ B q.2.2) 63 [(0, va_rf (some B)), (1, .int x1), (2, .int q.1), (3, .int x3), (4, .int x4), (5, .int x5), (6, .int x6), (7, .int x7), (8, .int q.2.1)] [] := by
  refine lp_ind (fun (q : Int32 × Int32 × RS) => V Γ MD_M_merge σ0 r (emb τ B q.2.2) 63 [(0, va_rf (some B)), (1, .int x1), (2, .int q.1), (3, .int x3), (4, .int x4), (5, .int x5), (6, .int x6), (7, .int x7), (8, .int q.2.1)] []) (fun q x hf ih ho => ?_)
  obtain ⟨x2, x8, R⟩ := q
  show V Γ MD_M_merge σ0 r (emb τ B R) 63 [(0, va_rf (some B)), (1, .int x1), (2, .int x2), (3, .int x3), (4, .int x4), (5, .int x5), (6, .int x6), (7, .int x7), (8, .int x8)] []
  replace hf : M_merge_l63 R x1 x2 x3 x4 x5 x6 x7 x8 = some x := hf
  unfold M_merge_l63 at hf
  refine r_iload 8 dX12_merge_63 rfl ?_
  refine r_aload_n 0 dX12_merge_65 rfl rfl ?_
  refine rr_ldR (c := 13) hB dX12_merge_66 fl_RX12_50 rfl rfl (by decide) ?_
  refine r_iload 6 dX12_merge_69 rfl ?_
  refine rr_raI hf hB dX12_merge_71 (by decide) rfl (fun v9 ev9 hf => ?_)
  refine r_icmp_ge 129 hf dX12_merge_72 (by decide) (fun c10 hf => ?_) (fun c10 hf => ?_)
  · refine r_sub (L' := [(0, _), (1, _), (2, _), (3, _), (4, _), (5, _), (6, _), (7, _)]) [0, 1, 2, 3, 4, 5, 6, 7] rfl ?_
    exact hk0 _ (ho _ (Option.some.inj hf).symm)
  · refine r_aload_n 0 dX12_merge_75 rfl rfl ?_
    refine rr_ldR (c := 5) hB dX12_merge_76 fl_RX12_23 rfl rfl (by decide) ?_
    refine r_aload_n 0 dX12_merge_79 rfl rfl ?_
    refine rr_ldR (c := 14) hB dX12_merge_80 fl_RX12_54 rfl rfl (by decide) ?_
    refine r_sipush (400 : Int32) dX12_merge_83 (by decide) ?_
    refine r_iload 6 dX12_merge_86 rfl ?_
    refine r_imul dX12_merge_88 ?_
    refine r_iload 8 dX12_merge_89 rfl ?_
    refine r_iadd dX12_merge_91 ?_
    refine rr_raI hf hB dX12_merge_92 (by decide) rfl (fun v11 ev11 hf => ?_)
    refine rr_raB hf hB dX12_merge_93 (by decide) rfl (fun v12 ev12 hf => ?_)
    refine r_bd (fun (q13 : Int32 × RS) => V Γ MD_M_merge σ0 r (emb τ B q13.2) 123 [(0, va_rf (some B)), (1, .int x1), (2, .int q13.1), (3, .int x3), (4, .int x4), (5, .int x5), (6, .int x6), (7, .int x7), (8, .int x8)] []) hf (fun q13 hf => ?_) (fun yq13 hf kq13 => ?_)
    · refine r_iinc (1 : Int32) (L' := [(8, _), (0, _), (1, _), (2, _), (3, _), (4, _), (5, _), (6, _), (7, _)]) 8 dX12_merge_123 rfl (by decide) (show 8 < 9 by decide) rfl ?_
      refine r_goto 63 dX12_merge_126 (by decide) ?_
      refine r_sub (L' := [(0, _), (1, _), (2, _), (3, _), (4, _), (5, _), (6, _), (7, _), (8, _)]) [1, 2, 3, 4, 5, 6, 7, 8, 0] rfl ?_
      exact ih _ (Option.some.inj hf).symm
    · refine r_ifeqZ 100 hf dX12_merge_94 (by decide) (fun c14 hf => ?_) (fun c14 hf => ?_)
      · refine r_goto 123 dX12_merge_97 (by decide) ?_
        refine r_sub (L' := [(0, _), (1, _), (2, _), (3, _), (4, _), (5, _), (6, _), (7, _), (8, _)]) [0, 1, 2, 3, 4, 5, 6, 7, 8] rfl ?_
        cases (Option.some.inj hf)
        exact kq13
      · refine r_aload_n 0 dX12_merge_100 rfl rfl ?_
        refine rr_ldR (c := 28) hB dX12_merge_101 fl_RX12_103 rfl rfl (by decide) ?_
        refine r_iload_n 2 dX12_merge_104 rfl rfl ?_
        refine r_aload_n 0 dX12_merge_105 rfl rfl ?_
        refine rr_ldR (c := 14) hB dX12_merge_106 fl_RX12_54 rfl rfl (by decide) ?_
        refine r_sipush (400 : Int32) dX12_merge_109 (by decide) ?_
        refine r_iload 6 dX12_merge_112 rfl ?_
        refine r_imul dX12_merge_114 ?_
        refine r_iload 8 dX12_merge_115 rfl ?_
        refine r_iadd dX12_merge_117 ?_
        refine rr_raI hf hB dX12_merge_118 (by decide) rfl (fun v15 ev15 hf => ?_)
        refine rr_waI hf hB dX12_merge_119 (by decide) rfl (fun R16 eR16 hf => ?_)
        refine r_iinc (1 : Int32) (L' := [(2, _), (0, _), (1, _), (3, _), (4, _), (5, _), (6, _), (7, _), (8, _)]) 2 dX12_merge_120 rfl (by decide) (show 2 < 9 by decide) rfl ?_
        refine r_sub (L' := [(0, _), (1, _), (2, _), (3, _), (4, _), (5, _), (6, _), (7, _), (8, _)]) [1, 2, 0, 3, 4, 5, 6, 7, 8] rfl ?_
        cases (Option.some.inj hf)
        exact kq13
set_option maxRecDepth 100000 in
set_option maxHeartbeats 4000000 in
theorem x_M_merge_l23 {Γ : W0} {σ0 : Mem} {r : RT} {τ : Mem} {B : Nat} {x1 : Int32} {t : Int32 × Int32 × Int32 × RS} (hB : RB τ B) (hk0 : ∀ z : Int32 × Int32 × Int32 × RS, z = t → V Γ MD_M_merge σ0 r (emb τ B z.2.2.2) 172 [(0, va_rf (some B)), (1, .int x1), (2, .int z.1), (4, .int z.2.1), (5, .int z.2.2.1)] []) : ∀ q : Int32 × Int32 × Int32 × Int32 × Int32 × RS, lp (fun q => M_merge_l23 q.2.2.2.2.2 x1 q.1 q.2.1 q.2.2.1 q.2.2.2.1 q.2.2.2.2.1) q = some t → V Γ MD_M_merge σ0 r (emb τ B q.2.2.2.2.2) 23 [(0, va_rf (some B)), (1, .int x1), (2, .int q.1), (3, .int q.2.1), (4, .int q.2.2.1), (5, .int q.2.2.2.1), (6, .int q.2.2.2.2.1)] [] := by
  refine lp_ind (fun (q : Int32 × Int32 × Int32 × Int32 × Int32 × RS) => V Γ MD_M_merge σ0 r (emb τ B q.2.2.2.2.2) 23 [(0, va_rf (some B)), (1, .int x1), (2, .int q.1), (3, .int q.2.1), (4, .int q.2.2.1), (5, .int q.2.2.2.1), (6, .int q.2.2.2.2.1)] []) (fun q x hf ih ho => ?_)
  obtain ⟨x2, x3, x4, x5, x6, R⟩ := q
  show V Γ MD_M_merge σ0 r (emb τ B R) 23 [(0, va_rf (some B)), (1, .int x1), (2, .int x2), (3, .int x3), (4, .int x4), (5, .int x5), (6, .int x6)] []
  replace hf : M_merge_l23 R x1 x2 x3 x4 x5 x6 = some x := hf
  unfold M_merge_l23 at hf
  refine r_iload 6 dX12_merge_23 rfl ?_
  refine r_aload_n 0 dX12_merge_25 rfl rfl ?_
  refine rr_ldI (k := 16) hB dX12_merge_26 fl_RX12_217 rfl ?_
  refine r_icmp_ge 172 hf dX12_merge_29 (by decide) (fun c2 hf => ?_) (fun c2 hf => ?_)
  · refine r_sub (L' := [(0, _), (1, _), (2, _), (4, _), (5, _)]) [0, 1, 2, 4, 5] rfl ?_
    exact hk0 _ (ho _ (Option.some.inj hf).symm)
  · refine r_aload_n 0 dX12_merge_32 rfl rfl ?_
    refine rr_ldR (c := 12) hB dX12_merge_33 fl_RX12_47 rfl rfl (by decide) ?_
    refine r_iload 6 dX12_merge_36 rfl ?_
    refine rr_raI hf hB dX12_merge_38 (by decide) rfl (fun v3 ev3 hf => ?_)
    refine r_iload_n 1 dX12_merge_39 rfl rfl ?_
    refine r_bd (fun (q4 : Int32) => V Γ MD_M_merge σ0 r (emb τ B R) 53 [(0, va_rf (some B)), (1, .int x1), (2, .int x2), (3, .int x3), (4, .int x4), (5, .int x5), (6, .int x6)] [.int q4]) hf (fun q4 hf => ?_) (fun yq4 hf kq4 => ?_)
    · refine r_istore (L' := [(7, _), (0, _), (1, _), (2, _), (3, _), (4, _), (5, _), (6, _)]) dX12_merge_53 (show 7 < 9 by decide) rfl ?_
      refine r_iload 0 dX12_merge_55 rfl ?_
      refine r_bd (fun (q7 : Int32 × Int32 × RS) => V Γ MD_M_merge σ0 r (emb τ B q7.2.2) 132 [(0, va_rf (some B)), (1, .int x1), (2, .int q7.1), (3, .int q7.2.1), (4, .int x4), (5, .int x5), (6, .int x6), (7, .int q4)] []) hf (fun q7 hf => ?_) (fun yq7 hf kq7 => ?_)
      · refine r_iload 7 dX12_merge_132 rfl ?_
        refine r_bd (fun (q19 : Int32 × Int32 × RS) => V Γ MD_M_merge σ0 r (emb τ B q19.2.2) 166 [(0, va_rf (some B)), (1, .int x1), (2, .int q7.1), (3, .int q7.2.1), (4, .int q19.1), (5, .int q19.2.1), (6, .int x6)] []) hf (fun q19 hf => ?_) (fun yq19 hf kq19 => ?_)
        · refine r_iinc (1 : Int32) (L' := [(6, _), (0, _), (1, _), (2, _), (3, _), (4, _), (5, _)]) 6 dX12_merge_166 rfl (by decide) (show 6 < 9 by decide) rfl ?_
          refine r_goto 23 dX12_merge_169 (by decide) ?_
          refine r_sub (L' := [(0, _), (1, _), (2, _), (3, _), (4, _), (5, _), (6, _)]) [1, 2, 3, 4, 5, 6, 0] rfl ?_
          exact ih _ (Option.some.inj hf).symm
        · refine r_jn (fun (q20 : Unit) => V Γ MD_M_merge σ0 r (emb τ B q7.2.2) 146 [(0, va_rf (some B)), (1, .int x1), (2, .int q7.1), (3, .int q7.2.1), (4, .int x4), (5, .int x5), (6, .int x6), (7, .int q4)] []) hf (fun q20 hf => ?_) (fun yq20 hf oq20 kq20 => ?_)
          · refine r_iload 7 dX12_merge_146 rfl ?_
            refine r_bd (fun (q23 : Int32) => V Γ MD_M_merge σ0 r (emb τ B q7.2.2) 155 [(0, va_rf (some B)), (1, .int x1), (2, .int q7.1), (3, .int q7.2.1), (4, .int q23), (5, .int x5), (6, .int x6)] []) hf (fun q23 hf => ?_) (fun yq23 hf kq23 => ?_)
            · refine r_aload_n 0 dX12_merge_155 rfl rfl ?_
              refine r_iload 6 dX12_merge_156 rfl ?_
              refine r_iload 5 dX12_merge_158 rfl ?_
              refine bnd hf (fun v25 ev25 hf => ?_)
              refine r_callVv (ci := 12) rfl dX12_merge_160 cs_RX12_233 ww_1315 ww_47 (by decide) (hB.t0 _) (by decide) rfl (rest := []) rfl (Or.inl (Nat.le_of_ble_eq_true rfl)) (t_M_move hB ev25) ?_
              refine r_iinc (1 : Int32) (L' := [(5, _), (0, _), (1, _), (2, _), (3, _), (4, _), (6, _)]) 5 dX12_merge_163 rfl (by decide) (show 5 < 9 by decide) rfl ?_
              refine r_sub (L' := [(0, _), (1, _), (2, _), (3, _), (4, _), (5, _), (6, _)]) [1, 2, 3, 4, 5, 0, 6] rfl ?_
              cases (Option.some.inj hf)
              exact kq19
            · refine r_if_eq 155 hf dX12_merge_148 (by decide) (fun c24 hf => ?_) (fun c24 hf => ?_)
              · refine r_sub (L' := [(0, _), (1, _), (2, _), (3, _), (4, _), (5, _), (6, _)]) [0, 1, 2, 3, 4, 5, 6] rfl ?_
                cases (Option.some.inj hf)
                exact kq23
              · refine r_iload 5 dX12_merge_151 rfl ?_
                refine r_istore (L' := [(4, _), (0, _), (1, _), (2, _), (3, _), (5, _), (6, _), (7, _)]) dX12_merge_153 (show 4 < 9 by decide) rfl ?_
                refine r_sub (L' := [(0, _), (1, _), (2, _), (3, _), (4, _), (5, _), (6, _)]) [1, 2, 3, 4, 0, 5, 6] rfl ?_
                cases (Option.some.inj hf)
                exact kq23
          · refine r_if_eq 146 hf dX12_merge_134 (by decide) (fun c21 hf => ?_) (fun c21 hf => ?_)
            · refine r_sub (L' := [(0, _), (1, _), (2, _), (3, _), (4, _), (5, _), (6, _), (7, _)]) [0, 1, 2, 3, 4, 5, 6, 7] rfl ?_
              exact kq20 _ (Option.some.inj hf).symm
            · refine r_iload 4 dX12_merge_137 rfl ?_
              refine r_iconst (-1 : Int32) dX12_merge_139 (by decide) ?_
              refine r_icmp_eq 146 hf dX12_merge_140 (by decide) (fun c22 hf => ?_) (fun c22 hf => ?_)
              · refine r_sub (L' := [(0, _), (1, _), (2, _), (3, _), (4, _), (5, _), (6, _), (7, _)]) [0, 1, 2, 3, 4, 5, 6, 7] rfl ?_
                exact kq20 _ (Option.some.inj hf).symm
              · refine r_goto 166 dX12_merge_143 (by decide) ?_
                refine r_sub (L' := [(0, _), (1, _), (2, _), (3, _), (4, _), (5, _), (6, _)]) [0, 1, 2, 3, 4, 5, 6] rfl ?_
                cases (oq20 _ (Option.some.inj hf).symm)
                exact kq19
      · refine r_if_eq 132 hf dX12_merge_57 (by decide) (fun c8 hf => ?_) (fun c8 hf => ?_)
        · refine r_sub (L' := [(0, _), (1, _), (2, _), (3, _), (4, _), (5, _), (6, _), (7, _)]) [1, 2, 3, 4, 5, 6, 7, 0] rfl ?_
          cases (Option.some.inj hf)
          exact kq7
        · refine r_iconst (0 : Int32) dX12_merge_60 (by decide) ?_
          refine r_istore (L' := [(8, _), (7, _), (0, _), (1, _), (2, _), (3, _), (4, _), (5, _), (6, _)]) dX12_merge_61 (show 8 < 9 by decide) rfl ?_
          refine bnd hf (fun t17 et17 hf => ?_)
          refine r_sub (L' := [(0, _), (1, _), (2, _), (3, _), (4, _), (5, _), (6, _), (7, _), (8, _)]) [2, 3, 4, 5, 6, 7, 8, 1, 0] rfl ?_
          refine x_M_merge_l63 hB ?_ _ et17
          · intro z18 hz18
            subst hz18
            refine r_iinc (1 : Int32) (L' := [(3, _), (0, _), (1, _), (2, _), (4, _), (5, _), (6, _), (7, _)]) 3 dX12_merge_129 rfl (by decide) (show 3 < 9 by decide) rfl ?_
            refine r_sub (L' := [(0, _), (1, _), (2, _), (3, _), (4, _), (5, _), (6, _), (7, _)]) [1, 2, 3, 0, 4, 5, 6, 7] rfl ?_
            cases (Option.some.inj hf)
            exact kq7
    · refine r_icmp_ne 52 hf dX12_merge_40 (by decide) (fun c5 hf => ?_) (fun c5 hf => ?_)
      · refine r_iconst (0 : Int32) dX12_merge_52 (by decide) ?_
        refine r_sub (L' := [(0, _), (1, _), (2, _), (3, _), (4, _), (5, _), (6, _)]) [0, 1, 2, 3, 4, 5, 6] rfl ?_
        cases (Option.some.inj hf)
        exact kq4
      · refine r_iload_n 3 dX12_merge_43 rfl rfl ?_
        refine r_iconst (4 : Int32) dX12_merge_44 (by decide) ?_
        refine r_icmp_ge 52 hf dX12_merge_45 (by decide) (fun c6 hf => ?_) (fun c6 hf => ?_)
        · refine r_iconst (0 : Int32) dX12_merge_52 (by decide) ?_
          refine r_sub (L' := [(0, _), (1, _), (2, _), (3, _), (4, _), (5, _), (6, _)]) [0, 1, 2, 3, 4, 5, 6] rfl ?_
          cases (Option.some.inj hf)
          exact kq4
        · refine r_iconst (1 : Int32) dX12_merge_48 (by decide) ?_
          refine r_goto 53 dX12_merge_49 (by decide) ?_
          refine r_sub (L' := [(0, _), (1, _), (2, _), (3, _), (4, _), (5, _), (6, _)]) [0, 1, 2, 3, 4, 5, 6] rfl ?_
          cases (Option.some.inj hf)
          exact kq4
set_option maxRecDepth 100000 in
set_option maxHeartbeats 4000000 in
theorem x_M_merge_l199 {Γ : W0} {σ0 : Mem} {r : RT} {τ : Mem} {B : Nat} {x2 : Int32} {x4 : Int32} {t : RS} (hB : RB τ B) (hk0 : ∀ z : RS, z = t → V Γ MD_M_merge σ0 r (emb τ B z) 232 [(0, va_rf (some B)), (2, .int x2), (4, .int x4)] []) : ∀ q : Int32 × RS, lp (fun q => M_merge_l199 q.2 x2 x4 q.1) q = some t → V Γ MD_M_merge σ0 r (emb τ B q.2) 199 [(0, va_rf (some B)), (2, .int x2), (4, .int x4), (6, .int q.1)] [] := by
  refine lp_ind (fun (q : Int32 × RS) => V Γ MD_M_merge σ0 r (emb τ B q.2) 199 [(0, va_rf (some B)), (2, .int x2), (4, .int x4), (6, .int q.1)] []) (fun q x hf ih ho => ?_)
  obtain ⟨x6, R⟩ := q
  show V Γ MD_M_merge σ0 r (emb τ B R) 199 [(0, va_rf (some B)), (2, .int x2), (4, .int x4), (6, .int x6)] []
  replace hf : M_merge_l199 R x2 x4 x6 = some x := hf
  unfold M_merge_l199 at hf
  refine r_iload 3 dX12_merge_199 rfl ?_
  refine r_iload_n 1 dX12_merge_201 rfl rfl ?_
  refine r_icmp_ge 232 hf dX12_merge_202 (by decide) (fun c31 hf => ?_) (fun c31 hf => ?_)
  · refine r_sub (L' := [(0, _), (2, _), (4, _)]) [0, 1, 2] rfl ?_
    exact hk0 _ (ho _ (Option.some.inj hf).symm)
  · refine r_aload_n 0 dX12_merge_205 rfl rfl ?_
    refine rr_ldR (c := 14) hB dX12_merge_206 fl_RX12_54 rfl rfl (by decide) ?_
    refine r_sipush (400 : Int32) dX12_merge_209 (by decide) ?_
    refine r_iload 2 dX12_merge_212 rfl ?_
    refine r_imul dX12_merge_214 ?_
    refine r_iload 3 dX12_merge_215 rfl ?_
    refine r_iadd dX12_merge_217 ?_
    refine r_aload_n 0 dX12_merge_218 rfl rfl ?_
    refine rr_ldR (c := 28) hB dX12_merge_219 fl_RX12_103 rfl rfl (by decide) ?_
    refine r_iload 3 dX12_merge_222 rfl ?_
    refine rr_raI hf hB dX12_merge_224 (by decide) rfl (fun v32 ev32 hf => ?_)
    refine rr_waI hf hB dX12_merge_225 (by decide) rfl (fun R33 eR33 hf => ?_)
    refine r_iinc (1 : Int32) (L' := [(6, _), (0, _), (2, _), (4, _)]) 3 dX12_merge_226 rfl (by decide) (show 6 < 9 by decide) rfl ?_
    refine r_goto 199 dX12_merge_229 (by decide) ?_
    refine r_sub (L' := [(0, _), (2, _), (4, _), (6, _)]) [1, 2, 3, 0] rfl ?_
    exact ih _ (Option.some.inj hf).symm
set_option maxRecDepth 100000 in
set_option maxHeartbeats 4000000 in
theorem x_M_merge_l243 {Γ : W0} {σ0 : Mem} {r : RT} {τ : Mem} {B : Nat} {t : RS} (hB : RB τ B) (hk0 : ∀ z : RS, z = t → V Γ MD_M_merge σ0 r (emb τ B z) 268 [(0, va_rf (some B))] []) : ∀ q : Int32 × RS, lp (fun q => M_merge_l243 q.2 q.1) q = some t → V Γ MD_M_merge σ0 r (emb τ B q.2) 243 [(0, va_rf (some B)), (6, .int q.1)] [] := by
  refine lp_ind (fun (q : Int32 × RS) => V Γ MD_M_merge σ0 r (emb τ B q.2) 243 [(0, va_rf (some B)), (6, .int q.1)] []) (fun q x hf ih ho => ?_)
  obtain ⟨x6, R⟩ := q
  show V Γ MD_M_merge σ0 r (emb τ B R) 243 [(0, va_rf (some B)), (6, .int x6)] []
  replace hf : M_merge_l243 R x6 = some x := hf
  unfold M_merge_l243 at hf
  refine r_iload 1 dX12_merge_243 rfl ?_
  refine r_aload_n 0 dX12_merge_245 rfl rfl ?_
  refine rr_ldI (k := 16) hB dX12_merge_246 fl_RX12_217 rfl ?_
  refine r_icmp_ge 268 hf dX12_merge_249 (by decide) (fun c37 hf => ?_) (fun c37 hf => ?_)
  · refine r_sub (L' := [(0, _)]) [0] rfl ?_
    exact hk0 _ (ho _ (Option.some.inj hf).symm)
  · refine r_aload_n 0 dX12_merge_252 rfl rfl ?_
    refine r_iload 1 dX12_merge_253 rfl ?_
    refine r_iload 1 dX12_merge_255 rfl ?_
    refine r_iconst (1 : Int32) dX12_merge_257 (by decide) ?_
    refine r_isub dX12_merge_258 ?_
    refine bnd hf (fun v38 ev38 hf => ?_)
    refine r_callVv (ci := 12) rfl dX12_merge_259 cs_RX12_233 ww_1315 ww_47 (by decide) (hB.t0 _) (by decide) rfl (rest := []) rfl (Or.inl (Nat.le_of_ble_eq_true rfl)) (t_M_move hB ev38) ?_
    refine r_iinc (1 : Int32) (L' := [(6, _), (0, _)]) 1 dX12_merge_262 rfl (by decide) (show 6 < 9 by decide) rfl ?_
    refine r_goto 243 dX12_merge_265 (by decide) ?_
    refine r_sub (L' := [(0, _), (6, _)]) [1, 0] rfl ?_
    exact ih _ (Option.some.inj hf).symm
set_option maxRecDepth 100000 in
set_option maxHeartbeats 4000000 in
theorem t_M_merge {Γ : W0} {τ : Mem} {B : Nat} {R : RS} {x1 : Int32} {R' : RS} (hB : RB τ B) (hf : M_merge R x1 = some R') : CT Γ MD_M_merge yX12_merge [va_rf (some B), .int x1] (emb τ B R) (none, (emb τ B R')) := by
  refine CT.of (L := [(0, va_rf (some B)), (1, .int x1)]) rfl (by decide) (fun h => Bool.noConfusion (show false = true from h)) (Nat.le_of_ble_eq_true rfl) rfl ?_
  unfold M_merge at hf
  generalize hr : mkR Γ (emb τ B R) (none) (emb τ B R') = r
  refine r_aload_n 0 dX12_merge_0 rfl rfl ?_
  refine r_dup dX12_merge_1 (cat_rf _) ?_
  refine rr_ldI (k := 20) hB dX12_merge_2 fl_RX12_230 rfl ?_
  refine r_iconst (1 : Int32) dX12_merge_5 (by decide) ?_
  refine r_iadd dX12_merge_6 ?_
  refine rr_stI hf hB dX12_merge_7 fl_RX12_230 rfl rfl rfl (fun R1 eR1 hf => ?_)
  refine r_iconst (0 : Int32) dX12_merge_10 (by decide) ?_
  refine r_istore_n (L' := [(2, _), (0, _), (1, _)]) dX12_merge_11 rfl (show 2 < 9 by decide) rfl ?_
  refine r_iconst (0 : Int32) dX12_merge_12 (by decide) ?_
  refine r_istore_n (L' := [(3, _), (2, _), (0, _), (1, _)]) dX12_merge_13 rfl (show 3 < 9 by decide) rfl ?_
  refine r_iconst (-1 : Int32) dX12_merge_14 (by decide) ?_
  refine r_istore (L' := [(4, _), (3, _), (2, _), (0, _), (1, _)]) dX12_merge_15 (show 4 < 9 by decide) rfl ?_
  refine r_iconst (0 : Int32) dX12_merge_17 (by decide) ?_
  refine r_istore (L' := [(5, _), (4, _), (3, _), (2, _), (0, _), (1, _)]) dX12_merge_18 (show 5 < 9 by decide) rfl ?_
  refine r_iconst (0 : Int32) dX12_merge_20 (by decide) ?_
  refine r_istore (L' := [(6, _), (5, _), (4, _), (3, _), (2, _), (0, _), (1, _)]) dX12_merge_21 (show 6 < 9 by decide) rfl ?_
  refine bnd hf (fun t26 et26 hf => ?_)
  refine r_sub (L' := [(0, _), (1, _), (2, _), (3, _), (4, _), (5, _), (6, _)]) [5, 6, 4, 3, 2, 1, 0] rfl ?_
  refine x_M_merge_l23 hB ?_ _ et26
  · intro z27 hz27
    subst hz27
    refine r_aload_n 0 dX12_merge_172 rfl rfl ?_
    refine r_iload 4 dX12_merge_173 rfl ?_
    refine rr_stI hf hB dX12_merge_175 fl_RX12_217 rfl rfl rfl (fun R28 eR28 hf => ?_)
    refine r_aload_n 0 dX12_merge_178 rfl rfl ?_
    refine rr_ldR (c := 12) hB dX12_merge_179 fl_RX12_47 rfl rfl (by decide) ?_
    refine r_iload 3 dX12_merge_182 rfl ?_
    refine r_iload_n 1 dX12_merge_184 rfl rfl ?_
    refine r_iconst (1 : Int32) dX12_merge_185 (by decide) ?_
    refine r_iadd dX12_merge_186 ?_
    refine rr_waI hf hB dX12_merge_187 (by decide) rfl (fun R29 eR29 hf => ?_)
    refine r_aload_n 0 dX12_merge_188 rfl rfl ?_
    refine rr_ldR (c := 13) hB dX12_merge_189 fl_RX12_50 rfl rfl (by decide) ?_
    refine r_iload 3 dX12_merge_192 rfl ?_
    refine r_iload_n 2 dX12_merge_194 rfl rfl ?_
    refine rr_waI hf hB dX12_merge_195 (by decide) rfl (fun R30 eR30 hf => ?_)
    refine r_iconst (0 : Int32) dX12_merge_196 (by decide) ?_
    refine r_istore (L' := [(6, _), (0, _), (1, _), (2, _), (4, _), (5, _)]) dX12_merge_197 (show 6 < 9 by decide) rfl ?_
    refine bnd hf (fun t34 et34 hf => ?_)
    refine r_sub (L' := [(0, _), (2, _), (4, _), (6, _)]) [1, 3, 4, 0] rfl ?_
    refine x_M_merge_l199 hB ?_ _ et34
    · intro z35 hz35
      subst hz35
      refine r_iload_n 1 dX12_merge_232 rfl rfl ?_
      refine r_if_le 237 hf dX12_merge_233 (by decide) (fun c36 hf => ?_) (fun c36 hf => ?_)
      · refine r_iload 2 dX12_merge_237 rfl ?_
        refine r_iconst (1 : Int32) dX12_merge_239 (by decide) ?_
        refine r_iadd dX12_merge_240 ?_
        refine r_istore (L' := [(6, _), (0, _), (2, _), (4, _)]) dX12_merge_241 (show 6 < 9 by decide) rfl ?_
        refine bnd hf (fun t39 et39 hf => ?_)
        refine r_sub (L' := [(0, _), (6, _)]) [1, 0] rfl ?_
        refine x_M_merge_l243 hB ?_ _ et39
        · intro z40 hz40
          subst hz40
          refine r_aload_n 0 dX12_merge_268 rfl rfl ?_
          refine r_dup dX12_merge_269 (cat_rf _) ?_
          refine rr_ldI (k := 16) hB dX12_merge_270 fl_RX12_217 rfl ?_
          refine r_iconst (1 : Int32) dX12_merge_273 (by decide) ?_
          refine r_isub dX12_merge_274 ?_
          refine rr_stI hf hB dX12_merge_275 fl_RX12_217 rfl rfl rfl (fun R41 eR41 hf => ?_)
          exact r_vret rfl dX12_merge_278 (by have h1 := (Option.some.inj hf); subst h1; exact hr.symm)
      · exact r_vret rfl dX12_merge_236 (by have h1 := (Option.some.inj hf); subst h1; exact hr.symm)
/-! SearchEngineModel.refresh -/
noncomputable def M_refresh_l38 (R : RS) (x1 : Int32) (x2 : Int32) : Option ((Int32 × RS) ⊕ RS) :=
  if (R.1 0 15) ≤ x2 then
    some (Sum.inr R)
  else
    (rdI R 11 400 x2).bind fun v8 =>
    (rdB R 5 400 v8).bind fun v9 =>
    Option.bind (
      if v9 = true then
        some R
      else
        (rdI R 11 400 x2).bind fun v12 =>
        (M_put R x1 v12).bind fun v13 =>
        some v13) fun q10 =>
    some (Sum.inl ((x2 + (1 : Int32)), q10))
noncomputable def M_refresh_l87 (R : RS) (x1 : Int32) : Option ((Int32 × RS) ⊕ RS) :=
  if x1 = (-1 : Int32) then
    some (Sum.inr R)
  else
    (M_merge R x1).bind fun v19 =>
    (M_fourOf v19).bind fun v20 =>
    some (Sum.inl (v20, v19))
noncomputable def M_refresh (R : RS) : Option (Int32 × RS) :=
  (M_inBuffer R).bind fun v1 =>
  Option.bind (
    if v1 ≤ 0 then
      some R
    else
      (some (pI R 16 ((R.1 0 16) + (1 : Int32)))).bind fun R4 =>
      (wrI R4 12 420 (R.1 0 16) (0 : Int32)).bind fun R5 =>
      (wrI R5 13 420 (R.1 0 16) (0 : Int32)).bind fun R6 =>
      (lp (fun q => M_refresh_l38 q.2 (R.1 0 16) q.1) ((0 : Int32), R6)).bind fun z15 =>
      some z15) fun q2 =>
  (some (pI q2 15 (0 : Int32))).bind fun R16 =>
  (M_fourOf R16).bind fun v17 =>
  (lp (fun q => M_refresh_l87 q.2 q.1) (v17, R16)).bind fun z22 =>
  some ((z22.1 0 16), z22)
set_option maxRecDepth 100000 in
set_option maxHeartbeats 4000000 in
theorem x_M_refresh_l38 {Γ : W0} {σ0 : Mem} {r : RT} {τ : Mem} {B : Nat} {x1 : Int32} {t : RS} (hB : RB τ B) (hk0 : ∀ z : RS, z = t → V Γ MD_M_refresh σ0 r (emb τ B z) 77 [(0, va_rf (some B))] []) : ∀ q : Int32 × RS, lp (fun q => M_refresh_l38 q.2 x1 q.1) q = some t → V Γ MD_M_refresh σ0 r (emb τ B q.2) 38 [(0, va_rf (some B)), (1, .int x1), (2, .int q.1)] [] := by
  refine lp_ind (fun (q : Int32 × RS) => V Γ MD_M_refresh σ0 r (emb τ B q.2) 38 [(0, va_rf (some B)), (1, .int x1), (2, .int q.1)] []) (fun q x hf ih ho => ?_)
  obtain ⟨x2, R⟩ := q
  show V Γ MD_M_refresh σ0 r (emb τ B R) 38 [(0, va_rf (some B)), (1, .int x1), (2, .int x2)] []
  replace hf : M_refresh_l38 R x1 x2 = some x := hf
  unfold M_refresh_l38 at hf
  refine r_iload_n 2 dX12_refresh_38 rfl rfl ?_
  refine r_aload_n 0 dX12_refresh_39 rfl rfl ?_
  refine rr_ldI (k := 15) hB dX12_refresh_40 fl_RX12_207 rfl ?_
  refine r_icmp_ge 77 hf dX12_refresh_43 (by decide) (fun c7 hf => ?_) (fun c7 hf => ?_)
  · refine r_sub (L' := [(0, _)]) [0] rfl ?_
    exact hk0 _ (ho _ (Option.some.inj hf).symm)
  · refine r_aload_n 0 dX12_refresh_46 rfl rfl ?_
    refine rr_ldR (c := 5) hB dX12_refresh_47 fl_RX12_23 rfl rfl (by decide) ?_
    refine r_aload_n 0 dX12_refresh_50 rfl rfl ?_
    refine rr_ldR (c := 11) hB dX12_refresh_51 fl_RX12_44 rfl rfl (by decide) ?_
    refine r_iload_n 2 dX12_refresh_54 rfl rfl ?_
    refine rr_raI hf hB dX12_refresh_55 (by decide) rfl (fun v8 ev8 hf => ?_)
    refine rr_raB hf hB dX12_refresh_56 (by decide) rfl (fun v9 ev9 hf => ?_)
    refine r_bd (fun (q10 : RS) => V Γ MD_M_refresh σ0 r (emb τ B q10) 71 [(0, va_rf (some B)), (1, .int x1), (2, .int x2)] []) hf (fun q10 hf => ?_) (fun yq10 hf kq10 => ?_)
    · refine r_iinc (1 : Int32) (L' := [(2, _), (0, _), (1, _)]) 2 dX12_refresh_71 rfl (by decide) (show 2 < 3 by decide) rfl ?_
      refine r_goto 38 dX12_refresh_74 (by decide) ?_
      refine r_sub (L' := [(0, _), (1, _), (2, _)]) [1, 2, 0] rfl ?_
      exact ih _ (Option.some.inj hf).symm
    · refine r_ifneZ 71 hf dX12_refresh_57 (by decide) (fun c11 hf => ?_) (fun c11 hf => ?_)
      · refine r_sub (L' := [(0, _), (1, _), (2, _)]) [0, 1, 2] rfl ?_
        cases (Option.some.inj hf)
        exact kq10
      · refine r_aload_n 0 dX12_refresh_60 rfl rfl ?_
        refine r_iload_n 1 dX12_refresh_61 rfl rfl ?_
        refine r_aload_n 0 dX12_refresh_62 rfl rfl ?_
        refine rr_ldR (c := 11) hB dX12_refresh_63 fl_RX12_44 rfl rfl (by decide) ?_
        refine r_iload_n 2 dX12_refresh_66 rfl rfl ?_
        refine rr_raI hf hB dX12_refresh_67 (by decide) rfl (fun v12 ev12 hf => ?_)
        refine bnd hf (fun v13 ev13 hf => ?_)
        refine r_callVv (ci := 12) rfl dX12_refresh_68 cs_RX12_220 ww_1303 ww_44 (by decide) (hB.t0 _) (by decide) rfl (rest := []) rfl (Or.inl (Nat.le_of_ble_eq_true rfl)) (t_M_put hB ev13) ?_
        refine r_sub (L' := [(0, _), (1, _), (2, _)]) [0, 1, 2] rfl ?_
        cases (Option.some.inj hf)
        exact kq10
set_option maxRecDepth 100000 in
set_option maxHeartbeats 4000000 in
theorem x_M_refresh_l87 {Γ : W0} {σ0 : Mem} {r : RT} {τ : Mem} {B : Nat} {t : RS} (hB : RB τ B) (hk0 : ∀ z : RS, z = t → V Γ MD_M_refresh σ0 r (emb τ B z) 105 [(0, va_rf (some B))] []) : ∀ q : Int32 × RS, lp (fun q => M_refresh_l87 q.2 q.1) q = some t → V Γ MD_M_refresh σ0 r (emb τ B q.2) 87 [(0, va_rf (some B)), (1, .int q.1)] [] := by
  refine lp_ind (fun (q : Int32 × RS) => V Γ MD_M_refresh σ0 r (emb τ B q.2) 87 [(0, va_rf (some B)), (1, .int q.1)] []) (fun q x hf ih ho => ?_)
  obtain ⟨x1, R⟩ := q
  show V Γ MD_M_refresh σ0 r (emb τ B R) 87 [(0, va_rf (some B)), (1, .int x1)] []
  replace hf : M_refresh_l87 R x1 = some x := hf
  unfold M_refresh_l87 at hf
  refine r_iload_n 1 dX12_refresh_87 rfl rfl ?_
  refine r_iconst (-1 : Int32) dX12_refresh_88 (by decide) ?_
  refine r_icmp_eq 105 hf dX12_refresh_89 (by decide) (fun c18 hf => ?_) (fun c18 hf => ?_)
  · refine r_sub (L' := [(0, _)]) [0] rfl ?_
    exact hk0 _ (ho _ (Option.some.inj hf).symm)
  · refine r_aload_n 0 dX12_refresh_92 rfl rfl ?_
    refine r_iload_n 1 dX12_refresh_93 rfl rfl ?_
    refine bnd hf (fun v19 ev19 hf => ?_)
    refine r_callVv (ci := 12) rfl dX12_refresh_94 cs_RX12_226 ww_1311 ww_46 (by decide) (hB.t0 _) (by decide) rfl (rest := []) rfl (Or.inl (Nat.le_of_ble_eq_true rfl)) (t_M_merge hB ev19) ?_
    refine r_aload_n 0 dX12_refresh_97 rfl rfl ?_
    refine bnd hf (fun v20 ev20 hf => ?_)
    refine r_callVr (ci := 12) rfl dX12_refresh_98 cs_RX12_223 ww_1307 ww_45 (by decide) (hB.t0 _) (by decide) rfl (rest := []) rfl (Or.inl (Nat.le_of_ble_eq_true rfl)) (t_M_fourOf hB ev20) ?_
    refine r_istore_n (L' := [(1, _), (0, _)]) dX12_refresh_101 rfl (show 1 < 3 by decide) rfl ?_
    refine r_goto 87 dX12_refresh_102 (by decide) ?_
    refine r_sub (L' := [(0, _), (1, _)]) [1, 0] rfl ?_
    exact ih _ (Option.some.inj hf).symm
set_option maxRecDepth 100000 in
set_option maxHeartbeats 4000000 in
theorem t_M_refresh {Γ : W0} {τ : Mem} {B : Nat} {R : RS} {v : Int32} {R' : RS} (hB : RB τ B) (hf : M_refresh R = some (v, R')) : CT Γ MD_M_refresh yX12_refresh [va_rf (some B)] (emb τ B R) (some (.int v), (emb τ B R')) := by
  refine CT.of (L := [(0, va_rf (some B))]) rfl (by decide) (fun h => Bool.noConfusion (show false = true from h)) (Nat.le_of_ble_eq_true rfl) rfl ?_
  unfold M_refresh at hf
  generalize hr : mkR Γ (emb τ B R) (some (.int v)) (emb τ B R') = r
  refine r_aload_n 0 dX12_refresh_0 rfl rfl ?_
  refine bnd hf (fun v1 ev1 hf => ?_)
  refine r_callVr (ci := 12) rfl dX12_refresh_1 cs_RX12_210 ww_1295 ww_43 (by decide) (hB.t0 _) (by decide) rfl (rest := []) rfl (Or.inl (Nat.le_of_ble_eq_true rfl)) (t_M_inBuffer hB ev1) ?_
  refine r_bd (fun (q2 : RS) => V Γ MD_M_refresh (emb τ B R) r (emb τ B q2) 77 [(0, va_rf (some B))] []) hf (fun q2 hf => ?_) (fun yq2 hf kq2 => ?_)
  · refine r_aload_n 0 dX12_refresh_77 rfl rfl ?_
    refine r_iconst (0 : Int32) dX12_refresh_78 (by decide) ?_
    refine rr_stI hf hB dX12_refresh_79 fl_RX12_207 rfl rfl rfl (fun R16 eR16 hf => ?_)
    refine r_aload_n 0 dX12_refresh_82 rfl rfl ?_
    refine bnd hf (fun v17 ev17 hf => ?_)
    refine r_callVr (ci := 12) rfl dX12_refresh_83 cs_RX12_223 ww_1307 ww_45 (by decide) (hB.t0 _) (by decide) rfl (rest := []) rfl (Or.inl (Nat.le_of_ble_eq_true rfl)) (t_M_fourOf hB ev17) ?_
    refine r_istore_n (L' := [(1, _), (0, _)]) dX12_refresh_86 rfl (show 1 < 3 by decide) rfl ?_
    refine bnd hf (fun t21 et21 hf => ?_)
    refine r_sub (L' := [(0, _), (1, _)]) [1, 0] rfl ?_
    refine x_M_refresh_l87 hB ?_ _ et21
    · intro z22 hz22
      subst hz22
      refine r_aload_n 0 dX12_refresh_105 rfl rfl ?_
      refine rr_ldI (k := 16) hB dX12_refresh_106 fl_RX12_217 rfl ?_
      exact r_iret rfl dX12_refresh_109 (by obtain ⟨h1, h2⟩ := Prod.mk.inj (Option.some.inj hf); subst h1; subst h2; exact hr.symm)
  · refine r_if_le 77 hf dX12_refresh_4 (by decide) (fun c3 hf => ?_) (fun c3 hf => ?_)
    · refine r_sub (L' := [(0, _)]) [0] rfl ?_
      cases (Option.some.inj hf)
      exact kq2
    · refine r_aload_n 0 dX12_refresh_7 rfl rfl ?_
      refine rr_ldI (k := 16) hB dX12_refresh_8 fl_RX12_217 rfl ?_
      refine r_istore_n (L' := [(1, _), (0, _)]) dX12_refresh_11 rfl (show 1 < 3 by decide) rfl ?_
      refine r_aload_n 1 dX12_refresh_12 rfl rfl ?_
      refine r_dup dX12_refresh_13 (cat_rf _) ?_
      refine rr_ldI (k := 16) hB dX12_refresh_14 fl_RX12_217 rfl ?_
      refine r_iconst (1 : Int32) dX12_refresh_17 (by decide) ?_
      refine r_iadd dX12_refresh_18 ?_
      refine rr_stI hf hB dX12_refresh_19 fl_RX12_217 rfl rfl rfl (fun R4 eR4 hf => ?_)
      refine r_aload_n 1 dX12_refresh_22 rfl rfl ?_
      refine rr_ldR (c := 12) hB dX12_refresh_23 fl_RX12_47 rfl rfl (by decide) ?_
      refine r_iload_n 0 dX12_refresh_26 rfl rfl ?_
      refine r_iconst (0 : Int32) dX12_refresh_27 (by decide) ?_
      refine rr_waI hf hB dX12_refresh_28 (by decide) rfl (fun R5 eR5 hf => ?_)
      refine r_aload_n 1 dX12_refresh_29 rfl rfl ?_
      refine rr_ldR (c := 13) hB dX12_refresh_30 fl_RX12_50 rfl rfl (by decide) ?_
      refine r_iload_n 0 dX12_refresh_33 rfl rfl ?_
      refine r_iconst (0 : Int32) dX12_refresh_34 (by decide) ?_
      refine rr_waI hf hB dX12_refresh_35 (by decide) rfl (fun R6 eR6 hf => ?_)
      refine r_iconst (0 : Int32) dX12_refresh_36 (by decide) ?_
      refine r_istore_n (L' := [(2, _), (1, _), (0, _)]) dX12_refresh_37 rfl (show 2 < 3 by decide) rfl ?_
      refine bnd hf (fun t14 et14 hf => ?_)
      refine r_sub (L' := [(0, _), (1, _), (2, _)]) [2, 1, 0] rfl ?_
      refine x_M_refresh_l38 hB ?_ _ et14
      · intro z15 hz15
        subst hz15
        refine r_sub (L' := [(0, _)]) [0] rfl ?_
        cases (Option.some.inj hf)
        exact kq2
/-! SearchEngineModel.add -/
noncomputable def M_add_l14 (R : RS) (x1 : Int64) (x3 : Int32) (x4 : Int32) (x5 : Int32) (x6 : Int32) : Option (Int32 ⊕ Int32) :=
  if x5 ≤ x6 then
    some (Sum.inr x6)
  else
    (rdI R 1 600 x6).bind fun v3 =>
    if v3 = 0 then
      some (Sum.inr x6)
    else
      some (Sum.inl (x6 + (1 : Int32)))
noncomputable def M_add (R : RS) (x1 : Int64) (x3 : Int32) (x4 : Int32) : Option (Int32 × RS) :=
  (some (pI R 3 (0 : Int32))).bind fun R1 =>
  (lp (fun q => M_add_l14 R1 x1 x3 x4 (R.1 0 3) q) (0 : Int32)).bind fun z6 =>
  Option.bind (
    if (R.1 0 3) ≤ z6 then
      some (R.1 0 3)
    else
      some (z6 + (1 : Int32))) fun q7 =>
  if (100 : Int32) < z6 then
    some ((-2 : Int32), R1)
  else
    if ((R.1 0 3) - q7) ≤ (400 : Int32) then
      if ¬ (R1.1 0 4) = (400 : Int32) then
        (M_find R1 x1).bind fun v12 =>
        Option.bind (
          if v12 = (-1 : Int32) then
            some R1
          else
            (wrB R1 5 400 v12 true).bind fun R15 =>
            some R15) fun q13 =>
        (some (pI q13 4 ((q13.1 0 4) + (1 : Int32)))).bind fun R16 =>
        (wrL R16 2 400 (q13.1 0 4) x1).bind fun R17 =>
        (wrI R17 3 400 (q13.1 0 4) x3).bind fun R18 =>
        (wrI R18 4 400 (q13.1 0 4) x4).bind fun R19 =>
        (M_tokens R19 (q13.1 0 4) (0 : Int32) (0 : Int32) z6).bind fun v20 =>
        (M_tokens v20 (q13.1 0 4) (1 : Int32) q7 (R.1 0 3)).bind fun v21 =>
        (wrI v21 11 400 (v21.1 0 15) (q13.1 0 4)).bind fun R22 =>
        (some (pI R22 15 ((R22.1 0 15) + (1 : Int32)))).bind fun R23 =>
        (M_inBuffer R23).bind fun v24 =>
        Option.bind (
          if ¬ v24 = (16 : Int32) then
            some R23
          else
            (M_refresh R23).bind fun v27 =>
            some v27.2) fun q25 =>
        some ((q25.1 0 4), q25)
      else
        some ((-3 : Int32), R1)
    else
      some ((-2 : Int32), R1)
set_option maxRecDepth 100000 in
set_option maxHeartbeats 4000000 in
theorem x_M_add_l14 {Γ : W0} {σ0 : Mem} {r : RT} {τ : Mem} {B : Nat} {R : RS} {x1 : Int64} {x3 : Int32} {x4 : Int32} {x5 : Int32} {t : Int32} (hB : RB τ B) (hk0 : ∀ z : Int32, z = t → V Γ MD_M_add σ0 r (emb τ B R) 37 [(0, va_rf (some B)), (1, .long x1), (3, .int x3), (4, .int x4), (5, .int x5), (6, .int z)] []) : ∀ q : Int32, lp (fun q => M_add_l14 R x1 x3 x4 x5 q) q = some t → V Γ MD_M_add σ0 r (emb τ B R) 14 [(0, va_rf (some B)), (1, .long x1), (3, .int x3), (4, .int x4), (5, .int x5), (6, .int q)] [] := by
  refine lp_ind (fun (q : Int32) => V Γ MD_M_add σ0 r (emb τ B R) 14 [(0, va_rf (some B)), (1, .long x1), (3, .int x3), (4, .int x4), (5, .int x5), (6, .int q)] []) (fun q x hf ih ho => ?_)
  revert hf ih
  generalize q = x6
  intro hf ih
  show V Γ MD_M_add σ0 r (emb τ B R) 14 [(0, va_rf (some B)), (1, .long x1), (3, .int x3), (4, .int x4), (5, .int x5), (6, .int x6)] []
  replace hf : M_add_l14 R x1 x3 x4 x5 x6 = some x := hf
  unfold M_add_l14 at hf
  refine r_iload 5 dX12_add_14 rfl ?_
  refine r_iload 4 dX12_add_16 rfl ?_
  refine r_icmp_ge 37 hf dX12_add_18 (by decide) (fun c2 hf => ?_) (fun c2 hf => ?_)
  · refine r_sub (L' := [(0, _), (1, _), (3, _), (4, _), (5, _), (6, _)]) [0, 1, 2, 3, 4, 5] rfl ?_
    exact hk0 _ (ho _ (Option.some.inj hf).symm)
  · refine r_aload_n 0 dX12_add_21 rfl rfl ?_
    refine rr_ldR (c := 1) hB dX12_add_22 fl_RX12_7 rfl rfl (by decide) ?_
    refine r_iload 5 dX12_add_25 rfl ?_
    refine rr_raI hf hB dX12_add_27 (by decide) rfl (fun v3 ev3 hf => ?_)
    refine r_if_eq 37 hf dX12_add_28 (by decide) (fun c4 hf => ?_) (fun c4 hf => ?_)
    · refine r_sub (L' := [(0, _), (1, _), (3, _), (4, _), (5, _), (6, _)]) [0, 1, 2, 3, 4, 5] rfl ?_
      exact hk0 _ (ho _ (Option.some.inj hf).symm)
    · refine r_iinc (1 : Int32) (L' := [(6, _), (0, _), (1, _), (3, _), (4, _), (5, _)]) 5 dX12_add_31 rfl (by decide) (show 6 < 10 by decide) rfl ?_
      refine r_goto 14 dX12_add_34 (by decide) ?_
      refine r_sub (L' := [(0, _), (1, _), (3, _), (4, _), (5, _), (6, _)]) [1, 2, 3, 4, 5, 0] rfl ?_
      exact ih _ (Option.some.inj hf).symm
set_option maxRecDepth 100000 in
set_option maxHeartbeats 4000000 in
theorem t_M_add {Γ : W0} {τ : Mem} {B : Nat} {R : RS} {x1 : Int64} {x3 : Int32} {x4 : Int32} {v : Int32} {R' : RS} (hB : RB τ B) (hf : M_add R x1 x3 x4 = some (v, R')) : CT Γ MD_M_add yX12_add [va_rf (some B), .long x1, .int x3, .int x4] (emb τ B R) (some (.int v), (emb τ B R')) := by
  refine CT.of (L := [(0, va_rf (some B)), (1, .long x1), (3, .int x3), (4, .int x4)]) rfl (by decide) (fun h => Bool.noConfusion (show false = true from h)) (Nat.le_of_ble_eq_true rfl) rfl ?_
  unfold M_add at hf
  generalize hr : mkR Γ (emb τ B R) (some (.int v)) (emb τ B R') = r
  refine r_aload_n 0 dX12_add_0 rfl rfl ?_
  refine rr_ldI (k := 3) hB dX12_add_1 fl_RX12_168 rfl ?_
  refine r_istore (L' := [(5, _), (0, _), (1, _), (3, _), (4, _)]) dX12_add_4 (show 5 < 10 by decide) rfl ?_
  refine r_aload_n 1 dX12_add_6 rfl rfl ?_
  refine r_iconst (0 : Int32) dX12_add_7 (by decide) ?_
  refine rr_stI hf hB dX12_add_8 fl_RX12_168 rfl rfl rfl (fun R1 eR1 hf => ?_)
  refine r_iconst (0 : Int32) dX12_add_11 (by decide) ?_
  refine r_istore (L' := [(6, _), (5, _), (0, _), (1, _), (3, _), (4, _)]) dX12_add_12 (show 6 < 10 by decide) rfl ?_
  refine bnd hf (fun t5 et5 hf => ?_)
  refine r_sub (L' := [(0, _), (1, _), (3, _), (4, _), (5, _), (6, _)]) [2, 3, 4, 5, 1, 0] rfl ?_
  refine x_M_add_l14 hB ?_ _ et5
  · intro z6 hz6
    subst hz6
    refine r_iload 5 dX12_add_37 rfl ?_
    refine r_iload 4 dX12_add_39 rfl ?_
    refine r_bd (fun (q7 : Int32) => V Γ MD_M_add (emb τ B R) r (emb τ B R1) 53 [(0, va_rf (some B)), (1, .long x1), (3, .int x3), (4, .int x4), (5, .int (R.1 0 3)), (6, .int z6)] [.int q7]) hf (fun q7 hf => ?_) (fun yq7 hf kq7 => ?_)
    · refine r_istore (L' := [(7, _), (0, _), (1, _), (3, _), (4, _), (5, _), (6, _)]) dX12_add_53 (show 7 < 10 by decide) rfl ?_
      refine r_iload 6 dX12_add_55 rfl ?_
      refine r_bipush (100 : Int32) dX12_add_57 (by decide) ?_
      refine r_icmp_gt 73 hf dX12_add_59 (by decide) (fun c9 hf => ?_) (fun c9 hf => ?_)
      · refine r_bipush (-2 : Int32) dX12_add_73 (by decide) ?_
        exact r_iret rfl dX12_add_75 (by obtain ⟨h1, h2⟩ := Prod.mk.inj (Option.some.inj hf); subst h1; subst h2; exact hr.symm)
      · refine r_iload 5 dX12_add_62 rfl ?_
        refine r_iload 0 dX12_add_64 rfl ?_
        refine r_isub dX12_add_66 ?_
        refine r_sipush (400 : Int32) dX12_add_67 (by decide) ?_
        refine r_icmp_le 76 hf dX12_add_70 (by decide) (fun c10 hf => ?_) (fun c10 hf => ?_)
        · refine r_aload_n 1 dX12_add_76 rfl rfl ?_
          refine rr_ldI (k := 4) hB dX12_add_77 fl_RX12_196 rfl ?_
          refine r_sipush (400 : Int32) dX12_add_80 (by decide) ?_
          refine r_icmp_ne 89 hf dX12_add_83 (by decide) (fun c11 hf => ?_) (fun c11 hf => ?_)
          · refine r_aload_n 1 dX12_add_89 rfl rfl ?_
            refine r_lload_n 2 dX12_add_90 rfl rfl ?_
            refine bnd hf (fun v12 ev12 hf => ?_)
            refine r_callVr (ci := 12) rfl dX12_add_91 cs_RX12_199 ww_1266 ww_38 (by decide) (hB.t0 _) (by decide) rfl (rest := []) rfl (Or.inl (Nat.le_of_ble_eq_true rfl)) (t_M_find hB ev12) ?_
            refine r_istore (L' := [(8, _), (7, _), (0, _), (1, _), (3, _), (4, _), (5, _), (6, _)]) dX12_add_94 (show 8 < 10 by decide) rfl ?_
            refine r_iload 0 dX12_add_96 rfl ?_
            refine r_iconst (-1 : Int32) dX12_add_98 (by decide) ?_
            refine r_bd (fun (q13 : RS) => V Γ MD_M_add (emb τ B R) r (emb τ B q13) 110 [(0, va_rf (some B)), (1, .long x1), (3, .int x3), (4, .int x4), (5, .int (R.1 0 3)), (6, .int z6), (7, .int q7)] []) hf (fun q13 hf => ?_) (fun yq13 hf kq13 => ?_)
            · refine r_aload_n 0 dX12_add_110 rfl rfl ?_
              refine rr_ldI (k := 4) hB dX12_add_111 fl_RX12_196 rfl ?_
              refine r_istore (L' := [(9, _), (0, _), (1, _), (3, _), (4, _), (5, _), (6, _), (7, _)]) dX12_add_114 (show 9 < 10 by decide) rfl ?_
              refine r_aload_n 1 dX12_add_116 rfl rfl ?_
              refine r_dup dX12_add_117 (cat_rf _) ?_
              refine rr_ldI (k := 4) hB dX12_add_118 fl_RX12_196 rfl ?_
              refine r_iconst (1 : Int32) dX12_add_121 (by decide) ?_
              refine r_iadd dX12_add_122 ?_
              refine rr_stI hf hB dX12_add_123 fl_RX12_196 rfl rfl rfl (fun R16 eR16 hf => ?_)
              refine r_aload_n 1 dX12_add_126 rfl rfl ?_
              refine rr_ldR (c := 2) hB dX12_add_127 fl_RX12_13 rfl rfl (by decide) ?_
              refine r_iload 0 dX12_add_130 rfl ?_
              refine r_lload_n 2 dX12_add_132 rfl rfl ?_
              refine rr_waL hf hB dX12_add_133 (by decide) rfl (fun R17 eR17 hf => ?_)
              refine r_aload_n 1 dX12_add_134 rfl rfl ?_
              refine rr_ldR (c := 3) hB dX12_add_135 fl_RX12_17 rfl rfl (by decide) ?_
              refine r_iload 0 dX12_add_138 rfl ?_
              refine r_iload_n 3 dX12_add_140 rfl rfl ?_
              refine rr_waI hf hB dX12_add_141 (by decide) rfl (fun R18 eR18 hf => ?_)
              refine r_aload_n 1 dX12_add_142 rfl rfl ?_
              refine rr_ldR (c := 4) hB dX12_add_143 fl_RX12_20 rfl rfl (by decide) ?_
              refine r_iload 0 dX12_add_146 rfl ?_
              refine r_iload 4 dX12_add_148 rfl ?_
              refine rr_waI hf hB dX12_add_150 (by decide) rfl (fun R19 eR19 hf => ?_)
              refine r_aload_n 1 dX12_add_151 rfl rfl ?_
              refine r_iload 0 dX12_add_152 rfl ?_
              refine r_iconst (0 : Int32) dX12_add_154 (by decide) ?_
              refine r_iconst (0 : Int32) dX12_add_155 (by decide) ?_
              refine r_iload 6 dX12_add_156 rfl ?_
              refine bnd hf (fun v20 ev20 hf => ?_)
              refine r_callVv (ci := 12) rfl dX12_add_158 cs_RX12_203 ww_1270 ww_39 (by decide) (hB.t0 _) (by decide) rfl (rest := []) rfl (Or.inl (Nat.le_of_ble_eq_true rfl)) (t_M_tokens hB ev20) ?_
              refine r_aload_n 1 dX12_add_161 rfl rfl ?_
              refine r_iload 0 dX12_add_162 rfl ?_
              refine r_iconst (1 : Int32) dX12_add_164 (by decide) ?_
              refine r_iload 7 dX12_add_165 rfl ?_
              refine r_iload 5 dX12_add_167 rfl ?_
              refine bnd hf (fun v21 ev21 hf => ?_)
              refine r_callVv (ci := 12) rfl dX12_add_169 cs_RX12_203 ww_1270 ww_39 (by decide) (hB.t0 _) (by decide) rfl (rest := []) rfl (Or.inl (Nat.le_of_ble_eq_true rfl)) (t_M_tokens hB ev21) ?_
              refine r_aload_n 1 dX12_add_172 rfl rfl ?_
              refine rr_ldR (c := 11) hB dX12_add_173 fl_RX12_44 rfl rfl (by decide) ?_
              refine r_aload_n 1 dX12_add_176 rfl rfl ?_
              refine rr_ldI (k := 15) hB dX12_add_177 fl_RX12_207 rfl ?_
              refine r_iload 0 dX12_add_180 rfl ?_
              refine rr_waI hf hB dX12_add_182 (by decide) rfl (fun R22 eR22 hf => ?_)
              refine r_aload_n 1 dX12_add_183 rfl rfl ?_
              refine r_dup dX12_add_184 (cat_rf _) ?_
              refine rr_ldI (k := 15) hB dX12_add_185 fl_RX12_207 rfl ?_
              refine r_iconst (1 : Int32) dX12_add_188 (by decide) ?_
              refine r_iadd dX12_add_189 ?_
              refine rr_stI hf hB dX12_add_190 fl_RX12_207 rfl rfl rfl (fun R23 eR23 hf => ?_)
              refine r_aload_n 1 dX12_add_193 rfl rfl ?_
              refine bnd hf (fun v24 ev24 hf => ?_)
              refine r_callVr (ci := 12) rfl dX12_add_194 cs_RX12_210 ww_1295 ww_43 (by decide) (hB.t0 _) (by decide) rfl (rest := []) rfl (Or.inl (Nat.le_of_ble_eq_true rfl)) (t_M_inBuffer hB ev24) ?_
              refine r_bipush (16 : Int32) dX12_add_197 (by decide) ?_
              refine r_bd (fun (q25 : RS) => V Γ MD_M_add (emb τ B R) r (emb τ B q25) 207 [(0, va_rf (some B))] []) hf (fun q25 hf => ?_) (fun yq25 hf kq25 => ?_)
              · refine r_aload_n 0 dX12_add_207 rfl rfl ?_
                refine rr_ldI (k := 4) hB dX12_add_208 fl_RX12_196 rfl ?_
                exact r_iret rfl dX12_add_211 (by obtain ⟨h1, h2⟩ := Prod.mk.inj (Option.some.inj hf); subst h1; subst h2; exact hr.symm)
              · refine r_icmp_ne 207 hf dX12_add_199 (by decide) (fun c26 hf => ?_) (fun c26 hf => ?_)
                · refine r_sub (L' := [(0, _)]) [1] rfl ?_
                  cases (Option.some.inj hf)
                  exact kq25
                · refine r_aload_n 1 dX12_add_202 rfl rfl ?_
                  refine bnd hf (fun v27 ev27 hf => ?_)
                  refine r_callVr (ci := 12) rfl dX12_add_203 cs_RX12_214 ww_1298 ww_1299 (by decide) (hB.t0 _) (by decide) rfl (rest := []) rfl (Or.inl (Nat.le_of_ble_eq_true rfl)) (t_M_refresh hB ev27) ?_
                  refine r_pop dX12_add_206 rfl ?_
                  refine r_sub (L' := [(0, _)]) [1] rfl ?_
                  cases (Option.some.inj hf)
                  exact kq25
            · refine r_icmp_eq 110 hf dX12_add_99 (by decide) (fun c14 hf => ?_) (fun c14 hf => ?_)
              · refine r_sub (L' := [(0, _), (1, _), (3, _), (4, _), (5, _), (6, _), (7, _)]) [2, 3, 4, 5, 6, 7, 1] rfl ?_
                cases (Option.some.inj hf)
                exact kq13
              · refine r_aload_n 2 dX12_add_102 rfl rfl ?_
                refine rr_ldR (c := 5) hB dX12_add_103 fl_RX12_23 rfl rfl (by decide) ?_
                refine r_iload 0 dX12_add_106 rfl ?_
                refine r_iconst (b2i true) dX12_add_108 rfl ?_
                refine rr_waB hf hB dX12_add_109 (by decide) rfl (fun R15 eR15 hf => ?_)
                refine r_sub (L' := [(0, _), (1, _), (3, _), (4, _), (5, _), (6, _), (7, _)]) [2, 3, 4, 5, 6, 7, 1] rfl ?_
                cases (Option.some.inj hf)
                exact kq13
          · refine r_bipush (-3 : Int32) dX12_add_86 (by decide) ?_
            exact r_iret rfl dX12_add_88 (by obtain ⟨h1, h2⟩ := Prod.mk.inj (Option.some.inj hf); subst h1; subst h2; exact hr.symm)
        · refine r_bipush (-2 : Int32) dX12_add_73 (by decide) ?_
          exact r_iret rfl dX12_add_75 (by obtain ⟨h1, h2⟩ := Prod.mk.inj (Option.some.inj hf); subst h1; subst h2; exact hr.symm)
    · refine r_icmp_ge 51 hf dX12_add_41 (by decide) (fun c8 hf => ?_) (fun c8 hf => ?_)
      · refine r_iload 4 dX12_add_51 rfl ?_
        refine r_sub (L' := [(0, _), (1, _), (3, _), (4, _), (5, _), (6, _)]) [0, 1, 2, 3, 4, 5] rfl ?_
        cases (Option.some.inj hf)
        exact kq7
      · refine r_iload 5 dX12_add_44 rfl ?_
        refine r_iconst (1 : Int32) dX12_add_46 (by decide) ?_
        refine r_iadd dX12_add_47 ?_
        refine r_goto 53 dX12_add_48 (by decide) ?_
        refine r_sub (L' := [(0, _), (1, _), (3, _), (4, _), (5, _), (6, _)]) [0, 1, 2, 3, 4, 5] rfl ?_
        cases (Option.some.inj hf)
        exact kq7
/-! SearchEngineModel.delete -/
noncomputable def M_delete (R : RS) (x1 : Int64) : Option (Bool × RS) :=
  (M_find R x1).bind fun v1 =>
  if ¬ v1 = (-1 : Int32) then
    (wrB R 5 400 v1 true).bind fun R3 =>
    some (true, R3)
  else
    some (false, R)
set_option maxRecDepth 100000 in
set_option maxHeartbeats 4000000 in
theorem t_M_delete {Γ : W0} {τ : Mem} {B : Nat} {R : RS} {x1 : Int64} {v : Bool} {R' : RS} (hB : RB τ B) (hf : M_delete R x1 = some (v, R')) : CT Γ MD_M_delete yX12_delete [va_rf (some B), .long x1] (emb τ B R) (some (.int (b2i v)), (emb τ B R')) := by
  refine CT.of (L := [(0, va_rf (some B)), (1, .long x1)]) rfl (by decide) (fun h => Bool.noConfusion (show false = true from h)) (Nat.le_of_ble_eq_true rfl) rfl ?_
  unfold M_delete at hf
  generalize hr : mkR Γ (emb τ B R) (some (.int (b2i v))) (emb τ B R') = r
  refine r_aload_n 0 dX12_delete_0 rfl rfl ?_
  refine r_lload_n 1 dX12_delete_1 rfl rfl ?_
  refine bnd hf (fun v1 ev1 hf => ?_)
  refine r_callVr (ci := 12) rfl dX12_delete_2 cs_RX12_199 ww_1266 ww_38 (by decide) (hB.t0 _) (by decide) rfl (rest := []) rfl (Or.inl (Nat.le_of_ble_eq_true rfl)) (t_M_find hB ev1) ?_
  refine r_istore_n (L' := [(3, _), (0, _), (1, _)]) dX12_delete_5 rfl (show 3 < 4 by decide) rfl ?_
  refine r_iload_n 0 dX12_delete_6 rfl rfl ?_
  refine r_iconst (-1 : Int32) dX12_delete_7 (by decide) ?_
  refine r_icmp_ne 13 hf dX12_delete_8 (by decide) (fun c2 hf => ?_) (fun c2 hf => ?_)
  · refine r_aload_n 1 dX12_delete_13 rfl rfl ?_
    refine rr_ldR (c := 5) hB dX12_delete_14 fl_RX12_23 rfl rfl (by decide) ?_
    refine r_iload_n 0 dX12_delete_17 rfl rfl ?_
    refine r_iconst (b2i true) dX12_delete_18 rfl ?_
    refine rr_waB hf hB dX12_delete_19 (by decide) rfl (fun R3 eR3 hf => ?_)
    refine r_iconst (b2i true) dX12_delete_20 rfl ?_
    exact r_zret rfl dX12_delete_21 (by obtain ⟨h1, h2⟩ := Prod.mk.inj (Option.some.inj hf); subst h1; subst h2; exact hr.symm)
  · refine r_iconst (b2i false) dX12_delete_11 rfl ?_
    exact r_zret rfl dX12_delete_12 (by obtain ⟨h1, h2⟩ := Prod.mk.inj (Option.some.inj hf); subst h1; subst h2; exact hr.symm)
/-! SearchEngineModel.isView -/
noncomputable def M_isView (R : RS) (x1 : Int32) : Option Bool :=
  (M_in x1 (0 : Int32) (3 : Int32)).bind fun v1 =>
  if v1 = true then
    (rdB R 15 4 x1).bind fun v3 =>
    if v3 = true then
      some true
    else
      some false
  else
    some false
set_option maxRecDepth 100000 in
set_option maxHeartbeats 4000000 in
theorem t_M_isView {Γ : W0} {τ : Mem} {B : Nat} {R : RS} {x1 : Int32} {v : Bool} (hB : RB τ B) (hf : M_isView R x1 = some v) : CT Γ MD_M_isView yX12_isView [va_rf (some B), .int x1] (emb τ B R) (some (.int (b2i v)), (emb τ B R)) := by
  refine CT.of (L := [(0, va_rf (some B)), (1, .int x1)]) rfl (by decide) (fun h => Bool.noConfusion (show false = true from h)) (Nat.le_of_ble_eq_true rfl) rfl ?_
  unfold M_isView at hf
  generalize hr : mkR Γ (emb τ B R) (some (.int (b2i v))) (emb τ B R) = r
  refine r_iload_n 1 dX12_isView_0 rfl rfl ?_
  refine r_iconst (0 : Int32) dX12_isView_1 (by decide) ?_
  refine r_iconst (3 : Int32) dX12_isView_2 (by decide) ?_
  refine bnd hf (fun v1 ev1 hf => ?_)
  refine r_callSr dX12_isView_3 cs_RX12_164 ww_1258 (by decide) rfl (rest := []) rfl (Or.inl (Nat.le_of_ble_eq_true rfl)) (t_M_in ev1) ?_
  refine r_ifeqZ 22 hf dX12_isView_6 (by decide) (fun c2 hf => ?_) (fun c2 hf => ?_)
  · refine r_aload_n 0 dX12_isView_9 rfl rfl ?_
    refine rr_ldR (c := 15) hB dX12_isView_10 fl_RX12_57 rfl rfl (by decide) ?_
    refine r_iload_n 1 dX12_isView_13 rfl rfl ?_
    refine rr_raB hf hB dX12_isView_14 (by decide) rfl (fun v3 ev3 hf => ?_)
    refine r_ifeqZ 22 hf dX12_isView_15 (by decide) (fun c4 hf => ?_) (fun c4 hf => ?_)
    · refine r_iconst (b2i true) dX12_isView_18 rfl ?_
      refine r_goto 23 dX12_isView_19 (by decide) ?_
      exact r_zret rfl dX12_isView_23 (by have h1 := (Option.some.inj hf); subst h1; exact hr.symm)
    · refine r_iconst (b2i false) dX12_isView_22 rfl ?_
      exact r_zret rfl dX12_isView_23 (by have h1 := (Option.some.inj hf); subst h1; exact hr.symm)
  · refine r_iconst (b2i false) dX12_isView_22 rfl ?_
    exact r_zret rfl dX12_isView_23 (by have h1 := (Option.some.inj hf); subst h1; exact hr.symm)
/-! SearchEngineModel.open -/
noncomputable def M_open_l2 (R : RS) (x1 : Int32) : Option (Int32 ⊕ Int32) :=
  if (4 : Int32) ≤ x1 then
    some (Sum.inr x1)
  else
    (rdB R 15 4 x1).bind fun v2 =>
    if v2 = true then
      some (Sum.inl (x1 + (1 : Int32)))
    else
      some (Sum.inr x1)
noncomputable def M_open_l66 (R : RS) (x1 : Int32) (x2 : Int32) (x3 : Int32) : Option ((Int32 × RS) ⊕ RS) :=
  (rdI R 13 420 x2).bind fun v11 =>
  if v11 ≤ x3 then
    some (Sum.inr R)
  else
    (rdI R 14 168000 (((400 : Int32) * x2) + x3)).bind fun v13 =>
    (rdI R 17 4 x1).bind fun v14 =>
    (wrI R 18 1600 (((400 : Int32) * x1) + v14) v13).bind fun R15 =>
    (rdI R15 17 4 x1).bind fun v16 =>
    (rdB R15 5 400 v13).bind fun v17 =>
    (wrB R15 19 1600 (((400 : Int32) * x1) + v16) v17).bind fun R18 =>
    (rdI R18 17 4 x1).bind fun v19 =>
    (wrI R18 17 4 x1 (v19 + (1 : Int32))).bind fun R20 =>
    some (Sum.inl ((x3 + (1 : Int32)), R20))
noncomputable def M_open_l56 (R : RS) (x1 : Int32) (x2 : Int32) : Option ((Int32 × RS) ⊕ RS) :=
  if (R.1 0 16) ≤ x2 then
    some (Sum.inr R)
  else
    (lp (fun q => M_open_l66 q.2 x1 x2 q.1) ((0 : Int32), R)).bind fun z22 =>
    some (Sum.inl ((x2 + (1 : Int32)), z22))
noncomputable def M_open (R : RS) : Option (Int32 × RS) :=
  (lp (fun q => M_open_l2 R q) (0 : Int32)).bind fun z5 =>
  if ¬ z5 = (4 : Int32) then
    (wrB R 15 4 z5 true).bind fun R7 =>
    (wrI R7 16 4 z5 (R7.1 0 16)).bind fun R8 =>
    (wrI R8 17 4 z5 (0 : Int32)).bind fun R9 =>
    (lp (fun q => M_open_l56 q.2 z5 q.1) ((0 : Int32), R9)).bind fun z24 =>
    some (z5, z24)
  else
    some ((-3 : Int32), R)
set_option maxRecDepth 100000 in
set_option maxHeartbeats 4000000 in
theorem x_M_open_l2 {Γ : W0} {σ0 : Mem} {r : RT} {τ : Mem} {B : Nat} {R : RS} {t : Int32} (hB : RB τ B) (hk0 : ∀ z : Int32, z = t → V Γ MD_M_open σ0 r (emb τ B R) 22 [(0, va_rf (some B)), (1, .int z)] []) : ∀ q : Int32, lp (fun q => M_open_l2 R q) q = some t → V Γ MD_M_open σ0 r (emb τ B R) 2 [(0, va_rf (some B)), (1, .int q)] [] := by
  refine lp_ind (fun (q : Int32) => V Γ MD_M_open σ0 r (emb τ B R) 2 [(0, va_rf (some B)), (1, .int q)] []) (fun q x hf ih ho => ?_)
  revert hf ih
  generalize q = x1
  intro hf ih
  show V Γ MD_M_open σ0 r (emb τ B R) 2 [(0, va_rf (some B)), (1, .int x1)] []
  replace hf : M_open_l2 R x1 = some x := hf
  unfold M_open_l2 at hf
  refine r_iload_n 1 dX12_open_2 rfl rfl ?_
  refine r_iconst (4 : Int32) dX12_open_3 (by decide) ?_
  refine r_icmp_ge 22 hf dX12_open_4 (by decide) (fun c1 hf => ?_) (fun c1 hf => ?_)
  · refine r_sub (L' := [(0, _), (1, _)]) [0, 1] rfl ?_
    exact hk0 _ (ho _ (Option.some.inj hf).symm)
  · refine r_aload_n 0 dX12_open_7 rfl rfl ?_
    refine rr_ldR (c := 15) hB dX12_open_8 fl_RX12_57 rfl rfl (by decide) ?_
    refine r_iload_n 1 dX12_open_11 rfl rfl ?_
    refine rr_raB hf hB dX12_open_12 (by decide) rfl (fun v2 ev2 hf => ?_)
    refine r_ifeqZ 22 hf dX12_open_13 (by decide) (fun c3 hf => ?_) (fun c3 hf => ?_)
    · refine r_iinc (1 : Int32) (L' := [(1, _), (0, _)]) 1 dX12_open_16 rfl (by decide) (show 1 < 5 by decide) rfl ?_
      refine r_goto 2 dX12_open_19 (by decide) ?_
      refine r_sub (L' := [(0, _), (1, _)]) [1, 0] rfl ?_
      exact ih _ (Option.some.inj hf).symm
    · refine r_sub (L' := [(0, _), (1, _)]) [0, 1] rfl ?_
      exact hk0 _ (ho _ (Option.some.inj hf).symm)
set_option maxRecDepth 100000 in
set_option maxHeartbeats 4000000 in
theorem x_M_open_l66 {Γ : W0} {σ0 : Mem} {r : RT} {τ : Mem} {B : Nat} {x1 : Int32} {x2 : Int32} {t : RS} (hB : RB τ B) (hk0 : ∀ z : RS, z = t → V Γ MD_M_open σ0 r (emb τ B z) 149 [(0, va_rf (some B)), (1, .int x1), (2, .int x2)] []) : ∀ q : Int32 × RS, lp (fun q => M_open_l66 q.2 x1 x2 q.1) q = some t → V Γ MD_M_open σ0 r (emb τ B q.2) 66 [(0, va_rf (some B)), (1, .int x1), (2, .int x2), (3, .int q.1)] [] := by
  refine lp_ind (fun (q : Int32 × RS) => V Γ MD_M_open σ0 r (emb τ B q.2) 66 [(0, va_rf (some B)), (1, .int x1), (2, .int x2), (3, .int q.1)] []) (fun q x hf ih ho => ?_)
  obtain ⟨x3, R⟩ := q
  show V Γ MD_M_open σ0 r (emb τ B R) 66 [(0, va_rf (some B)), (1, .int x1), (2, .int x2), (3, .int x3)] []
  replace hf : M_open_l66 R x1 x2 x3 = some x := hf
  unfold M_open_l66 at hf
  refine r_iload_n 3 dX12_open_66 rfl rfl ?_
  refine r_aload_n 0 dX12_open_67 rfl rfl ?_
  refine rr_ldR (c := 13) hB dX12_open_68 fl_RX12_50 rfl rfl (by decide) ?_
  refine r_iload_n 2 dX12_open_71 rfl rfl ?_
  refine rr_raI hf hB dX12_open_72 (by decide) rfl (fun v11 ev11 hf => ?_)
  refine r_icmp_ge 149 hf dX12_open_73 (by decide) (fun c12 hf => ?_) (fun c12 hf => ?_)
  · refine r_sub (L' := [(0, _), (1, _), (2, _)]) [0, 1, 2] rfl ?_
    exact hk0 _ (ho _ (Option.some.inj hf).symm)
  · refine r_aload_n 0 dX12_open_76 rfl rfl ?_
    refine rr_ldR (c := 14) hB dX12_open_77 fl_RX12_54 rfl rfl (by decide) ?_
    refine r_sipush (400 : Int32) dX12_open_80 (by decide) ?_
    refine r_iload_n 2 dX12_open_83 rfl rfl ?_
    refine r_imul dX12_open_84 ?_
    refine r_iload_n 3 dX12_open_85 rfl rfl ?_
    refine r_iadd dX12_open_86 ?_
    refine rr_raI hf hB dX12_open_87 (by decide) rfl (fun v13 ev13 hf => ?_)
    refine r_istore (L' := [(4, _), (0, _), (1, _), (2, _), (3, _)]) dX12_open_88 (show 4 < 5 by decide) rfl ?_
    refine r_aload_n 1 dX12_open_90 rfl rfl ?_
    refine rr_ldR (c := 18) hB dX12_open_91 fl_RX12_66 rfl rfl (by decide) ?_
    refine r_sipush (400 : Int32) dX12_open_94 (by decide) ?_
    refine r_iload_n 2 dX12_open_97 rfl rfl ?_
    refine r_imul dX12_open_98 ?_
    refine r_aload_n 1 dX12_open_99 rfl rfl ?_
    refine rr_ldR (c := 17) hB dX12_open_100 fl_RX12_63 rfl rfl (by decide) ?_
    refine r_iload_n 2 dX12_open_103 rfl rfl ?_
    refine rr_raI hf hB dX12_open_104 (by decide) rfl (fun v14 ev14 hf => ?_)
    refine r_iadd dX12_open_105 ?_
    refine r_iload 0 dX12_open_106 rfl ?_
    refine rr_waI hf hB dX12_open_108 (by decide) rfl (fun R15 eR15 hf => ?_)
    refine r_aload_n 1 dX12_open_109 rfl rfl ?_
    refine rr_ldR (c := 19) hB dX12_open_110 fl_RX12_69 rfl rfl (by decide) ?_
    refine r_sipush (400 : Int32) dX12_open_113 (by decide) ?_
    refine r_iload_n 2 dX12_open_116 rfl rfl ?_
    refine r_imul dX12_open_117 ?_
    refine r_aload_n 1 dX12_open_118 rfl rfl ?_
    refine rr_ldR (c := 17) hB dX12_open_119 fl_RX12_63 rfl rfl (by decide) ?_
    refine r_iload_n 2 dX12_open_122 rfl rfl ?_
    refine rr_raI hf hB dX12_open_123 (by decide) rfl (fun v16 ev16 hf => ?_)
    refine r_iadd dX12_open_124 ?_
    refine r_aload_n 1 dX12_open_125 rfl rfl ?_
    refine rr_ldR (c := 5) hB dX12_open_126 fl_RX12_23 rfl rfl (by decide) ?_
    refine r_iload 0 dX12_open_129 rfl ?_
    refine rr_raB hf hB dX12_open_131 (by decide) rfl (fun v17 ev17 hf => ?_)
    refine rr_waB hf hB dX12_open_132 (by decide) rfl (fun R18 eR18 hf => ?_)
    refine r_aload_n 1 dX12_open_133 rfl rfl ?_
    refine rr_ldR (c := 17) hB dX12_open_134 fl_RX12_63 rfl rfl (by decide) ?_
    refine r_iload_n 2 dX12_open_137 rfl rfl ?_
    refine r_dup2 dX12_open_138 rfl (cat_rf _) ?_
    refine rr_raI hf hB dX12_open_139 (by decide) rfl (fun v19 ev19 hf => ?_)
    refine r_iconst (1 : Int32) dX12_open_140 (by decide) ?_
    refine r_iadd dX12_open_141 ?_
    refine rr_waI hf hB dX12_open_142 (by decide) rfl (fun R20 eR20 hf => ?_)
    refine r_iinc (1 : Int32) (L' := [(3, _), (4, _), (0, _), (1, _), (2, _)]) 4 dX12_open_143 rfl (by decide) (show 3 < 5 by decide) rfl ?_
    refine r_goto 66 dX12_open_146 (by decide) ?_
    refine r_sub (L' := [(0, _), (1, _), (2, _), (3, _)]) [2, 3, 4, 0] rfl ?_
    exact ih _ (Option.some.inj hf).symm
set_option maxRecDepth 100000 in
set_option maxHeartbeats 4000000 in
theorem x_M_open_l56 {Γ : W0} {σ0 : Mem} {r : RT} {τ : Mem} {B : Nat} {x1 : Int32} {t : RS} (hB : RB τ B) (hk0 : ∀ z : RS, z = t → V Γ MD_M_open σ0 r (emb τ B z) 155 [(1, .int x1)] []) : ∀ q : Int32 × RS, lp (fun q => M_open_l56 q.2 x1 q.1) q = some t → V Γ MD_M_open σ0 r (emb τ B q.2) 56 [(0, va_rf (some B)), (1, .int x1), (2, .int q.1)] [] := by
  refine lp_ind (fun (q : Int32 × RS) => V Γ MD_M_open σ0 r (emb τ B q.2) 56 [(0, va_rf (some B)), (1, .int x1), (2, .int q.1)] []) (fun q x hf ih ho => ?_)
  obtain ⟨x2, R⟩ := q
  show V Γ MD_M_open σ0 r (emb τ B R) 56 [(0, va_rf (some B)), (1, .int x1), (2, .int x2)] []
  replace hf : M_open_l56 R x1 x2 = some x := hf
  unfold M_open_l56 at hf
  refine r_iload_n 2 dX12_open_56 rfl rfl ?_
  refine r_aload_n 0 dX12_open_57 rfl rfl ?_
  refine rr_ldI (k := 16) hB dX12_open_58 fl_RX12_217 rfl ?_
  refine r_icmp_ge 155 hf dX12_open_61 (by decide) (fun c10 hf => ?_) (fun c10 hf => ?_)
  · refine r_sub (L' := [(1, _)]) [1] rfl ?_
    exact hk0 _ (ho _ (Option.some.inj hf).symm)
  · refine r_iconst (0 : Int32) dX12_open_64 (by decide) ?_
    refine r_istore_n (L' := [(3, _), (0, _), (1, _), (2, _)]) dX12_open_65 rfl (show 3 < 5 by decide) rfl ?_
    refine bnd hf (fun t21 et21 hf => ?_)
    refine r_sub (L' := [(0, _), (1, _), (2, _), (3, _)]) [1, 2, 3, 0] rfl ?_
    refine x_M_open_l66 hB ?_ _ et21
    · intro z22 hz22
      subst hz22
      refine r_iinc (1 : Int32) (L' := [(2, _), (0, _), (1, _)]) 2 dX12_open_149 rfl (by decide) (show 2 < 5 by decide) rfl ?_
      refine r_goto 56 dX12_open_152 (by decide) ?_
      refine r_sub (L' := [(0, _), (1, _), (2, _)]) [1, 2, 0] rfl ?_
      exact ih _ (Option.some.inj hf).symm
set_option maxRecDepth 100000 in
set_option maxHeartbeats 4000000 in
theorem t_M_open {Γ : W0} {τ : Mem} {B : Nat} {R : RS} {v : Int32} {R' : RS} (hB : RB τ B) (hf : M_open R = some (v, R')) : CT Γ MD_M_open yX12_open [va_rf (some B)] (emb τ B R) (some (.int v), (emb τ B R')) := by
  refine CT.of (L := [(0, va_rf (some B))]) rfl (by decide) (fun h => Bool.noConfusion (show false = true from h)) (Nat.le_of_ble_eq_true rfl) rfl ?_
  unfold M_open at hf
  generalize hr : mkR Γ (emb τ B R) (some (.int v)) (emb τ B R') = r
  refine r_iconst (0 : Int32) dX12_open_0 (by decide) ?_
  refine r_istore_n (L' := [(1, _), (0, _)]) dX12_open_1 rfl (show 1 < 5 by decide) rfl ?_
  refine bnd hf (fun t4 et4 hf => ?_)
  refine r_sub (L' := [(0, _), (1, _)]) [1, 0] rfl ?_
  refine x_M_open_l2 hB ?_ _ et4
  · intro z5 hz5
    subst hz5
    refine r_iload_n 1 dX12_open_22 rfl rfl ?_
    refine r_iconst (4 : Int32) dX12_open_23 (by decide) ?_
    refine r_icmp_ne 30 hf dX12_open_24 (by decide) (fun c6 hf => ?_) (fun c6 hf => ?_)
    · refine r_aload_n 0 dX12_open_30 rfl rfl ?_
      refine rr_ldR (c := 15) hB dX12_open_31 fl_RX12_57 rfl rfl (by decide) ?_
      refine r_iload_n 1 dX12_open_34 rfl rfl ?_
      refine r_iconst (b2i true) dX12_open_35 rfl ?_
      refine rr_waB hf hB dX12_open_36 (by decide) rfl (fun R7 eR7 hf => ?_)
      refine r_aload_n 0 dX12_open_37 rfl rfl ?_
      refine rr_ldR (c := 16) hB dX12_open_38 fl_RX12_60 rfl rfl (by decide) ?_
      refine r_iload_n 1 dX12_open_41 rfl rfl ?_
      refine r_aload_n 0 dX12_open_42 rfl rfl ?_
      refine rr_ldI (k := 16) hB dX12_open_43 fl_RX12_217 rfl ?_
      refine rr_waI hf hB dX12_open_46 (by decide) rfl (fun R8 eR8 hf => ?_)
      refine r_aload_n 0 dX12_open_47 rfl rfl ?_
      refine rr_ldR (c := 17) hB dX12_open_48 fl_RX12_63 rfl rfl (by decide) ?_
      refine r_iload_n 1 dX12_open_51 rfl rfl ?_
      refine r_iconst (0 : Int32) dX12_open_52 (by decide) ?_
      refine rr_waI hf hB dX12_open_53 (by decide) rfl (fun R9 eR9 hf => ?_)
      refine r_iconst (0 : Int32) dX12_open_54 (by decide) ?_
      refine r_istore_n (L' := [(2, _), (0, _), (1, _)]) dX12_open_55 rfl (show 2 < 5 by decide) rfl ?_
      refine bnd hf (fun t23 et23 hf => ?_)
      refine r_sub (L' := [(0, _), (1, _), (2, _)]) [1, 2, 0] rfl ?_
      refine x_M_open_l56 hB ?_ _ et23
      · intro z24 hz24
        subst hz24
        refine r_iload_n 0 dX12_open_155 rfl rfl ?_
        exact r_iret rfl dX12_open_156 (by obtain ⟨h1, h2⟩ := Prod.mk.inj (Option.some.inj hf); subst h1; subst h2; exact hr.symm)
    · refine r_bipush (-3 : Int32) dX12_open_27 (by decide) ?_
      exact r_iret rfl dX12_open_29 (by obtain ⟨h1, h2⟩ := Prod.mk.inj (Option.some.inj hf); subst h1; subst h2; exact hr.symm)
/-! SearchEngineModel.close -/
noncomputable def M_close (R : RS) (x1 : Int32) : Option (Int32 × RS) :=
  (M_isView R x1).bind fun v1 =>
  if v1 = true then
    (wrB R 15 4 x1 false).bind fun R3 =>
    some ((0 : Int32), R3)
  else
    some ((-2 : Int32), R)
set_option maxRecDepth 100000 in
set_option maxHeartbeats 4000000 in
theorem t_M_close {Γ : W0} {τ : Mem} {B : Nat} {R : RS} {x1 : Int32} {v : Int32} {R' : RS} (hB : RB τ B) (hf : M_close R x1 = some (v, R')) : CT Γ MD_M_close yX12_close [va_rf (some B), .int x1] (emb τ B R) (some (.int v), (emb τ B R')) := by
  refine CT.of (L := [(0, va_rf (some B)), (1, .int x1)]) rfl (by decide) (fun h => Bool.noConfusion (show false = true from h)) (Nat.le_of_ble_eq_true rfl) rfl ?_
  unfold M_close at hf
  generalize hr : mkR Γ (emb τ B R) (some (.int v)) (emb τ B R') = r
  refine r_aload_n 0 dX12_close_0 rfl rfl ?_
  refine r_iload_n 1 dX12_close_1 rfl rfl ?_
  refine bnd hf (fun v1 ev1 hf => ?_)
  refine r_callVr (ci := 12) rfl dX12_close_2 cs_RX12_236 ww_1332 ww_48 (by decide) (hB.t0 _) (by decide) rfl (rest := []) rfl (Or.inl (Nat.le_of_ble_eq_true rfl)) (t_M_isView hB ev1) ?_
  refine r_ifneZ 11 hf dX12_close_5 (by decide) (fun c2 hf => ?_) (fun c2 hf => ?_)
  · refine r_aload_n 0 dX12_close_11 rfl rfl ?_
    refine rr_ldR (c := 15) hB dX12_close_12 fl_RX12_57 rfl rfl (by decide) ?_
    refine r_iload_n 1 dX12_close_15 rfl rfl ?_
    refine r_iconst (b2i false) dX12_close_16 rfl ?_
    refine rr_waB hf hB dX12_close_17 (by decide) rfl (fun R3 eR3 hf => ?_)
    refine r_iconst (0 : Int32) dX12_close_18 (by decide) ?_
    exact r_iret rfl dX12_close_19 (by obtain ⟨h1, h2⟩ := Prod.mk.inj (Option.some.inj hf); subst h1; subst h2; exact hr.symm)
  · refine r_bipush (-2 : Int32) dX12_close_8 (by decide) ?_
    exact r_iret rfl dX12_close_10 (by obtain ⟨h1, h2⟩ := Prod.mk.inj (Option.some.inj hf); subst h1; subst h2; exact hr.symm)
/-! SearchEngineModel.read -/
noncomputable def M_read_l0 (R : RS) : Option (RS ⊕ RS) :=
  if (R.1 0 44) ≤ (R.1 0 43) then
    some (Sum.inr R)
  else
    (rdI R 1 600 (R.1 0 43)).bind fun v2 =>
    if ¬ v2 = (32 : Int32) then
      some (Sum.inr R)
    else
      (some (pI R 43 ((R.1 0 43) + (1 : Int32)))).bind fun R4 =>
      some (Sum.inl R4)
noncomputable def M_read_l83 (R : RS) : Option (RS ⊕ RS) :=
  if (R.1 0 44) ≤ (R.1 0 43) then
    some (Sum.inr R)
  else
    (rdI R 1 600 (R.1 0 43)).bind fun v14 =>
    (M_isLetter v14).bind fun v15 =>
    if v15 = true then
      (some (pI R 43 ((R.1 0 43) + (1 : Int32)))).bind fun R17 =>
      some (Sum.inl R17)
    else
      some (Sum.inr R)
noncomputable def M_read (R : RS) : Option RS :=
  (lp (fun q => M_read_l0 q) R).bind fun z6 =>
  (some (pI z6 41 (z6.1 0 43))).bind fun R7 =>
  (some (pI R7 42 (0 : Int32))).bind fun R8 =>
  if ¬ (R8.1 0 43) = (R8.1 0 44) then
    (rdI R8 1 600 (R8.1 0 43)).bind fun v10 =>
    (M_isLetter v10).bind fun v11 =>
    if v11 = true then
      (lp (fun q => M_read_l83 q) R8).bind fun z19 =>
      (some (pI z19 40 (1 : Int32))).bind fun R20 =>
      (some (pI R20 42 ((R20.1 0 43) - (R20.1 0 41)))).bind fun R21 =>
      some R21
    else
      (rdI R8 1 600 (R8.1 0 43)).bind fun v22 =>
      (some (pI R8 43 ((R8.1 0 43) + (1 : Int32)))).bind fun R23 =>
      Option.bind (
        if v22 = (40 : Int32) then
          some (1 : Int32)
        else
          if v22 = (41 : Int32) then
            some (1 : Int32)
          else
            if v22 = (124 : Int32) then
              some (1 : Int32)
            else
              if v22 = (45 : Int32) then
                some (1 : Int32)
              else
                if v22 = (42 : Int32) then
                  some (1 : Int32)
                else
                  if v22 = (34 : Int32) then
                    some (1 : Int32)
                  else
                    if v22 = (58 : Int32) then
                      some (1 : Int32)
                    else
                      if v22 = (126 : Int32) then
                        some (1 : Int32)
                      else
                        if v22 = (94 : Int32) then
                          some (1 : Int32)
                        else
                          if v22 = (91 : Int32) then
                            some (1 : Int32)
                          else
                            if ¬ v22 = (93 : Int32) then
                              some (0 : Int32)
                            else
                              some (1 : Int32)) fun q24 =>
      Option.bind (
        if q24 = 0 then
          some (2 : Int32)
        else
          some v22) fun q36 =>
      (some (pI R23 40 q36)).bind fun R38 =>
      some R38
  else
    (some (pI R8 40 (0 : Int32))).bind fun R39 =>
    some R39
set_option maxRecDepth 100000 in
set_option maxHeartbeats 4000000 in
theorem x_M_read_l0 {Γ : W0} {σ0 : Mem} {r : RT} {τ : Mem} {B : Nat} {t : RS} (hB : RB τ B) (hk0 : ∀ z : RS, z = t → V Γ MD_M_read σ0 r (emb τ B z) 38 [(0, va_rf (some B))] []) : ∀ q : RS, lp (fun q => M_read_l0 q) q = some t → V Γ MD_M_read σ0 r (emb τ B q) 0 [(0, va_rf (some B))] [] := by
  refine lp_ind (fun (q : RS) => V Γ MD_M_read σ0 r (emb τ B q) 0 [(0, va_rf (some B))] []) (fun q x hf ih ho => ?_)
  revert hf ih
  generalize q = R
  intro hf ih
  show V Γ MD_M_read σ0 r (emb τ B R) 0 [(0, va_rf (some B))] []
  replace hf : M_read_l0 R = some x := hf
  unfold M_read_l0 at hf
  refine r_aload_n 0 dX12_read_0 rfl rfl ?_
  refine rr_ldI (k := 43) hB dX12_read_1 fl_RX12_239 rfl ?_
  refine r_aload_n 0 dX12_read_4 rfl rfl ?_
  refine rr_ldI (k := 44) hB dX12_read_5 fl_RX12_242 rfl ?_
  refine r_icmp_ge 38 hf dX12_read_8 (by decide) (fun c1 hf => ?_) (fun c1 hf => ?_)
  · refine r_sub (L' := [(0, _)]) [0] rfl ?_
    exact hk0 _ (ho _ (Option.some.inj hf).symm)
  · refine r_aload_n 0 dX12_read_11 rfl rfl ?_
    refine rr_ldR (c := 1) hB dX12_read_12 fl_RX12_7 rfl rfl (by decide) ?_
    refine r_aload_n 0 dX12_read_15 rfl rfl ?_
    refine rr_ldI (k := 43) hB dX12_read_16 fl_RX12_239 rfl ?_
    refine rr_raI hf hB dX12_read_19 (by decide) rfl (fun v2 ev2 hf => ?_)
    refine r_bipush (32 : Int32) dX12_read_20 (by decide) ?_
    refine r_icmp_ne 38 hf dX12_read_22 (by decide) (fun c3 hf => ?_) (fun c3 hf => ?_)
    · refine r_sub (L' := [(0, _)]) [0] rfl ?_
      exact hk0 _ (ho _ (Option.some.inj hf).symm)
    · refine r_aload_n 0 dX12_read_25 rfl rfl ?_
      refine r_dup dX12_read_26 (cat_rf _) ?_
      refine rr_ldI (k := 43) hB dX12_read_27 fl_RX12_239 rfl ?_
      refine r_iconst (1 : Int32) dX12_read_30 (by decide) ?_
      refine r_iadd dX12_read_31 ?_
      refine rr_stI hf hB dX12_read_32 fl_RX12_239 rfl rfl rfl (fun R4 eR4 hf => ?_)
      refine r_goto 0 dX12_read_35 (by decide) ?_
      refine r_sub (L' := [(0, _)]) [0] rfl ?_
      exact ih _ (Option.some.inj hf).symm
set_option maxRecDepth 100000 in
set_option maxHeartbeats 4000000 in
theorem x_M_read_l83 {Γ : W0} {σ0 : Mem} {r : RT} {τ : Mem} {B : Nat} {t : RS} (hB : RB τ B) (hk0 : ∀ z : RS, z = t → V Γ MD_M_read σ0 r (emb τ B z) 122 [(0, va_rf (some B))] []) : ∀ q : RS, lp (fun q => M_read_l83 q) q = some t → V Γ MD_M_read σ0 r (emb τ B q) 83 [(0, va_rf (some B))] [] := by
  refine lp_ind (fun (q : RS) => V Γ MD_M_read σ0 r (emb τ B q) 83 [(0, va_rf (some B))] []) (fun q x hf ih ho => ?_)
  revert hf ih
  generalize q = R
  intro hf ih
  show V Γ MD_M_read σ0 r (emb τ B R) 83 [(0, va_rf (some B))] []
  replace hf : M_read_l83 R = some x := hf
  unfold M_read_l83 at hf
  refine r_aload_n 0 dX12_read_83 rfl rfl ?_
  refine rr_ldI (k := 43) hB dX12_read_84 fl_RX12_239 rfl ?_
  refine r_aload_n 0 dX12_read_87 rfl rfl ?_
  refine rr_ldI (k := 44) hB dX12_read_88 fl_RX12_242 rfl ?_
  refine r_icmp_ge 122 hf dX12_read_91 (by decide) (fun c13 hf => ?_) (fun c13 hf => ?_)
  · refine r_sub (L' := [(0, _)]) [0] rfl ?_
    exact hk0 _ (ho _ (Option.some.inj hf).symm)
  · refine r_aload_n 0 dX12_read_94 rfl rfl ?_
    refine rr_ldR (c := 1) hB dX12_read_95 fl_RX12_7 rfl rfl (by decide) ?_
    refine r_aload_n 0 dX12_read_98 rfl rfl ?_
    refine rr_ldI (k := 43) hB dX12_read_99 fl_RX12_239 rfl ?_
    refine rr_raI hf hB dX12_read_102 (by decide) rfl (fun v14 ev14 hf => ?_)
    refine bnd hf (fun v15 ev15 hf => ?_)
    refine r_callSr dX12_read_103 cs_RX12_185 ww_1273 (by decide) rfl (rest := []) rfl (Or.inl (Nat.le_of_ble_eq_true rfl)) (t_M_isLetter ev15) ?_
    refine r_ifeqZ 122 hf dX12_read_106 (by decide) (fun c16 hf => ?_) (fun c16 hf => ?_)
    · refine r_aload_n 0 dX12_read_109 rfl rfl ?_
      refine r_dup dX12_read_110 (cat_rf _) ?_
      refine rr_ldI (k := 43) hB dX12_read_111 fl_RX12_239 rfl ?_
      refine r_iconst (1 : Int32) dX12_read_114 (by decide) ?_
      refine r_iadd dX12_read_115 ?_
      refine rr_stI hf hB dX12_read_116 fl_RX12_239 rfl rfl rfl (fun R17 eR17 hf => ?_)
      refine r_goto 83 dX12_read_119 (by decide) ?_
      refine r_sub (L' := [(0, _)]) [0] rfl ?_
      exact ih _ (Option.some.inj hf).symm
    · refine r_sub (L' := [(0, _)]) [0] rfl ?_
      exact hk0 _ (ho _ (Option.some.inj hf).symm)
set_option maxRecDepth 100000 in
set_option maxHeartbeats 4000000 in
theorem t_M_read {Γ : W0} {τ : Mem} {B : Nat} {R : RS} {R' : RS} (hB : RB τ B) (hf : M_read R = some R') : CT Γ MD_M_read yX12_read [va_rf (some B)] (emb τ B R) (none, (emb τ B R')) := by
  refine CT.of (L := [(0, va_rf (some B))]) rfl (by decide) (fun h => Bool.noConfusion (show false = true from h)) (Nat.le_of_ble_eq_true rfl) rfl ?_
  unfold M_read at hf
  generalize hr : mkR Γ (emb τ B R) (none) (emb τ B R') = r
  refine bnd hf (fun t5 et5 hf => ?_)
  refine r_sub (L' := [(0, _)]) [0] rfl ?_
  refine x_M_read_l0 hB ?_ _ et5
  · intro z6 hz6
    subst hz6
    refine r_aload_n 0 dX12_read_38 rfl rfl ?_
    refine r_aload_n 0 dX12_read_39 rfl rfl ?_
    refine rr_ldI (k := 43) hB dX12_read_40 fl_RX12_239 rfl ?_
    refine rr_stI hf hB dX12_read_43 fl_RX12_245 rfl rfl rfl (fun R7 eR7 hf => ?_)
    refine r_aload_n 0 dX12_read_46 rfl rfl ?_
    refine r_iconst (0 : Int32) dX12_read_47 (by decide) ?_
    refine rr_stI hf hB dX12_read_48 fl_RX12_248 rfl rfl rfl (fun R8 eR8 hf => ?_)
    refine r_aload_n 0 dX12_read_51 rfl rfl ?_
    refine rr_ldI (k := 43) hB dX12_read_52 fl_RX12_239 rfl ?_
    refine r_aload_n 0 dX12_read_55 rfl rfl ?_
    refine rr_ldI (k := 44) hB dX12_read_56 fl_RX12_242 rfl ?_
    refine r_icmp_ne 68 hf dX12_read_59 (by decide) (fun c9 hf => ?_) (fun c9 hf => ?_)
    · refine r_aload_n 0 dX12_read_68 rfl rfl ?_
      refine rr_ldR (c := 1) hB dX12_read_69 fl_RX12_7 rfl rfl (by decide) ?_
      refine r_aload_n 0 dX12_read_72 rfl rfl ?_
      refine rr_ldI (k := 43) hB dX12_read_73 fl_RX12_239 rfl ?_
      refine rr_raI hf hB dX12_read_76 (by decide) rfl (fun v10 ev10 hf => ?_)
      refine bnd hf (fun v11 ev11 hf => ?_)
      refine r_callSr dX12_read_77 cs_RX12_185 ww_1273 (by decide) rfl (rest := []) rfl (Or.inl (Nat.le_of_ble_eq_true rfl)) (t_M_isLetter ev11) ?_
      refine r_ifeqZ 141 hf dX12_read_80 (by decide) (fun c12 hf => ?_) (fun c12 hf => ?_)
      · refine bnd hf (fun t18 et18 hf => ?_)
        refine r_sub (L' := [(0, _)]) [0] rfl ?_
        refine x_M_read_l83 hB ?_ _ et18
        · intro z19 hz19
          subst hz19
          refine r_aload_n 0 dX12_read_122 rfl rfl ?_
          refine r_iconst (1 : Int32) dX12_read_123 (by decide) ?_
          refine rr_stI hf hB dX12_read_124 fl_RX12_251 rfl rfl rfl (fun R20 eR20 hf => ?_)
          refine r_aload_n 0 dX12_read_127 rfl rfl ?_
          refine r_aload_n 0 dX12_read_128 rfl rfl ?_
          refine rr_ldI (k := 43) hB dX12_read_129 fl_RX12_239 rfl ?_
          refine r_aload_n 0 dX12_read_132 rfl rfl ?_
          refine rr_ldI (k := 41) hB dX12_read_133 fl_RX12_245 rfl ?_
          refine r_isub dX12_read_136 ?_
          refine rr_stI hf hB dX12_read_137 fl_RX12_248 rfl rfl rfl (fun R21 eR21 hf => ?_)
          exact r_vret rfl dX12_read_140 (by have h1 := (Option.some.inj hf); subst h1; exact hr.symm)
      · refine r_aload_n 0 dX12_read_141 rfl rfl ?_
        refine rr_ldR (c := 1) hB dX12_read_142 fl_RX12_7 rfl rfl (by decide) ?_
        refine r_aload_n 0 dX12_read_145 rfl rfl ?_
        refine rr_ldI (k := 43) hB dX12_read_146 fl_RX12_239 rfl ?_
        refine rr_raI hf hB dX12_read_149 (by decide) rfl (fun v22 ev22 hf => ?_)
        refine r_istore_n (L' := [(1, _), (0, _)]) dX12_read_150 rfl (show 1 < 3 by decide) rfl ?_
        refine r_aload_n 1 dX12_read_151 rfl rfl ?_
        refine r_dup dX12_read_152 (cat_rf _) ?_
        refine rr_ldI (k := 43) hB dX12_read_153 fl_RX12_239 rfl ?_
        refine r_iconst (1 : Int32) dX12_read_156 (by decide) ?_
        refine r_iadd dX12_read_157 ?_
        refine rr_stI hf hB dX12_read_158 fl_RX12_239 rfl rfl rfl (fun R23 eR23 hf => ?_)
        refine r_iload_n 0 dX12_read_161 rfl rfl ?_
        refine r_bipush (40 : Int32) dX12_read_162 (by decide) ?_
        refine r_bd (fun (q24 : Int32) => V Γ MD_M_read (emb τ B R) r (emb τ B R23) 232 [(0, va_rf (some B)), (1, .int v22)] [.int q24]) hf (fun q24 hf => ?_) (fun yq24 hf kq24 => ?_)
        · refine r_istore_n (L' := [(2, _), (0, _), (1, _)]) dX12_read_232 rfl (show 2 < 3 by decide) rfl ?_
          refine r_aload_n 1 dX12_read_233 rfl rfl ?_
          refine r_iload_n 0 dX12_read_234 rfl rfl ?_
          refine r_bd (fun (q36 : Int32) => V Γ MD_M_read (emb τ B R) r (emb τ B R23) 243 [] [.int q36, va_rf (some B)]) hf (fun q36 hf => ?_) (fun yq36 hf kq36 => ?_)
          · refine rr_stI hf hB dX12_read_243 fl_RX12_251 rfl rfl rfl (fun R38 eR38 hf => ?_)
            exact r_vret rfl dX12_read_246 (by have h1 := (Option.some.inj hf); subst h1; exact hr.symm)
          · refine r_if_eq 242 hf dX12_read_235 (by decide) (fun c37 hf => ?_) (fun c37 hf => ?_)
            · refine r_iconst (2 : Int32) dX12_read_242 (by decide) ?_
              refine r_sub (L' := []) [] rfl ?_
              cases (Option.some.inj hf)
              exact kq36
            · refine r_iload_n 2 dX12_read_238 rfl rfl ?_
              refine r_goto 243 dX12_read_239 (by decide) ?_
              refine r_sub (L' := []) [] rfl ?_
              cases (Option.some.inj hf)
              exact kq36
        · refine r_icmp_eq 227 hf dX12_read_164 (by decide) (fun c25 hf => ?_) (fun c25 hf => ?_)
          · refine r_iconst (1 : Int32) dX12_read_227 (by decide) ?_
            refine r_goto 232 dX12_read_228 (by decide) ?_
            refine r_sub (L' := [(0, _), (1, _)]) [1, 0] rfl ?_
            cases (Option.some.inj hf)
            exact kq24
          · refine r_iload_n 0 dX12_read_167 rfl rfl ?_
            refine r_bipush (41 : Int32) dX12_read_168 (by decide) ?_
            refine r_icmp_eq 227 hf dX12_read_170 (by decide) (fun c26 hf => ?_) (fun c26 hf => ?_)
            · refine r_iconst (1 : Int32) dX12_read_227 (by decide) ?_
              refine r_goto 232 dX12_read_228 (by decide) ?_
              refine r_sub (L' := [(0, _), (1, _)]) [1, 0] rfl ?_
              cases (Option.some.inj hf)
              exact kq24
            · refine r_iload_n 0 dX12_read_173 rfl rfl ?_
              refine r_bipush (124 : Int32) dX12_read_174 (by decide) ?_
              refine r_icmp_eq 227 hf dX12_read_176 (by decide) (fun c27 hf => ?_) (fun c27 hf => ?_)
              · refine r_iconst (1 : Int32) dX12_read_227 (by decide) ?_
                refine r_goto 232 dX12_read_228 (by decide) ?_
                refine r_sub (L' := [(0, _), (1, _)]) [1, 0] rfl ?_
                cases (Option.some.inj hf)
                exact kq24
              · refine r_iload_n 0 dX12_read_179 rfl rfl ?_
                refine r_bipush (45 : Int32) dX12_read_180 (by decide) ?_
                refine r_icmp_eq 227 hf dX12_read_182 (by decide) (fun c28 hf => ?_) (fun c28 hf => ?_)
                · refine r_iconst (1 : Int32) dX12_read_227 (by decide) ?_
                  refine r_goto 232 dX12_read_228 (by decide) ?_
                  refine r_sub (L' := [(0, _), (1, _)]) [1, 0] rfl ?_
                  cases (Option.some.inj hf)
                  exact kq24
                · refine r_iload_n 0 dX12_read_185 rfl rfl ?_
                  refine r_bipush (42 : Int32) dX12_read_186 (by decide) ?_
                  refine r_icmp_eq 227 hf dX12_read_188 (by decide) (fun c29 hf => ?_) (fun c29 hf => ?_)
                  · refine r_iconst (1 : Int32) dX12_read_227 (by decide) ?_
                    refine r_goto 232 dX12_read_228 (by decide) ?_
                    refine r_sub (L' := [(0, _), (1, _)]) [1, 0] rfl ?_
                    cases (Option.some.inj hf)
                    exact kq24
                  · refine r_iload_n 0 dX12_read_191 rfl rfl ?_
                    refine r_bipush (34 : Int32) dX12_read_192 (by decide) ?_
                    refine r_icmp_eq 227 hf dX12_read_194 (by decide) (fun c30 hf => ?_) (fun c30 hf => ?_)
                    · refine r_iconst (1 : Int32) dX12_read_227 (by decide) ?_
                      refine r_goto 232 dX12_read_228 (by decide) ?_
                      refine r_sub (L' := [(0, _), (1, _)]) [1, 0] rfl ?_
                      cases (Option.some.inj hf)
                      exact kq24
                    · refine r_iload_n 0 dX12_read_197 rfl rfl ?_
                      refine r_bipush (58 : Int32) dX12_read_198 (by decide) ?_
                      refine r_icmp_eq 227 hf dX12_read_200 (by decide) (fun c31 hf => ?_) (fun c31 hf => ?_)
                      · refine r_iconst (1 : Int32) dX12_read_227 (by decide) ?_
                        refine r_goto 232 dX12_read_228 (by decide) ?_
                        refine r_sub (L' := [(0, _), (1, _)]) [1, 0] rfl ?_
                        cases (Option.some.inj hf)
                        exact kq24
                      · refine r_iload_n 0 dX12_read_203 rfl rfl ?_
                        refine r_bipush (126 : Int32) dX12_read_204 (by decide) ?_
                        refine r_icmp_eq 227 hf dX12_read_206 (by decide) (fun c32 hf => ?_) (fun c32 hf => ?_)
                        · refine r_iconst (1 : Int32) dX12_read_227 (by decide) ?_
                          refine r_goto 232 dX12_read_228 (by decide) ?_
                          refine r_sub (L' := [(0, _), (1, _)]) [1, 0] rfl ?_
                          cases (Option.some.inj hf)
                          exact kq24
                        · refine r_iload_n 0 dX12_read_209 rfl rfl ?_
                          refine r_bipush (94 : Int32) dX12_read_210 (by decide) ?_
                          refine r_icmp_eq 227 hf dX12_read_212 (by decide) (fun c33 hf => ?_) (fun c33 hf => ?_)
                          · refine r_iconst (1 : Int32) dX12_read_227 (by decide) ?_
                            refine r_goto 232 dX12_read_228 (by decide) ?_
                            refine r_sub (L' := [(0, _), (1, _)]) [1, 0] rfl ?_
                            cases (Option.some.inj hf)
                            exact kq24
                          · refine r_iload_n 0 dX12_read_215 rfl rfl ?_
                            refine r_bipush (91 : Int32) dX12_read_216 (by decide) ?_
                            refine r_icmp_eq 227 hf dX12_read_218 (by decide) (fun c34 hf => ?_) (fun c34 hf => ?_)
                            · refine r_iconst (1 : Int32) dX12_read_227 (by decide) ?_
                              refine r_goto 232 dX12_read_228 (by decide) ?_
                              refine r_sub (L' := [(0, _), (1, _)]) [1, 0] rfl ?_
                              cases (Option.some.inj hf)
                              exact kq24
                            · refine r_iload_n 0 dX12_read_221 rfl rfl ?_
                              refine r_bipush (93 : Int32) dX12_read_222 (by decide) ?_
                              refine r_icmp_ne 231 hf dX12_read_224 (by decide) (fun c35 hf => ?_) (fun c35 hf => ?_)
                              · refine r_iconst (0 : Int32) dX12_read_231 (by decide) ?_
                                refine r_sub (L' := [(0, _), (1, _)]) [1, 0] rfl ?_
                                cases (Option.some.inj hf)
                                exact kq24
                              · refine r_iconst (1 : Int32) dX12_read_227 (by decide) ?_
                                refine r_goto 232 dX12_read_228 (by decide) ?_
                                refine r_sub (L' := [(0, _), (1, _)]) [1, 0] rfl ?_
                                cases (Option.some.inj hf)
                                exact kq24
    · refine r_aload_n 0 dX12_read_62 rfl rfl ?_
      refine r_iconst (0 : Int32) dX12_read_63 (by decide) ?_
      refine rr_stI hf hB dX12_read_64 fl_RX12_251 rfl rfl rfl (fun R39 eR39 hf => ?_)
      exact r_vret rfl dX12_read_67 (by have h1 := (Option.some.inj hf); subst h1; exact hr.symm)
/-! SearchEngineModel.fails -/
noncomputable def M_fails (R : RS) : Option (Bool × RS) :=
  if ¬ (R.1 0 45) = (-1 : Int32) then
    some (false, R)
  else
    (some (pI R 45 (R.1 0 41))).bind fun R2 =>
    some (false, R2)
set_option maxRecDepth 100000 in
set_option maxHeartbeats 4000000 in
theorem t_M_fails {Γ : W0} {τ : Mem} {B : Nat} {R : RS} {v : Bool} {R' : RS} (hB : RB τ B) (hf : M_fails R = some (v, R')) : CT Γ MD_M_fails yX12_fails [va_rf (some B)] (emb τ B R) (some (.int (b2i v)), (emb τ B R')) := by
  refine CT.of (L := [(0, va_rf (some B))]) rfl (by decide) (fun h => Bool.noConfusion (show false = true from h)) (Nat.le_of_ble_eq_true rfl) rfl ?_
  unfold M_fails at hf
  generalize hr : mkR Γ (emb τ B R) (some (.int (b2i v))) (emb τ B R') = r
  refine r_aload_n 0 dX12_fails_0 rfl rfl ?_
  refine rr_ldI (k := 45) hB dX12_fails_1 fl_RX12_254 rfl ?_
  refine r_iconst (-1 : Int32) dX12_fails_4 (by decide) ?_
  refine r_icmp_ne 16 hf dX12_fails_5 (by decide) (fun c1 hf => ?_) (fun c1 hf => ?_)
  · refine r_iconst (b2i false) dX12_fails_16 rfl ?_
    exact r_zret rfl dX12_fails_17 (by obtain ⟨h1, h2⟩ := Prod.mk.inj (Option.some.inj hf); subst h1; subst h2; exact hr.symm)
  · refine r_aload_n 0 dX12_fails_8 rfl rfl ?_
    refine r_aload_n 0 dX12_fails_9 rfl rfl ?_
    refine rr_ldI (k := 41) hB dX12_fails_10 fl_RX12_245 rfl ?_
    refine rr_stI hf hB dX12_fails_13 fl_RX12_254 rfl rfl rfl (fun R2 eR2 hf => ?_)
    refine r_iconst (b2i false) dX12_fails_16 rfl ?_
    exact r_zret rfl dX12_fails_17 (by obtain ⟨h1, h2⟩ := Prod.mk.inj (Option.some.inj hf); subst h1; subst h2; exact hr.symm)
/-! SearchEngineModel.isField -/
noncomputable def M_isField_l191 (R : RS) (x3 : Int32) : Option (Int32 ⊕ Int32) :=
  if (R.1 0 44) ≤ x3 then
    some (Sum.inr x3)
  else
    (rdI R 1 600 x3).bind fun v28 =>
    if ¬ v28 = (32 : Int32) then
      some (Sum.inr x3)
    else
      some (Sum.inl (x3 + (1 : Int32)))
noncomputable def M_isField (R : RS) : Option Bool :=
  Option.bind (
    if ¬ (R.1 0 42) = (5 : Int32) then
      some (0 : Int32)
    else
      (rdI R 1 600 (R.1 0 41)).bind fun v3 =>
      if ¬ v3 = (116 : Int32) then
        some (0 : Int32)
      else
        (rdI R 1 600 ((R.1 0 41) + (1 : Int32))).bind fun v5 =>
        if ¬ v5 = (105 : Int32) then
          some (0 : Int32)
        else
          (rdI R 1 600 ((R.1 0 41) + (2 : Int32))).bind fun v7 =>
          if ¬ v7 = (116 : Int32) then
            some (0 : Int32)
          else
            (rdI R 1 600 ((R.1 0 41) + (3 : Int32))).bind fun v9 =>
            if ¬ v9 = (108 : Int32) then
              some (0 : Int32)
            else
              (rdI R 1 600 ((R.1 0 41) + (4 : Int32))).bind fun v11 =>
              if ¬ v11 = (101 : Int32) then
                some (0 : Int32)
              else
                some (1 : Int32)) fun q1 =>
  Option.bind (
    if ¬ (R.1 0 42) = (4 : Int32) then
      some (0 : Int32)
    else
      (rdI R 1 600 (R.1 0 41)).bind fun v15 =>
      if ¬ v15 = (98 : Int32) then
        some (0 : Int32)
      else
        (rdI R 1 600 ((R.1 0 41) + (1 : Int32))).bind fun v17 =>
        if ¬ v17 = (111 : Int32) then
          some (0 : Int32)
        else
          (rdI R 1 600 ((R.1 0 41) + (2 : Int32))).bind fun v19 =>
          if ¬ v19 = (100 : Int32) then
            some (0 : Int32)
          else
            (rdI R 1 600 ((R.1 0 41) + (3 : Int32))).bind fun v21 =>
            if ¬ v21 = (121 : Int32) then
              some (0 : Int32)
            else
              some (1 : Int32)) fun q13 =>
  if ¬ (R.1 0 40) = (1 : Int32) then
    some false
  else
    jn (
      if ¬ q1 = 0 then
        some (Sum.inr ())
      else
        if ¬ q13 = 0 then
          some (Sum.inr ())
        else
          some (Sum.inl false)) fun q24 =>
    (lp (fun q => M_isField_l191 R q) (R.1 0 43)).bind fun z31 =>
    if (R.1 0 44) ≤ z31 then
      some false
    else
      (rdI R 1 600 z31).bind fun v33 =>
      if ¬ v33 = (58 : Int32) then
        some false
      else
        some true
set_option maxRecDepth 100000 in
set_option maxHeartbeats 4000000 in
theorem x_M_isField_l191 {Γ : W0} {σ0 : Mem} {r : RT} {τ : Mem} {B : Nat} {R : RS} {t : Int32} (hB : RB τ B) (hk0 : ∀ z : Int32, z = t → V Γ MD_M_isField σ0 r (emb τ B R) 216 [(0, va_rf (some B)), (3, .int z)] []) : ∀ q : Int32, lp (fun q => M_isField_l191 R q) q = some t → V Γ MD_M_isField σ0 r (emb τ B R) 191 [(0, va_rf (some B)), (3, .int q)] [] := by
  refine lp_ind (fun (q : Int32) => V Γ MD_M_isField σ0 r (emb τ B R) 191 [(0, va_rf (some B)), (3, .int q)] []) (fun q x hf ih ho => ?_)
  revert hf ih
  generalize q = x3
  intro hf ih
  show V Γ MD_M_isField σ0 r (emb τ B R) 191 [(0, va_rf (some B)), (3, .int x3)] []
  replace hf : M_isField_l191 R x3 = some x := hf
  unfold M_isField_l191 at hf
  refine r_iload_n 1 dX12_isField_191 rfl rfl ?_
  refine r_aload_n 0 dX12_isField_192 rfl rfl ?_
  refine rr_ldI (k := 44) hB dX12_isField_193 fl_RX12_242 rfl ?_
  refine r_icmp_ge 216 hf dX12_isField_196 (by decide) (fun c27 hf => ?_) (fun c27 hf => ?_)
  · refine r_sub (L' := [(0, _), (3, _)]) [0, 1] rfl ?_
    exact hk0 _ (ho _ (Option.some.inj hf).symm)
  · refine r_aload_n 0 dX12_isField_199 rfl rfl ?_
    refine rr_ldR (c := 1) hB dX12_isField_200 fl_RX12_7 rfl rfl (by decide) ?_
    refine r_iload_n 1 dX12_isField_203 rfl rfl ?_
    refine rr_raI hf hB dX12_isField_204 (by decide) rfl (fun v28 ev28 hf => ?_)
    refine r_bipush (32 : Int32) dX12_isField_205 (by decide) ?_
    refine r_icmp_ne 216 hf dX12_isField_207 (by decide) (fun c29 hf => ?_) (fun c29 hf => ?_)
    · refine r_sub (L' := [(0, _), (3, _)]) [0, 1] rfl ?_
      exact hk0 _ (ho _ (Option.some.inj hf).symm)
    · refine r_iinc (1 : Int32) (L' := [(3, _), (0, _)]) 1 dX12_isField_210 rfl (by decide) (show 3 < 4 by decide) rfl ?_
      refine r_goto 191 dX12_isField_213 (by decide) ?_
      refine r_sub (L' := [(0, _), (3, _)]) [1, 0] rfl ?_
      exact ih _ (Option.some.inj hf).symm
set_option maxRecDepth 100000 in
set_option maxHeartbeats 4000000 in
theorem t_M_isField {Γ : W0} {τ : Mem} {B : Nat} {R : RS} {v : Bool} (hB : RB τ B) (hf : M_isField R = some v) : CT Γ MD_M_isField yX12_isField [va_rf (some B)] (emb τ B R) (some (.int (b2i v)), (emb τ B R)) := by
  refine CT.of (L := [(0, va_rf (some B))]) rfl (by decide) (fun h => Bool.noConfusion (show false = true from h)) (Nat.le_of_ble_eq_true rfl) rfl ?_
  unfold M_isField at hf
  generalize hr : mkR Γ (emb τ B R) (some (.int (b2i v))) (emb τ B R) = r
  refine r_aload_n 0 dX12_isField_0 rfl rfl ?_
  refine rr_ldI (k := 42) hB dX12_isField_1 fl_RX12_248 rfl ?_
  refine r_iconst (5 : Int32) dX12_isField_4 (by decide) ?_
  refine r_bd (fun (q1 : Int32) => V Γ MD_M_isField (emb τ B R) r (emb τ B R) 91 [(0, va_rf (some B))] [.int q1]) hf (fun q1 hf => ?_) (fun yq1 hf kq1 => ?_)
  · refine r_istore_n (L' := [(1, _), (0, _)]) dX12_isField_91 rfl (show 1 < 4 by decide) rfl ?_
    refine r_aload_n 1 dX12_isField_92 rfl rfl ?_
    refine rr_ldI (k := 42) hB dX12_isField_93 fl_RX12_248 rfl ?_
    refine r_iconst (4 : Int32) dX12_isField_96 (by decide) ?_
    refine r_bd (fun (q13 : Int32) => V Γ MD_M_isField (emb τ B R) r (emb τ B R) 167 [(0, va_rf (some B)), (1, .int q1)] [.int q13]) hf (fun q13 hf => ?_) (fun yq13 hf kq13 => ?_)
    · refine r_istore_n (L' := [(2, _), (0, _), (1, _)]) dX12_isField_167 rfl (show 2 < 4 by decide) rfl ?_
      refine r_aload_n 1 dX12_isField_168 rfl rfl ?_
      refine rr_ldI (k := 40) hB dX12_isField_169 fl_RX12_251 rfl ?_
      refine r_iconst (1 : Int32) dX12_isField_172 (by decide) ?_
      refine r_icmp_ne 184 hf dX12_isField_173 (by decide) (fun c23 hf => ?_) (fun c23 hf => ?_)
      · refine r_iconst (b2i false) dX12_isField_184 rfl ?_
        exact r_zret rfl dX12_isField_185 (by have h1 := (Option.some.inj hf); subst h1; exact hr.symm)
      · refine r_iload_n 2 dX12_isField_176 rfl rfl ?_
        refine r_jn (fun (q24 : Unit) => V Γ MD_M_isField (emb τ B R) r (emb τ B R) 186 [(0, va_rf (some B))] []) hf (fun q24 hf => ?_) (fun yq24 hf oq24 kq24 => ?_)
        · refine r_aload_n 0 dX12_isField_186 rfl rfl ?_
          refine rr_ldI (k := 43) hB dX12_isField_187 fl_RX12_239 rfl ?_
          refine r_istore_n (L' := [(3, _), (0, _)]) dX12_isField_190 rfl (show 3 < 4 by decide) rfl ?_
          refine bnd hf (fun t30 et30 hf => ?_)
          refine r_sub (L' := [(0, _), (3, _)]) [1, 0] rfl ?_
          refine x_M_isField_l191 hB ?_ _ et30
          · intro z31 hz31
            subst hz31
            refine r_iload_n 1 dX12_isField_216 rfl rfl ?_
            refine r_aload_n 0 dX12_isField_217 rfl rfl ?_
            refine rr_ldI (k := 44) hB dX12_isField_218 fl_RX12_242 rfl ?_
            refine r_icmp_ge 239 hf dX12_isField_221 (by decide) (fun c32 hf => ?_) (fun c32 hf => ?_)
            · refine r_iconst (b2i false) dX12_isField_239 rfl ?_
              exact r_zret rfl dX12_isField_240 (by have h1 := (Option.some.inj hf); subst h1; exact hr.symm)
            · refine r_aload_n 0 dX12_isField_224 rfl rfl ?_
              refine rr_ldR (c := 1) hB dX12_isField_225 fl_RX12_7 rfl rfl (by decide) ?_
              refine r_iload_n 1 dX12_isField_228 rfl rfl ?_
              refine rr_raI hf hB dX12_isField_229 (by decide) rfl (fun v33 ev33 hf => ?_)
              refine r_bipush (58 : Int32) dX12_isField_230 (by decide) ?_
              refine r_icmp_ne 239 hf dX12_isField_232 (by decide) (fun c34 hf => ?_) (fun c34 hf => ?_)
              · refine r_iconst (b2i false) dX12_isField_239 rfl ?_
                exact r_zret rfl dX12_isField_240 (by have h1 := (Option.some.inj hf); subst h1; exact hr.symm)
              · refine r_iconst (b2i true) dX12_isField_235 rfl ?_
                refine r_goto 240 dX12_isField_236 (by decide) ?_
                exact r_zret rfl dX12_isField_240 (by have h1 := (Option.some.inj hf); subst h1; exact hr.symm)
        · refine r_if_ne 186 hf dX12_isField_177 (by decide) (fun c25 hf => ?_) (fun c25 hf => ?_)
          · refine r_sub (L' := [(0, _)]) [1] rfl ?_
            exact kq24 _ (Option.some.inj hf).symm
          · refine r_iload_n 0 dX12_isField_180 rfl rfl ?_
            refine r_if_ne 186 hf dX12_isField_181 (by decide) (fun c26 hf => ?_) (fun c26 hf => ?_)
            · refine r_sub (L' := [(0, _)]) [1] rfl ?_
              exact kq24 _ (Option.some.inj hf).symm
            · refine r_iconst (b2i false) dX12_isField_184 rfl ?_
              exact r_zret rfl dX12_isField_185 (by have h1 := (oq24 _ (Option.some.inj hf).symm); subst h1; exact hr.symm)
    · refine r_icmp_ne 166 hf dX12_isField_97 (by decide) (fun c14 hf => ?_) (fun c14 hf => ?_)
      · refine r_iconst (0 : Int32) dX12_isField_166 (by decide) ?_
        refine r_sub (L' := [(0, _), (1, _)]) [1, 0] rfl ?_
        cases (Option.some.inj hf)
        exact kq13
      · refine r_aload_n 1 dX12_isField_100 rfl rfl ?_
        refine rr_ldR (c := 1) hB dX12_isField_101 fl_RX12_7 rfl rfl (by decide) ?_
        refine r_aload_n 1 dX12_isField_104 rfl rfl ?_
        refine rr_ldI (k := 41) hB dX12_isField_105 fl_RX12_245 rfl ?_
        refine rr_raI hf hB dX12_isField_108 (by decide) rfl (fun v15 ev15 hf => ?_)
        refine r_bipush (98 : Int32) dX12_isField_109 (by decide) ?_
        refine r_icmp_ne 166 hf dX12_isField_111 (by decide) (fun c16 hf => ?_) (fun c16 hf => ?_)
        · refine r_iconst (0 : Int32) dX12_isField_166 (by decide) ?_
          refine r_sub (L' := [(0, _), (1, _)]) [1, 0] rfl ?_
          cases (Option.some.inj hf)
          exact kq13
        · refine r_aload_n 1 dX12_isField_114 rfl rfl ?_
          refine rr_ldR (c := 1) hB dX12_isField_115 fl_RX12_7 rfl rfl (by decide) ?_
          refine r_aload_n 1 dX12_isField_118 rfl rfl ?_
          refine rr_ldI (k := 41) hB dX12_isField_119 fl_RX12_245 rfl ?_
          refine r_iconst (1 : Int32) dX12_isField_122 (by decide) ?_
          refine r_iadd dX12_isField_123 ?_
          refine rr_raI hf hB dX12_isField_124 (by decide) rfl (fun v17 ev17 hf => ?_)
          refine r_bipush (111 : Int32) dX12_isField_125 (by decide) ?_
          refine r_icmp_ne 166 hf dX12_isField_127 (by decide) (fun c18 hf => ?_) (fun c18 hf => ?_)
          · refine r_iconst (0 : Int32) dX12_isField_166 (by decide) ?_
            refine r_sub (L' := [(0, _), (1, _)]) [1, 0] rfl ?_
            cases (Option.some.inj hf)
            exact kq13
          · refine r_aload_n 1 dX12_isField_130 rfl rfl ?_
            refine rr_ldR (c := 1) hB dX12_isField_131 fl_RX12_7 rfl rfl (by decide) ?_
            refine r_aload_n 1 dX12_isField_134 rfl rfl ?_
            refine rr_ldI (k := 41) hB dX12_isField_135 fl_RX12_245 rfl ?_
            refine r_iconst (2 : Int32) dX12_isField_138 (by decide) ?_
            refine r_iadd dX12_isField_139 ?_
            refine rr_raI hf hB dX12_isField_140 (by decide) rfl (fun v19 ev19 hf => ?_)
            refine r_bipush (100 : Int32) dX12_isField_141 (by decide) ?_
            refine r_icmp_ne 166 hf dX12_isField_143 (by decide) (fun c20 hf => ?_) (fun c20 hf => ?_)
            · refine r_iconst (0 : Int32) dX12_isField_166 (by decide) ?_
              refine r_sub (L' := [(0, _), (1, _)]) [1, 0] rfl ?_
              cases (Option.some.inj hf)
              exact kq13
            · refine r_aload_n 1 dX12_isField_146 rfl rfl ?_
              refine rr_ldR (c := 1) hB dX12_isField_147 fl_RX12_7 rfl rfl (by decide) ?_
              refine r_aload_n 1 dX12_isField_150 rfl rfl ?_
              refine rr_ldI (k := 41) hB dX12_isField_151 fl_RX12_245 rfl ?_
              refine r_iconst (3 : Int32) dX12_isField_154 (by decide) ?_
              refine r_iadd dX12_isField_155 ?_
              refine rr_raI hf hB dX12_isField_156 (by decide) rfl (fun v21 ev21 hf => ?_)
              refine r_bipush (121 : Int32) dX12_isField_157 (by decide) ?_
              refine r_icmp_ne 166 hf dX12_isField_159 (by decide) (fun c22 hf => ?_) (fun c22 hf => ?_)
              · refine r_iconst (0 : Int32) dX12_isField_166 (by decide) ?_
                refine r_sub (L' := [(0, _), (1, _)]) [1, 0] rfl ?_
                cases (Option.some.inj hf)
                exact kq13
              · refine r_iconst (1 : Int32) dX12_isField_162 (by decide) ?_
                refine r_goto 167 dX12_isField_163 (by decide) ?_
                refine r_sub (L' := [(0, _), (1, _)]) [1, 0] rfl ?_
                cases (Option.some.inj hf)
                exact kq13
  · refine r_icmp_ne 90 hf dX12_isField_5 (by decide) (fun c2 hf => ?_) (fun c2 hf => ?_)
    · refine r_iconst (0 : Int32) dX12_isField_90 (by decide) ?_
      refine r_sub (L' := [(0, _)]) [0] rfl ?_
      cases (Option.some.inj hf)
      exact kq1
    · refine r_aload_n 0 dX12_isField_8 rfl rfl ?_
      refine rr_ldR (c := 1) hB dX12_isField_9 fl_RX12_7 rfl rfl (by decide) ?_
      refine r_aload_n 0 dX12_isField_12 rfl rfl ?_
      refine rr_ldI (k := 41) hB dX12_isField_13 fl_RX12_245 rfl ?_
      refine rr_raI hf hB dX12_isField_16 (by decide) rfl (fun v3 ev3 hf => ?_)
      refine r_bipush (116 : Int32) dX12_isField_17 (by decide) ?_
      refine r_icmp_ne 90 hf dX12_isField_19 (by decide) (fun c4 hf => ?_) (fun c4 hf => ?_)
      · refine r_iconst (0 : Int32) dX12_isField_90 (by decide) ?_
        refine r_sub (L' := [(0, _)]) [0] rfl ?_
        cases (Option.some.inj hf)
        exact kq1
      · refine r_aload_n 0 dX12_isField_22 rfl rfl ?_
        refine rr_ldR (c := 1) hB dX12_isField_23 fl_RX12_7 rfl rfl (by decide) ?_
        refine r_aload_n 0 dX12_isField_26 rfl rfl ?_
        refine rr_ldI (k := 41) hB dX12_isField_27 fl_RX12_245 rfl ?_
        refine r_iconst (1 : Int32) dX12_isField_30 (by decide) ?_
        refine r_iadd dX12_isField_31 ?_
        refine rr_raI hf hB dX12_isField_32 (by decide) rfl (fun v5 ev5 hf => ?_)
        refine r_bipush (105 : Int32) dX12_isField_33 (by decide) ?_
        refine r_icmp_ne 90 hf dX12_isField_35 (by decide) (fun c6 hf => ?_) (fun c6 hf => ?_)
        · refine r_iconst (0 : Int32) dX12_isField_90 (by decide) ?_
          refine r_sub (L' := [(0, _)]) [0] rfl ?_
          cases (Option.some.inj hf)
          exact kq1
        · refine r_aload_n 0 dX12_isField_38 rfl rfl ?_
          refine rr_ldR (c := 1) hB dX12_isField_39 fl_RX12_7 rfl rfl (by decide) ?_
          refine r_aload_n 0 dX12_isField_42 rfl rfl ?_
          refine rr_ldI (k := 41) hB dX12_isField_43 fl_RX12_245 rfl ?_
          refine r_iconst (2 : Int32) dX12_isField_46 (by decide) ?_
          refine r_iadd dX12_isField_47 ?_
          refine rr_raI hf hB dX12_isField_48 (by decide) rfl (fun v7 ev7 hf => ?_)
          refine r_bipush (116 : Int32) dX12_isField_49 (by decide) ?_
          refine r_icmp_ne 90 hf dX12_isField_51 (by decide) (fun c8 hf => ?_) (fun c8 hf => ?_)
          · refine r_iconst (0 : Int32) dX12_isField_90 (by decide) ?_
            refine r_sub (L' := [(0, _)]) [0] rfl ?_
            cases (Option.some.inj hf)
            exact kq1
          · refine r_aload_n 0 dX12_isField_54 rfl rfl ?_
            refine rr_ldR (c := 1) hB dX12_isField_55 fl_RX12_7 rfl rfl (by decide) ?_
            refine r_aload_n 0 dX12_isField_58 rfl rfl ?_
            refine rr_ldI (k := 41) hB dX12_isField_59 fl_RX12_245 rfl ?_
            refine r_iconst (3 : Int32) dX12_isField_62 (by decide) ?_
            refine r_iadd dX12_isField_63 ?_
            refine rr_raI hf hB dX12_isField_64 (by decide) rfl (fun v9 ev9 hf => ?_)
            refine r_bipush (108 : Int32) dX12_isField_65 (by decide) ?_
            refine r_icmp_ne 90 hf dX12_isField_67 (by decide) (fun c10 hf => ?_) (fun c10 hf => ?_)
            · refine r_iconst (0 : Int32) dX12_isField_90 (by decide) ?_
              refine r_sub (L' := [(0, _)]) [0] rfl ?_
              cases (Option.some.inj hf)
              exact kq1
            · refine r_aload_n 0 dX12_isField_70 rfl rfl ?_
              refine rr_ldR (c := 1) hB dX12_isField_71 fl_RX12_7 rfl rfl (by decide) ?_
              refine r_aload_n 0 dX12_isField_74 rfl rfl ?_
              refine rr_ldI (k := 41) hB dX12_isField_75 fl_RX12_245 rfl ?_
              refine r_iconst (4 : Int32) dX12_isField_78 (by decide) ?_
              refine r_iadd dX12_isField_79 ?_
              refine rr_raI hf hB dX12_isField_80 (by decide) rfl (fun v11 ev11 hf => ?_)
              refine r_bipush (101 : Int32) dX12_isField_81 (by decide) ?_
              refine r_icmp_ne 90 hf dX12_isField_83 (by decide) (fun c12 hf => ?_) (fun c12 hf => ?_)
              · refine r_iconst (0 : Int32) dX12_isField_90 (by decide) ?_
                refine r_sub (L' := [(0, _)]) [0] rfl ?_
                cases (Option.some.inj hf)
                exact kq1
              · refine r_iconst (1 : Int32) dX12_isField_86 (by decide) ?_
                refine r_goto 91 dX12_isField_87 (by decide) ?_
                refine r_sub (L' := [(0, _)]) [0] rfl ?_
                cases (Option.some.inj hf)
                exact kq1
/-! SearchEngineModel.emit -/
noncomputable def M_emit (R : RS) (x1 : Int32) (x2 : Int32) (x3 : Int32) (x4 : Int32) : Option RS :=
  (wrI R 29 400 (R.1 0 50) x1).bind fun R1 =>
  (wrI R1 30 400 (R1.1 0 50) x2).bind fun R2 =>
  (wrI R2 31 400 (R2.1 0 50) x3).bind fun R3 =>
  (wrI R3 32 400 (R3.1 0 50) x4).bind fun R4 =>
  (some (pI R4 50 ((R4.1 0 50) + (1 : Int32)))).bind fun R5 =>
  some R5
set_option maxRecDepth 100000 in
set_option maxHeartbeats 4000000 in
theorem t_M_emit {Γ : W0} {τ : Mem} {B : Nat} {R : RS} {x1 : Int32} {x2 : Int32} {x3 : Int32} {x4 : Int32} {R' : RS} (hB : RB τ B) (hf : M_emit R x1 x2 x3 x4 = some R') : CT Γ MD_M_emit yX12_emit [va_rf (some B), .int x1, .int x2, .int x3, .int x4] (emb τ B R) (none, (emb τ B R')) := by
  refine CT.of (L := [(0, va_rf (some B)), (1, .int x1), (2, .int x2), (3, .int x3), (4, .int x4)]) rfl (by decide) (fun h => Bool.noConfusion (show false = true from h)) (Nat.le_of_ble_eq_true rfl) rfl ?_
  unfold M_emit at hf
  generalize hr : mkR Γ (emb τ B R) (none) (emb τ B R') = r
  refine r_aload_n 0 dX12_emit_0 rfl rfl ?_
  refine rr_ldR (c := 29) hB dX12_emit_1 fl_RX12_106 rfl rfl (by decide) ?_
  refine r_aload_n 0 dX12_emit_4 rfl rfl ?_
  refine rr_ldI (k := 50) hB dX12_emit_5 fl_RX12_257 rfl ?_
  refine r_iload_n 1 dX12_emit_8 rfl rfl ?_
  refine rr_waI hf hB dX12_emit_9 (by decide) rfl (fun R1 eR1 hf => ?_)
  refine r_aload_n 0 dX12_emit_10 rfl rfl ?_
  refine rr_ldR (c := 30) hB dX12_emit_11 fl_RX12_109 rfl rfl (by decide) ?_
  refine r_aload_n 0 dX12_emit_14 rfl rfl ?_
  refine rr_ldI (k := 50) hB dX12_emit_15 fl_RX12_257 rfl ?_
  refine r_iload_n 2 dX12_emit_18 rfl rfl ?_
  refine rr_waI hf hB dX12_emit_19 (by decide) rfl (fun R2 eR2 hf => ?_)
  refine r_aload_n 0 dX12_emit_20 rfl rfl ?_
  refine rr_ldR (c := 31) hB dX12_emit_21 fl_RX12_112 rfl rfl (by decide) ?_
  refine r_aload_n 0 dX12_emit_24 rfl rfl ?_
  refine rr_ldI (k := 50) hB dX12_emit_25 fl_RX12_257 rfl ?_
  refine r_iload_n 3 dX12_emit_28 rfl rfl ?_
  refine rr_waI hf hB dX12_emit_29 (by decide) rfl (fun R3 eR3 hf => ?_)
  refine r_aload_n 0 dX12_emit_30 rfl rfl ?_
  refine rr_ldR (c := 32) hB dX12_emit_31 fl_RX12_115 rfl rfl (by decide) ?_
  refine r_aload_n 0 dX12_emit_34 rfl rfl ?_
  refine rr_ldI (k := 50) hB dX12_emit_35 fl_RX12_257 rfl ?_
  refine r_iload 4 dX12_emit_38 rfl ?_
  refine rr_waI hf hB dX12_emit_40 (by decide) rfl (fun R4 eR4 hf => ?_)
  refine r_aload_n 0 dX12_emit_41 rfl rfl ?_
  refine r_dup dX12_emit_42 (cat_rf _) ?_
  refine rr_ldI (k := 50) hB dX12_emit_43 fl_RX12_257 rfl ?_
  refine r_iconst (1 : Int32) dX12_emit_46 (by decide) ?_
  refine r_iadd dX12_emit_47 ?_
  refine rr_stI hf hB dX12_emit_48 fl_RX12_257 rfl rfl rfl (fun R5 eR5 hf => ?_)
  exact r_vret rfl dX12_emit_51 (by have h1 := (Option.some.inj hf); subst h1; exact hr.symm)
/-! SearchEngineModel.word -/
noncomputable def M_word_l56 (R : RS) (x3 : Int32) : Option ((Int32 × RS) ⊕ RS) :=
  if (R.1 0 38) ≤ x3 then
    some (Sum.inr R)
  else
    (rdI R 27 12 x3).bind fun v8 =>
    (wrI R 34 4800 (((12 : Int32) * (R.1 0 51)) + x3) v8).bind fun R9 =>
    some (Sum.inl ((x3 + (1 : Int32)), R9))
noncomputable def M_word (R : RS) (x1 : Int32) (x2 : Bool) : Option RS :=
  Option.bind (
    if x2 = true then
      (M_small R (R.1 0 41) (R.1 0 42)).bind fun v3 =>
      some v3
    else
      (M_makeTerm R (R.1 0 41) (R.1 0 42)).bind fun v4 =>
      some v4) fun q1 =>
  (wrI q1 33 400 (q1.1 0 51) (q1.1 0 38)).bind fun R5 =>
  (wrI R5 35 400 (R5.1 0 51) x1).bind fun R6 =>
  (lp (fun q => M_word_l56 q.2 q.1) ((0 : Int32), R6)).bind fun z11 =>
  (some (pI z11 51 ((z11.1 0 51) + (1 : Int32)))).bind fun R12 =>
  some R12
set_option maxRecDepth 100000 in
set_option maxHeartbeats 4000000 in
theorem x_M_word_l56 {Γ : W0} {σ0 : Mem} {r : RT} {τ : Mem} {B : Nat} {t : RS} (hB : RB τ B) (hk0 : ∀ z : RS, z = t → V Γ MD_M_word σ0 r (emb τ B z) 90 [(0, va_rf (some B))] []) : ∀ q : Int32 × RS, lp (fun q => M_word_l56 q.2 q.1) q = some t → V Γ MD_M_word σ0 r (emb τ B q.2) 56 [(0, va_rf (some B)), (3, .int q.1)] [] := by
  refine lp_ind (fun (q : Int32 × RS) => V Γ MD_M_word σ0 r (emb τ B q.2) 56 [(0, va_rf (some B)), (3, .int q.1)] []) (fun q x hf ih ho => ?_)
  obtain ⟨x3, R⟩ := q
  show V Γ MD_M_word σ0 r (emb τ B R) 56 [(0, va_rf (some B)), (3, .int x3)] []
  replace hf : M_word_l56 R x3 = some x := hf
  unfold M_word_l56 at hf
  refine r_iload_n 1 dX12_word_56 rfl rfl ?_
  refine r_aload_n 0 dX12_word_57 rfl rfl ?_
  refine rr_ldI (k := 38) hB dX12_word_58 fl_RX12_171 rfl ?_
  refine r_icmp_ge 90 hf dX12_word_61 (by decide) (fun c7 hf => ?_) (fun c7 hf => ?_)
  · refine r_sub (L' := [(0, _)]) [0] rfl ?_
    exact hk0 _ (ho _ (Option.some.inj hf).symm)
  · refine r_aload_n 0 dX12_word_64 rfl rfl ?_
    refine rr_ldR (c := 34) hB dX12_word_65 fl_RX12_121 rfl rfl (by decide) ?_
    refine r_bipush (12 : Int32) dX12_word_68 (by decide) ?_
    refine r_aload_n 0 dX12_word_70 rfl rfl ?_
    refine rr_ldI (k := 51) hB dX12_word_71 fl_RX12_260 rfl ?_
    refine r_imul dX12_word_74 ?_
    refine r_iload_n 1 dX12_word_75 rfl rfl ?_
    refine r_iadd dX12_word_76 ?_
    refine r_aload_n 0 dX12_word_77 rfl rfl ?_
    refine rr_ldR (c := 27) hB dX12_word_78 fl_RX12_100 rfl rfl (by decide) ?_
    refine r_iload_n 1 dX12_word_81 rfl rfl ?_
    refine rr_raI hf hB dX12_word_82 (by decide) rfl (fun v8 ev8 hf => ?_)
    refine rr_waI hf hB dX12_word_83 (by decide) rfl (fun R9 eR9 hf => ?_)
    refine r_iinc (1 : Int32) (L' := [(3, _), (0, _)]) 1 dX12_word_84 rfl (by decide) (show 3 < 4 by decide) rfl ?_
    refine r_goto 56 dX12_word_87 (by decide) ?_
    refine r_sub (L' := [(0, _), (3, _)]) [1, 0] rfl ?_
    exact ih _ (Option.some.inj hf).symm
set_option maxRecDepth 100000 in
set_option maxHeartbeats 4000000 in
theorem t_M_word {Γ : W0} {τ : Mem} {B : Nat} {R : RS} {x1 : Int32} {x2 : Bool} {R' : RS} (hB : RB τ B) (hf : M_word R x1 x2 = some R') : CT Γ MD_M_word yX12_word [va_rf (some B), .int x1, .int (b2i x2)] (emb τ B R) (none, (emb τ B R')) := by
  refine CT.of (L := [(0, va_rf (some B)), (1, .int x1), (2, .int (b2i x2))]) rfl (by decide) (fun h => Bool.noConfusion (show false = true from h)) (Nat.le_of_ble_eq_true rfl) rfl ?_
  unfold M_word at hf
  generalize hr : mkR Γ (emb τ B R) (none) (emb τ B R') = r
  refine r_iload_n 2 dX12_word_0 rfl rfl ?_
  refine r_bd (fun (q1 : RS) => V Γ MD_M_word (emb τ B R) r (emb τ B q1) 31 [(0, va_rf (some B)), (1, .int x1)] []) hf (fun q1 hf => ?_) (fun yq1 hf kq1 => ?_)
  · refine r_aload_n 0 dX12_word_31 rfl rfl ?_
    refine rr_ldR (c := 33) hB dX12_word_32 fl_RX12_118 rfl rfl (by decide) ?_
    refine r_aload_n 0 dX12_word_35 rfl rfl ?_
    refine rr_ldI (k := 51) hB dX12_word_36 fl_RX12_260 rfl ?_
    refine r_aload_n 0 dX12_word_39 rfl rfl ?_
    refine rr_ldI (k := 38) hB dX12_word_40 fl_RX12_171 rfl ?_
    refine rr_waI hf hB dX12_word_43 (by decide) rfl (fun R5 eR5 hf => ?_)
    refine r_aload_n 0 dX12_word_44 rfl rfl ?_
    refine rr_ldR (c := 35) hB dX12_word_45 fl_RX12_124 rfl rfl (by decide) ?_
    refine r_aload_n 0 dX12_word_48 rfl rfl ?_
    refine rr_ldI (k := 51) hB dX12_word_49 fl_RX12_260 rfl ?_
    refine r_iload_n 1 dX12_word_52 rfl rfl ?_
    refine rr_waI hf hB dX12_word_53 (by decide) rfl (fun R6 eR6 hf => ?_)
    refine r_iconst (0 : Int32) dX12_word_54 (by decide) ?_
    refine r_istore_n (L' := [(3, _), (0, _), (1, _)]) dX12_word_55 rfl (show 3 < 4 by decide) rfl ?_
    refine bnd hf (fun t10 et10 hf => ?_)
    refine r_sub (L' := [(0, _), (3, _)]) [1, 0] rfl ?_
    refine x_M_word_l56 hB ?_ _ et10
    · intro z11 hz11
      subst hz11
      refine r_aload_n 0 dX12_word_90 rfl rfl ?_
      refine r_dup dX12_word_91 (cat_rf _) ?_
      refine rr_ldI (k := 51) hB dX12_word_92 fl_RX12_260 rfl ?_
      refine r_iconst (1 : Int32) dX12_word_95 (by decide) ?_
      refine r_iadd dX12_word_96 ?_
      refine rr_stI hf hB dX12_word_97 fl_RX12_260 rfl rfl rfl (fun R12 eR12 hf => ?_)
      exact r_vret rfl dX12_word_100 (by have h1 := (Option.some.inj hf); subst h1; exact hr.symm)
  · refine r_ifeqZ 19 hf dX12_word_1 (by decide) (fun c2 hf => ?_) (fun c2 hf => ?_)
    · refine r_aload_n 0 dX12_word_4 rfl rfl ?_
      refine r_aload_n 0 dX12_word_5 rfl rfl ?_
      refine rr_ldI (k := 41) hB dX12_word_6 fl_RX12_245 rfl ?_
      refine r_aload_n 0 dX12_word_9 rfl rfl ?_
      refine rr_ldI (k := 42) hB dX12_word_10 fl_RX12_248 rfl ?_
      refine bnd hf (fun v3 ev3 hf => ?_)
      refine r_callVv (ci := 12) rfl dX12_word_13 cs_RX12_178 ww_1284 ww_41 (by decide) (hB.t0 _) (by decide) rfl (rest := []) rfl (Or.inl (Nat.le_of_ble_eq_true rfl)) (t_M_small hB ev3) ?_
      refine r_goto 31 dX12_word_16 (by decide) ?_
      refine r_sub (L' := [(0, _), (1, _)]) [0, 1] rfl ?_
      cases (Option.some.inj hf)
      exact kq1
    · refine r_aload_n 0 dX12_word_19 rfl rfl ?_
      refine r_aload_n 0 dX12_word_20 rfl rfl ?_
      refine rr_ldI (k := 41) hB dX12_word_21 fl_RX12_245 rfl ?_
      refine r_aload_n 0 dX12_word_24 rfl rfl ?_
      refine rr_ldI (k := 42) hB dX12_word_25 fl_RX12_248 rfl ?_
      refine bnd hf (fun v4 ev4 hf => ?_)
      refine r_callVv (ci := 12) rfl dX12_word_28 cs_RX12_193 ww_1280 ww_40 (by decide) (hB.t0 _) (by decide) rfl (rest := []) rfl (Or.inl (Nat.le_of_ble_eq_true rfl)) (t_M_makeTerm hB ev4) ?_
      refine r_sub (L' := [(0, _), (1, _)]) [0, 1] rfl ?_
      cases (Option.some.inj hf)
      exact kq1
/-! SearchEngineModel.digit -/
noncomputable def M_digit (R : RS) (x1 : Int32) : Option (Int32 × RS) :=
  Option.bind (
    if ¬ (R.1 0 40) = (1 : Int32) then
      some (-1 : Int32)
    else
      if ¬ (R.1 0 42) = (1 : Int32) then
        some (-1 : Int32)
      else
        (rdI R 1 600 (R.1 0 41)).bind fun v4 =>
        some (v4 - (48 : Int32))) fun q1 =>
  (M_in q1 x1 (9 : Int32)).bind fun v5 =>
  if v5 = true then
    (M_read R).bind fun v7 =>
    some (q1, v7)
  else
    (M_fails R).bind fun v8 =>
    some ((0 : Int32), v8.2)
set_option maxRecDepth 100000 in
set_option maxHeartbeats 4000000 in
theorem t_M_digit {Γ : W0} {τ : Mem} {B : Nat} {R : RS} {x1 : Int32} {v : Int32} {R' : RS} (hB : RB τ B) (hf : M_digit R x1 = some (v, R')) : CT Γ MD_M_digit yX12_digit [va_rf (some B), .int x1] (emb τ B R) (some (.int v), (emb τ B R')) := by
  refine CT.of (L := [(0, va_rf (some B)), (1, .int x1)]) rfl (by decide) (fun h => Bool.noConfusion (show false = true from h)) (Nat.le_of_ble_eq_true rfl) rfl ?_
  unfold M_digit at hf
  generalize hr : mkR Γ (emb τ B R) (some (.int v)) (emb τ B R') = r
  refine r_aload_n 0 dX12_digit_0 rfl rfl ?_
  refine rr_ldI (k := 40) hB dX12_digit_1 fl_RX12_251 rfl ?_
  refine r_iconst (1 : Int32) dX12_digit_4 (by decide) ?_
  refine r_bd (fun (q1 : Int32) => V Γ MD_M_digit (emb τ B R) r (emb τ B R) 32 [(0, va_rf (some B)), (1, .int x1)] [.int q1]) hf (fun q1 hf => ?_) (fun yq1 hf kq1 => ?_)
  · refine r_istore_n (L' := [(2, _), (0, _), (1, _)]) dX12_digit_32 rfl (show 2 < 3 by decide) rfl ?_
    refine r_iload_n 0 dX12_digit_33 rfl rfl ?_
    refine r_iload_n 2 dX12_digit_34 rfl rfl ?_
    refine r_bipush (9 : Int32) dX12_digit_35 (by decide) ?_
    refine bnd hf (fun v5 ev5 hf => ?_)
    refine r_callSr dX12_digit_37 cs_RX12_164 ww_1258 (by decide) rfl (rest := []) rfl (Or.inl (Nat.le_of_ble_eq_true rfl)) (t_M_in ev5) ?_
    refine r_ifneZ 50 hf dX12_digit_40 (by decide) (fun c6 hf => ?_) (fun c6 hf => ?_)
    · refine r_aload_n 1 dX12_digit_50 rfl rfl ?_
      refine bnd hf (fun v7 ev7 hf => ?_)
      refine r_callVv (ci := 12) rfl dX12_digit_51 cs_RX12_267 ww_1344 ww_50 (by decide) (hB.t0 _) (by decide) rfl (rest := []) rfl (Or.inl (Nat.le_of_ble_eq_true rfl)) (t_M_read hB ev7) ?_
      refine r_iload_n 0 dX12_digit_54 rfl rfl ?_
      exact r_iret rfl dX12_digit_55 (by obtain ⟨h1, h2⟩ := Prod.mk.inj (Option.some.inj hf); subst h1; subst h2; exact hr.symm)
    · refine r_aload_n 1 dX12_digit_43 rfl rfl ?_
      refine bnd hf (fun v8 ev8 hf => ?_)
      refine r_callVr (ci := 12) rfl dX12_digit_44 cs_RX12_263 ww_1356 ww_53 (by decide) (hB.t0 _) (by decide) rfl (rest := []) rfl (Or.inl (Nat.le_of_ble_eq_true rfl)) (t_M_fails hB ev8) ?_
      refine r_pop dX12_digit_47 rfl ?_
      refine r_iconst (0 : Int32) dX12_digit_48 (by decide) ?_
      exact r_iret rfl dX12_digit_49 (by obtain ⟨h1, h2⟩ := Prod.mk.inj (Option.some.inj hf); subst h1; subst h2; exact hr.symm)
  · refine r_icmp_ne 31 hf dX12_digit_5 (by decide) (fun c2 hf => ?_) (fun c2 hf => ?_)
    · refine r_iconst (-1 : Int32) dX12_digit_31 (by decide) ?_
      refine r_sub (L' := [(0, _), (1, _)]) [0, 1] rfl ?_
      cases (Option.some.inj hf)
      exact kq1
    · refine r_aload_n 0 dX12_digit_8 rfl rfl ?_
      refine rr_ldI (k := 42) hB dX12_digit_9 fl_RX12_248 rfl ?_
      refine r_iconst (1 : Int32) dX12_digit_12 (by decide) ?_
      refine r_icmp_ne 31 hf dX12_digit_13 (by decide) (fun c3 hf => ?_) (fun c3 hf => ?_)
      · refine r_iconst (-1 : Int32) dX12_digit_31 (by decide) ?_
        refine r_sub (L' := [(0, _), (1, _)]) [0, 1] rfl ?_
        cases (Option.some.inj hf)
        exact kq1
      · refine r_aload_n 0 dX12_digit_16 rfl rfl ?_
        refine rr_ldR (c := 1) hB dX12_digit_17 fl_RX12_7 rfl rfl (by decide) ?_
        refine r_aload_n 0 dX12_digit_20 rfl rfl ?_
        refine rr_ldI (k := 41) hB dX12_digit_21 fl_RX12_245 rfl ?_
        refine rr_raI hf hB dX12_digit_24 (by decide) rfl (fun v4 ev4 hf => ?_)
        refine r_bipush (48 : Int32) dX12_digit_25 (by decide) ?_
        refine r_isub dX12_digit_27 ?_
        refine r_goto 32 dX12_digit_28 (by decide) ?_
        refine r_sub (L' := [(0, _), (1, _)]) [0, 1] rfl ?_
        cases (Option.some.inj hf)
        exact kq1
/-! SearchEngineModel.number -/
noncomputable def M_number_l51 (R : RS) (x1 : Int32) (x2 : Int32) (x3 : Bool) (x4 : Int32) : Option ((Int32 × Bool × Int32) ⊕ (Int32 × Bool)) :=
  if (R.1 0 42) ≤ x4 then
    some (Sum.inr (x2, x3))
  else
    if x3 = true then
      (rdI R 1 600 ((R.1 0 41) + x4)).bind fun v11 =>
      (M_in v11 (48 : Int32) (57 : Int32)).bind fun v12 =>
      (rdI R 1 600 ((R.1 0 41) + x4)).bind fun v13 =>
      some (Sum.inl (((((10 : Int32) * x2) + v13) - (48 : Int32)), v12, (x4 + (1 : Int32))))
    else
      some (Sum.inr (x2, x3))
noncomputable def M_number (R : RS) : Option (Int32 × RS) :=
  Option.bind (
    if ¬ (R.1 0 40) = (45 : Int32) then
      some (0 : Int32)
    else
      some (1 : Int32)) fun q1 =>
  Option.bind (
    if q1 = 0 then
      some R
    else
      (M_read R).bind fun v5 =>
      some v5) fun q3 =>
  Option.bind (
    if ¬ (q3.1 0 40) = (1 : Int32) then
      some false
    else
      if (9 : Int32) < (q3.1 0 42) then
        some false
      else
        some true) fun q6 =>
  (lp (fun q => M_number_l51 q3 q1 q.1 q.2.1 q.2.2) ((0 : Int32), q6, (0 : Int32))).bind fun z15 =>
  if z15.2 = true then
    (M_read q3).bind fun v17 =>
    if q1 = 0 then
      some (z15.1, v17)
    else
      some ((0 - z15.1), v17)
  else
    (M_fails q3).bind fun v19 =>
    some ((0 : Int32), v19.2)
set_option maxRecDepth 100000 in
set_option maxHeartbeats 4000000 in
theorem x_M_number_l51 {Γ : W0} {σ0 : Mem} {r : RT} {τ : Mem} {B : Nat} {R : RS} {x1 : Int32} {t : Int32 × Bool} (hB : RB τ B) (hk0 : ∀ z : Int32 × Bool, z = t → V Γ MD_M_number σ0 r (emb τ B R) 111 [(0, va_rf (some B)), (1, .int x1), (2, .int z.1), (3, .int (b2i z.2))] []) : ∀ q : Int32 × Bool × Int32, lp (fun q => M_number_l51 R x1 q.1 q.2.1 q.2.2) q = some t → V Γ MD_M_number σ0 r (emb τ B R) 51 [(0, va_rf (some B)), (1, .int x1), (2, .int q.1), (3, .int (b2i q.2.1)), (4, .int q.2.2)] [] := by
  refine lp_ind (fun (q : Int32 × Bool × Int32) => V Γ MD_M_number σ0 r (emb τ B R) 51 [(0, va_rf (some B)), (1, .int x1), (2, .int q.1), (3, .int (b2i q.2.1)), (4, .int q.2.2)] []) (fun q x hf ih ho => ?_)
  obtain ⟨x2, x3, x4⟩ := q
  show V Γ MD_M_number σ0 r (emb τ B R) 51 [(0, va_rf (some B)), (1, .int x1), (2, .int x2), (3, .int (b2i x3)), (4, .int x4)] []
  replace hf : M_number_l51 R x1 x2 x3 x4 = some x := hf
  unfold M_number_l51 at hf
  refine r_iload 4 dX12_number_51 rfl ?_
  refine r_aload_n 0 dX12_number_53 rfl rfl ?_
  refine rr_ldI (k := 42) hB dX12_number_54 fl_RX12_248 rfl ?_
  refine r_icmp_ge 111 hf dX12_number_57 (by decide) (fun c9 hf => ?_) (fun c9 hf => ?_)
  · refine r_sub (L' := [(0, _), (1, _), (2, _), (3, _)]) [0, 1, 2, 3] rfl ?_
    exact hk0 _ (ho _ (Option.some.inj hf).symm)
  · refine r_iload_n 3 dX12_number_60 rfl rfl ?_
    refine r_ifeqZ 111 hf dX12_number_61 (by decide) (fun c10 hf => ?_) (fun c10 hf => ?_)
    · refine r_aload_n 0 dX12_number_64 rfl rfl ?_
      refine rr_ldR (c := 1) hB dX12_number_65 fl_RX12_7 rfl rfl (by decide) ?_
      refine r_aload_n 0 dX12_number_68 rfl rfl ?_
      refine rr_ldI (k := 41) hB dX12_number_69 fl_RX12_245 rfl ?_
      refine r_iload 4 dX12_number_72 rfl ?_
      refine r_iadd dX12_number_74 ?_
      refine rr_raI hf hB dX12_number_75 (by decide) rfl (fun v11 ev11 hf => ?_)
      refine r_bipush (48 : Int32) dX12_number_76 (by decide) ?_
      refine r_bipush (57 : Int32) dX12_number_78 (by decide) ?_
      refine bnd hf (fun v12 ev12 hf => ?_)
      refine r_callSr dX12_number_80 cs_RX12_164 ww_1258 (by decide) rfl (rest := []) rfl (Or.inl (Nat.le_of_ble_eq_true rfl)) (t_M_in ev12) ?_
      refine r_istore_n (L' := [(3, _), (0, _), (1, _), (2, _), (4, _)]) dX12_number_83 rfl (show 3 < 5 by decide) rfl ?_
      refine r_bipush (10 : Int32) dX12_number_84 (by decide) ?_
      refine r_iload_n 3 dX12_number_86 rfl rfl ?_
      refine r_imul dX12_number_87 ?_
      refine r_aload_n 1 dX12_number_88 rfl rfl ?_
      refine rr_ldR (c := 1) hB dX12_number_89 fl_RX12_7 rfl rfl (by decide) ?_
      refine r_aload_n 1 dX12_number_92 rfl rfl ?_
      refine rr_ldI (k := 41) hB dX12_number_93 fl_RX12_245 rfl ?_
      refine r_iload 4 dX12_number_96 rfl ?_
      refine r_iadd dX12_number_98 ?_
      refine rr_raI hf hB dX12_number_99 (by decide) rfl (fun v13 ev13 hf => ?_)
      refine r_iadd dX12_number_100 ?_
      refine r_bipush (48 : Int32) dX12_number_101 (by decide) ?_
      refine r_isub dX12_number_103 ?_
      refine r_istore_n (L' := [(2, _), (3, _), (0, _), (1, _), (4, _)]) dX12_number_104 rfl (show 2 < 5 by decide) rfl ?_
      refine r_iinc (1 : Int32) (L' := [(4, _), (2, _), (3, _), (0, _), (1, _)]) 4 dX12_number_105 rfl (by decide) (show 4 < 5 by decide) rfl ?_
      refine r_goto 51 dX12_number_108 (by decide) ?_
      refine r_sub (L' := [(0, _), (1, _), (2, _), (3, _), (4, _)]) [3, 4, 1, 2, 0] rfl ?_
      exact ih _ (Option.some.inj hf).symm
    · refine r_sub (L' := [(0, _), (1, _), (2, _), (3, _)]) [0, 1, 2, 3] rfl ?_
      exact hk0 _ (ho _ (Option.some.inj hf).symm)
set_option maxRecDepth 100000 in
set_option maxHeartbeats 4000000 in
theorem t_M_number {Γ : W0} {τ : Mem} {B : Nat} {R : RS} {v : Int32} {R' : RS} (hB : RB τ B) (hf : M_number R = some (v, R')) : CT Γ MD_M_number yX12_number [va_rf (some B)] (emb τ B R) (some (.int v), (emb τ B R')) := by
  refine CT.of (L := [(0, va_rf (some B))]) rfl (by decide) (fun h => Bool.noConfusion (show false = true from h)) (Nat.le_of_ble_eq_true rfl) rfl ?_
  unfold M_number at hf
  generalize hr : mkR Γ (emb τ B R) (some (.int v)) (emb τ B R') = r
  refine r_aload_n 0 dX12_number_0 rfl rfl ?_
  refine rr_ldI (k := 40) hB dX12_number_1 fl_RX12_251 rfl ?_
  refine r_bipush (45 : Int32) dX12_number_4 (by decide) ?_
  refine r_bd (fun (q1 : Int32) => V Γ MD_M_number (emb τ B R) r (emb τ B R) 14 [(0, va_rf (some B))] [.int q1]) hf (fun q1 hf => ?_) (fun yq1 hf kq1 => ?_)
  · refine r_istore_n (L' := [(1, _), (0, _)]) dX12_number_14 rfl (show 1 < 5 by decide) rfl ?_
    refine r_iload_n 0 dX12_number_15 rfl rfl ?_
    refine r_bd (fun (q3 : RS) => V Γ MD_M_number (emb τ B R) r (emb τ B q3) 23 [(0, va_rf (some B)), (1, .int q1)] []) hf (fun q3 hf => ?_) (fun yq3 hf kq3 => ?_)
    · refine r_iconst (0 : Int32) dX12_number_23 (by decide) ?_
      refine r_istore_n (L' := [(2, _), (0, _), (1, _)]) dX12_number_24 rfl (show 2 < 5 by decide) rfl ?_
      refine r_aload_n 1 dX12_number_25 rfl rfl ?_
      refine rr_ldI (k := 40) hB dX12_number_26 fl_RX12_251 rfl ?_
      refine r_iconst (1 : Int32) dX12_number_29 (by decide) ?_
      refine r_bd (fun (q6 : Bool) => V Γ MD_M_number (emb τ B R) r (emb τ B q3) 47 [(0, va_rf (some B)), (1, .int q1), (2, .int (0 : Int32))] [.int (b2i q6)]) hf (fun q6 hf => ?_) (fun yq6 hf kq6 => ?_)
      · refine r_istore_n (L' := [(3, _), (0, _), (1, _), (2, _)]) dX12_number_47 rfl (show 3 < 5 by decide) rfl ?_
        refine r_iconst (0 : Int32) dX12_number_48 (by decide) ?_
        refine r_istore (L' := [(4, _), (3, _), (0, _), (1, _), (2, _)]) dX12_number_49 (show 4 < 5 by decide) rfl ?_
        refine bnd hf (fun t14 et14 hf => ?_)
        refine r_sub (L' := [(0, _), (1, _), (2, _), (3, _), (4, _)]) [2, 3, 4, 1, 0] rfl ?_
        refine x_M_number_l51 hB ?_ _ et14
        · intro z15 hz15
          subst hz15
          refine r_iload_n 3 dX12_number_111 rfl rfl ?_
          refine r_ifneZ 122 hf dX12_number_112 (by decide) (fun c16 hf => ?_) (fun c16 hf => ?_)
          · refine r_aload_n 0 dX12_number_122 rfl rfl ?_
            refine bnd hf (fun v17 ev17 hf => ?_)
            refine r_callVv (ci := 12) rfl dX12_number_123 cs_RX12_267 ww_1344 ww_50 (by decide) (hB.t0 _) (by decide) rfl (rest := []) rfl (Or.inl (Nat.le_of_ble_eq_true rfl)) (t_M_read hB ev17) ?_
            refine r_iload_n 1 dX12_number_126 rfl rfl ?_
            refine r_if_eq 135 hf dX12_number_127 (by decide) (fun c18 hf => ?_) (fun c18 hf => ?_)
            · refine r_iload_n 2 dX12_number_135 rfl rfl ?_
              exact r_iret rfl dX12_number_136 (by obtain ⟨h1, h2⟩ := Prod.mk.inj (Option.some.inj hf); subst h1; subst h2; exact hr.symm)
            · refine r_iload_n 2 dX12_number_130 rfl rfl ?_
              refine r_ineg dX12_number_131 ?_
              refine r_goto 136 dX12_number_132 (by decide) ?_
              exact r_iret rfl dX12_number_136 (by obtain ⟨h1, h2⟩ := Prod.mk.inj (Option.some.inj hf); subst h1; subst h2; exact hr.symm)
          · refine r_aload_n 0 dX12_number_115 rfl rfl ?_
            refine bnd hf (fun v19 ev19 hf => ?_)
            refine r_callVr (ci := 12) rfl dX12_number_116 cs_RX12_263 ww_1356 ww_53 (by decide) (hB.t0 _) (by decide) rfl (rest := []) rfl (Or.inl (Nat.le_of_ble_eq_true rfl)) (t_M_fails hB ev19) ?_
            refine r_pop dX12_number_119 rfl ?_
            refine r_iconst (0 : Int32) dX12_number_120 (by decide) ?_
            exact r_iret rfl dX12_number_121 (by obtain ⟨h1, h2⟩ := Prod.mk.inj (Option.some.inj hf); subst h1; subst h2; exact hr.symm)
      · refine r_icmp_ne 46 hf dX12_number_30 (by decide) (fun c7 hf => ?_) (fun c7 hf => ?_)
        · refine r_iconst (b2i false) dX12_number_46 rfl ?_
          refine r_sub (L' := [(0, _), (1, _), (2, _)]) [1, 2, 0] rfl ?_
          cases (Option.some.inj hf)
          exact kq6
        · refine r_aload_n 1 dX12_number_33 rfl rfl ?_
          refine rr_ldI (k := 42) hB dX12_number_34 fl_RX12_248 rfl ?_
          refine r_bipush (9 : Int32) dX12_number_37 (by decide) ?_
          refine r_icmp_gt 46 hf dX12_number_39 (by decide) (fun c8 hf => ?_) (fun c8 hf => ?_)
          · refine r_iconst (b2i false) dX12_number_46 rfl ?_
            refine r_sub (L' := [(0, _), (1, _), (2, _)]) [1, 2, 0] rfl ?_
            cases (Option.some.inj hf)
            exact kq6
          · refine r_iconst (b2i true) dX12_number_42 rfl ?_
            refine r_goto 47 dX12_number_43 (by decide) ?_
            refine r_sub (L' := [(0, _), (1, _), (2, _)]) [1, 2, 0] rfl ?_
            cases (Option.some.inj hf)
            exact kq6
    · refine r_if_eq 23 hf dX12_number_16 (by decide) (fun c4 hf => ?_) (fun c4 hf => ?_)
      · refine r_sub (L' := [(0, _), (1, _)]) [1, 0] rfl ?_
        cases (Option.some.inj hf)
        exact kq3
      · refine r_aload_n 1 dX12_number_19 rfl rfl ?_
        refine bnd hf (fun v5 ev5 hf => ?_)
        refine r_callVv (ci := 12) rfl dX12_number_20 cs_RX12_267 ww_1344 ww_50 (by decide) (hB.t0 _) (by decide) rfl (rest := []) rfl (Or.inl (Nat.le_of_ble_eq_true rfl)) (t_M_read hB ev5) ?_
        refine r_sub (L' := [(0, _), (1, _)]) [1, 0] rfl ?_
        cases (Option.some.inj hf)
        exact kq3
  · refine r_icmp_ne 13 hf dX12_number_6 (by decide) (fun c2 hf => ?_) (fun c2 hf => ?_)
    · refine r_iconst (0 : Int32) dX12_number_13 (by decide) ?_
      refine r_sub (L' := [(0, _)]) [0] rfl ?_
      cases (Option.some.inj hf)
      exact kq1
    · refine r_iconst (1 : Int32) dX12_number_9 (by decide) ?_
      refine r_goto 14 dX12_number_10 (by decide) ?_
      refine r_sub (L' := [(0, _)]) [0] rfl ?_
      cases (Option.some.inj hf)
      exact kq1
