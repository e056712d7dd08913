/-! methods as functions, with their walks (by program) -/
/-! SearchEngineModel.range -/
noncomputable def M_range (R : RS) : Option (Bool × RS) :=
  (M_read R).bind fun v1 =>
  Option.bind (
    if ¬ (v1.1 0 40) = (1 : Int32) then
      some (0 : Int32)
    else
      if ¬ (v1.1 0 42) = (1 : Int32) then
        some (0 : Int32)
      else
        (rdI v1 1 600 (v1.1 0 41)).bind fun v5 =>
        if ¬ v5 = (120 : Int32) then
          some (0 : Int32)
        else
          some (1 : Int32)) fun q2 =>
  Option.bind (
    if ¬ (v1.1 0 40) = (1 : Int32) then
      some (0 : Int32)
    else
      if ¬ (v1.1 0 42) = (1 : Int32) then
        some (0 : Int32)
      else
        (rdI v1 1 600 (v1.1 0 41)).bind fun v10 =>
        if ¬ v10 = (121 : Int32) then
          some (0 : Int32)
        else
          some (1 : Int32)) fun q7 =>
  jn (
    if ¬ q2 = 0 then
      some (Sum.inr ())
    else
      if ¬ q7 = 0 then
        some (Sum.inr ())
      else
        (M_fails v1).bind fun v15 =>
        some (Sum.inl (v15.1, v15.2))) fun q12 =>
  (M_read v1).bind fun v16 =>
  (M_number v16).bind fun v17 =>
  if (v17.2.1 0 45) = (-1 : Int32) then
    (M_number v17.2).bind fun v19 =>
    if (v19.2.1 0 45) = (-1 : Int32) then
      if (v19.2.1 0 40) = (93 : Int32) then
        (M_read v19.2).bind fun v22 =>
        Option.bind (
          if q2 = 0 then
            some (1 : Int32)
          else
            some (0 : Int32)) fun q23 =>
        (M_emit v22 (4 : Int32) q23 v17.1 v19.1).bind fun v25 =>
        some (true, v25)
      else
        (M_fails v19.2).bind fun v26 =>
        some (v26.1, v26.2)
    else
      some (false, v19.2)
  else
    some (false, v17.2)
set_option maxRecDepth 100000 in
set_option maxHeartbeats 4000000 in
theorem t_M_range {Γ : W0} {τ : Mem} {B : Nat} {R : RS} {v : Bool} {R' : RS} (hB : RB τ B) (hf : M_range R = some (v, R')) : CT Γ MD_M_range yX12_range [va_rf (some B)] (emb τ B R) (some (.int (b2i v)), (emb τ B R')) := by
  refine CT.of (L := [(0, va_rf (some B))]) rfl (by decide) (fun h => Bool.noConfusion (show false = true from h)) (Nat.le_of_ble_eq_true rfl) rfl ?_
  unfold M_range at hf
  generalize hr : mkR Γ (emb τ B R) (some (.int (b2i v))) (emb τ B R') = r
  refine r_aload_n 0 dX12_range_0 rfl rfl ?_
  refine bnd hf (fun v1 ev1 hf => ?_)
  refine r_callVv (ci := 12) rfl dX12_range_1 cs_RX12_267 ww_1344 ww_50 (by decide) (hB.t0 _) (by decide) rfl (rest := []) rfl (Or.inl (Nat.le_of_ble_eq_true rfl)) (t_M_read hB ev1) ?_
  refine r_aload_n 0 dX12_range_4 rfl rfl ?_
  refine rr_ldI (k := 40) hB dX12_range_5 fl_RX12_251 rfl ?_
  refine r_iconst (1 : Int32) dX12_range_8 (by decide) ?_
  refine r_bd (fun (q2 : Int32) => V Γ MD_M_range (emb τ B R) r (emb τ B v1) 39 [(0, va_rf (some B))] [.int q2]) hf (fun q2 hf => ?_) (fun yq2 hf kq2 => ?_)
  · refine r_istore_n (L' := [(1, _), (0, _)]) dX12_range_39 rfl (show 1 < 5 by decide) rfl ?_
    refine r_aload_n 1 dX12_range_40 rfl rfl ?_
    refine rr_ldI (k := 40) hB dX12_range_41 fl_RX12_251 rfl ?_
    refine r_iconst (1 : Int32) dX12_range_44 (by decide) ?_
    refine r_bd (fun (q7 : Int32) => V Γ MD_M_range (emb τ B R) r (emb τ B v1) 75 [(0, va_rf (some B)), (1, .int q2)] [.int q7]) hf (fun q7 hf => ?_) (fun yq7 hf kq7 => ?_)
    · refine r_istore_n (L' := [(2, _), (0, _), (1, _)]) dX12_range_75 rfl (show 2 < 5 by decide) rfl ?_
      refine r_iload_n 2 dX12_range_76 rfl rfl ?_
      refine r_jn (fun (q12 : Unit) => V Γ MD_M_range (emb τ B R) r (emb τ B v1) 89 [(0, va_rf (some B)), (1, .int q2)] []) hf (fun q12 hf => ?_) (fun yq12 hf oq12 kq12 => ?_)
      · refine r_aload_n 0 dX12_range_89 rfl rfl ?_
        refine bnd hf (fun v16 ev16 hf => ?_)
        refine r_callVv (ci := 12) rfl dX12_range_90 cs_RX12_267 ww_1344 ww_50 (by decide) (hB.t0 _) (by decide) rfl (rest := []) rfl (Or.inl (Nat.le_of_ble_eq_true rfl)) (t_M_read hB ev16) ?_
        refine r_aload_n 0 dX12_range_93 rfl rfl ?_
        refine bnd hf (fun v17 ev17 hf => ?_)
        refine r_callVr (ci := 12) rfl dX12_range_94 cs_RX12_270 ww_1368 ww_56 (by decide) (hB.t0 _) (by decide) rfl (rest := []) rfl (Or.inl (Nat.le_of_ble_eq_true rfl)) (t_M_number hB ev17) ?_
        refine r_istore_n (L' := [(3, _), (0, _), (1, _)]) dX12_range_97 rfl (show 3 < 5 by decide) rfl ?_
        refine r_aload_n 1 dX12_range_98 rfl rfl ?_
        refine rr_ldI (k := 45) hB dX12_range_99 fl_RX12_254 rfl ?_
        refine r_iconst (-1 : Int32) dX12_range_102 (by decide) ?_
        refine r_icmp_eq 108 hf dX12_range_103 (by decide) (fun c18 hf => ?_) (fun c18 hf => ?_)
        · refine r_aload_n 1 dX12_range_108 rfl rfl ?_
          refine bnd hf (fun v19 ev19 hf => ?_)
          refine r_callVr (ci := 12) rfl dX12_range_109 cs_RX12_270 ww_1368 ww_56 (by decide) (hB.t0 _) (by decide) rfl (rest := []) rfl (Or.inl (Nat.le_of_ble_eq_true rfl)) (t_M_number hB ev19) ?_
          refine r_istore (L' := [(4, _), (3, _), (0, _), (1, _)]) dX12_range_112 (show 4 < 5 by decide) rfl ?_
          refine r_aload_n 2 dX12_range_114 rfl rfl ?_
          refine rr_ldI (k := 45) hB dX12_range_115 fl_RX12_254 rfl ?_
          refine r_iconst (-1 : Int32) dX12_range_118 (by decide) ?_
          refine r_icmp_eq 124 hf dX12_range_119 (by decide) (fun c20 hf => ?_) (fun c20 hf => ?_)
          · refine r_aload_n 2 dX12_range_124 rfl rfl ?_
            refine rr_ldI (k := 40) hB dX12_range_125 fl_RX12_251 rfl ?_
            refine r_bipush (93 : Int32) dX12_range_128 (by decide) ?_
            refine r_icmp_eq 138 hf dX12_range_130 (by decide) (fun c21 hf => ?_) (fun c21 hf => ?_)
            · refine r_aload_n 2 dX12_range_138 rfl rfl ?_
              refine bnd hf (fun v22 ev22 hf => ?_)
              refine r_callVv (ci := 12) rfl dX12_range_139 cs_RX12_267 ww_1344 ww_50 (by decide) (hB.t0 _) (by decide) rfl (rest := []) rfl (Or.inl (Nat.le_of_ble_eq_true rfl)) (t_M_read hB ev22) ?_
              refine r_aload_n 2 dX12_range_142 rfl rfl ?_
              refine r_iconst (4 : Int32) dX12_range_143 (by decide) ?_
              refine r_iload_n 3 dX12_range_144 rfl rfl ?_
              refine r_bd (fun (q23 : Int32) => V Γ MD_M_range (emb τ B R) r (emb τ B v22) 153 [(3, .int v17.1), (4, .int v19.1)] [.int q23, .int (4 : Int32), va_rf (some B)]) hf (fun q23 hf => ?_) (fun yq23 hf kq23 => ?_)
              · refine r_iload_n 0 dX12_range_153 rfl rfl ?_
                refine r_iload 1 dX12_range_154 rfl ?_
                refine bnd hf (fun v25 ev25 hf => ?_)
                refine r_callVv (ci := 12) rfl dX12_range_156 cs_RX12_273 ww_1372 ww_57 (by decide) (hB.t0 _) (by decide) rfl (rest := []) rfl (Or.inl (Nat.le_of_ble_eq_true rfl)) (t_M_emit hB ev25) ?_
                refine r_iconst (b2i true) dX12_range_159 rfl ?_
                exact r_zret rfl dX12_range_160 (by obtain ⟨h1, h2⟩ := Prod.mk.inj (Option.some.inj hf); subst h1; subst h2; exact hr.symm)
              · refine r_if_eq 152 hf dX12_range_145 (by decide) (fun c24 hf => ?_) (fun c24 hf => ?_)
                · refine r_iconst (1 : Int32) dX12_range_152 (by decide) ?_
                  refine r_sub (L' := [(3, _), (4, _)]) [1, 0] rfl ?_
                  cases (Option.some.inj hf)
                  exact kq23
                · refine r_iconst (0 : Int32) dX12_range_148 (by decide) ?_
                  refine r_goto 153 dX12_range_149 (by decide) ?_
                  refine r_sub (L' := [(3, _), (4, _)]) [1, 0] rfl ?_
                  cases (Option.some.inj hf)
                  exact kq23
            · refine r_aload_n 2 dX12_range_133 rfl rfl ?_
              refine bnd hf (fun v26 ev26 hf => ?_)
              refine r_callVr (ci := 12) rfl dX12_range_134 cs_RX12_263 ww_1356 ww_53 (by decide) (hB.t0 _) (by decide) rfl (rest := []) rfl (Or.inl (Nat.le_of_ble_eq_true rfl)) (t_M_fails hB ev26) ?_
              exact r_zret rfl dX12_range_137 (by obtain ⟨h1, h2⟩ := Prod.mk.inj (Option.some.inj hf); subst h1; subst h2; exact hr.symm)
          · refine r_iconst (b2i false) dX12_range_122 rfl ?_
            exact r_zret rfl dX12_range_123 (by obtain ⟨h1, h2⟩ := Prod.mk.inj (Option.some.inj hf); subst h1; subst h2; exact hr.symm)
        · refine r_iconst (b2i false) dX12_range_106 rfl ?_
          exact r_zret rfl dX12_range_107 (by obtain ⟨h1, h2⟩ := Prod.mk.inj (Option.some.inj hf); subst h1; subst h2; exact hr.symm)
      · refine r_if_ne 89 hf dX12_range_77 (by decide) (fun c13 hf => ?_) (fun c13 hf => ?_)
        · refine r_sub (L' := [(0, _), (1, _)]) [1, 2] rfl ?_
          exact kq12 _ (Option.some.inj hf).symm
        · refine r_iload_n 0 dX12_range_80 rfl rfl ?_
          refine r_if_ne 89 hf dX12_range_81 (by decide) (fun c14 hf => ?_) (fun c14 hf => ?_)
          · refine r_sub (L' := [(0, _), (1, _)]) [1, 2] rfl ?_
            exact kq12 _ (Option.some.inj hf).symm
          · refine r_aload_n 1 dX12_range_84 rfl rfl ?_
            refine bnd hf (fun v15 ev15 hf => ?_)
            refine r_callVr (ci := 12) rfl dX12_range_85 cs_RX12_263 ww_1356 ww_53 (by decide) (hB.t0 _) (by decide) rfl (rest := []) rfl (Or.inl (Nat.le_of_ble_eq_true rfl)) (t_M_fails hB ev15) ?_
            exact r_zret rfl dX12_range_88 (by obtain ⟨h1, h2⟩ := Prod.mk.inj (oq12 _ (Option.some.inj hf).symm); subst h1; subst h2; exact hr.symm)
    · refine r_icmp_ne 74 hf dX12_range_45 (by decide) (fun c8 hf => ?_) (fun c8 hf => ?_)
      · refine r_iconst (0 : Int32) dX12_range_74 (by decide) ?_
        refine r_sub (L' := [(0, _), (1, _)]) [1, 0] rfl ?_
        cases (Option.some.inj hf)
        exact kq7
      · refine r_aload_n 1 dX12_range_48 rfl rfl ?_
        refine rr_ldI (k := 42) hB dX12_range_49 fl_RX12_248 rfl ?_
        refine r_iconst (1 : Int32) dX12_range_52 (by decide) ?_
        refine r_icmp_ne 74 hf dX12_range_53 (by decide) (fun c9 hf => ?_) (fun c9 hf => ?_)
        · refine r_iconst (0 : Int32) dX12_range_74 (by decide) ?_
          refine r_sub (L' := [(0, _), (1, _)]) [1, 0] rfl ?_
          cases (Option.some.inj hf)
          exact kq7
        · refine r_aload_n 1 dX12_range_56 rfl rfl ?_
          refine rr_ldR (c := 1) hB dX12_range_57 fl_RX12_7 rfl rfl (by decide) ?_
          refine r_aload_n 1 dX12_range_60 rfl rfl ?_
          refine rr_ldI (k := 41) hB dX12_range_61 fl_RX12_245 rfl ?_
          refine rr_raI hf hB dX12_range_64 (by decide) rfl (fun v10 ev10 hf => ?_)
          refine r_bipush (121 : Int32) dX12_range_65 (by decide) ?_
          refine r_icmp_ne 74 hf dX12_range_67 (by decide) (fun c11 hf => ?_) (fun c11 hf => ?_)
          · refine r_iconst (0 : Int32) dX12_range_74 (by decide) ?_
            refine r_sub (L' := [(0, _), (1, _)]) [1, 0] rfl ?_
            cases (Option.some.inj hf)
            exact kq7
          · refine r_iconst (1 : Int32) dX12_range_70 (by decide) ?_
            refine r_goto 75 dX12_range_71 (by decide) ?_
            refine r_sub (L' := [(0, _), (1, _)]) [1, 0] rfl ?_
            cases (Option.some.inj hf)
            exact kq7
  · refine r_icmp_ne 38 hf dX12_range_9 (by decide) (fun c3 hf => ?_) (fun c3 hf => ?_)
    · refine r_iconst (0 : Int32) dX12_range_38 (by decide) ?_
      refine r_sub (L' := [(0, _)]) [0] rfl ?_
      cases (Option.some.inj hf)
      exact kq2
    · refine r_aload_n 0 dX12_range_12 rfl rfl ?_
      refine rr_ldI (k := 42) hB dX12_range_13 fl_RX12_248 rfl ?_
      refine r_iconst (1 : Int32) dX12_range_16 (by decide) ?_
      refine r_icmp_ne 38 hf dX12_range_17 (by decide) (fun c4 hf => ?_) (fun c4 hf => ?_)
      · refine r_iconst (0 : Int32) dX12_range_38 (by decide) ?_
        refine r_sub (L' := [(0, _)]) [0] rfl ?_
        cases (Option.some.inj hf)
        exact kq2
      · refine r_aload_n 0 dX12_range_20 rfl rfl ?_
        refine rr_ldR (c := 1) hB dX12_range_21 fl_RX12_7 rfl rfl (by decide) ?_
        refine r_aload_n 0 dX12_range_24 rfl rfl ?_
        refine rr_ldI (k := 41) hB dX12_range_25 fl_RX12_245 rfl ?_
        refine rr_raI hf hB dX12_range_28 (by decide) rfl (fun v5 ev5 hf => ?_)
        refine r_bipush (120 : Int32) dX12_range_29 (by decide) ?_
        refine r_icmp_ne 38 hf dX12_range_31 (by decide) (fun c6 hf => ?_) (fun c6 hf => ?_)
        · refine r_iconst (0 : Int32) dX12_range_38 (by decide) ?_
          refine r_sub (L' := [(0, _)]) [0] rfl ?_
          cases (Option.some.inj hf)
          exact kq2
        · refine r_iconst (1 : Int32) dX12_range_34 (by decide) ?_
          refine r_goto 39 dX12_range_35 (by decide) ?_
          refine r_sub (L' := [(0, _)]) [0] rfl ?_
          cases (Option.some.inj hf)
          exact kq2
/-! SearchEngineModel.phrase -/
noncomputable def M_phrase_l24 (R : RS) (x1 : Int32) (x2 : Int32) (x3 : Int32) : Option ((Int32 × RS) ⊕ (RS ⊕ (Int32 × RS))) :=
  if ¬ (R.1 0 40) = (1 : Int32) then
    some (Sum.inr (Sum.inr (x3, R)))
  else
    if ¬ x3 = (8 : Int32) then
      (M_word R x3 false).bind fun v5 =>
      (M_read v5).bind fun v6 =>
      some (Sum.inl ((x3 + (1 : Int32)), v6))
    else
      some (Sum.inr (Sum.inl R))
noncomputable def M_phrase (R : RS) (x1 : Int32) : Option (Bool × RS) :=
  (M_read R).bind fun v1 =>
  if (v1.1 0 40) = (1 : Int32) then
    (lp (fun q => M_phrase_l24 q.2 x1 (v1.1 0 51) q.1) ((0 : Int32), v1)).bind 
      (se (fun z8 =>
        (M_fails z8).bind fun v10 =>
        some (v10.1, v10.2))
        (fun z9 =>
          if (z9.2.1 0 40) = (34 : Int32) then
            (M_read z9.2).bind fun v12 =>
            jn (
              if ¬ (v12.1 0 40) = (126 : Int32) then
                some (Sum.inr ((0 : Int32), v12))
              else
                (M_read v12).bind fun v15 =>
                (M_digit v15 (0 : Int32)).bind fun v16 =>
                if (v16.2.1 0 45) = (-1 : Int32) then
                  some (Sum.inr (v16.1, v16.2))
                else
                  some (Sum.inl (false, v16.2))) fun q13 =>
            (M_emit q13.2 (3 : Int32) x1 (v1.1 0 51) (((16 : Int32) * q13.1) + z9.1)).bind fun v18 =>
            some (true, v18)
          else
            (M_fails z9.2).bind fun v19 =>
            some (v19.1, v19.2)))
  else
    (M_fails v1).bind fun v20 =>
    some (v20.1, v20.2)
set_option maxRecDepth 100000 in
set_option maxHeartbeats 4000000 in
theorem x_M_phrase_l24 {Γ : W0} {σ0 : Mem} {r : RT} {τ : Mem} {B : Nat} {x1 : Int32} {x2 : Int32} {t : RS ⊕ (Int32 × RS)} (hB : RB τ B) (hk0 : ∀ z : RS, (Sum.inl z) = t → V Γ MD_M_phrase σ0 r (emb τ B z) 38 [(0, va_rf (some B))] []) (hk1 : ∀ z : Int32 × RS, (Sum.inr z) = t → V Γ MD_M_phrase σ0 r (emb τ B z.2) 59 [(0, va_rf (some B)), (1, .int x1), (2, .int x2), (3, .int z.1)] []) : ∀ q : Int32 × RS, lp (fun q => M_phrase_l24 q.2 x1 x2 q.1) q = some t → V Γ MD_M_phrase σ0 r (emb τ B q.2) 24 [(0, va_rf (some B)), (1, .int x1), (2, .int x2), (3, .int q.1)] [] := by
  refine lp_ind (fun (q : Int32 × RS) => V Γ MD_M_phrase σ0 r (emb τ B q.2) 24 [(0, va_rf (some B)), (1, .int x1), (2, .int x2), (3, .int q.1)] []) (fun q x hf ih ho => ?_)
  obtain ⟨x3, R⟩ := q
  show V Γ MD_M_phrase σ0 r (emb τ B R) 24 [(0, va_rf (some B)), (1, .int x1), (2, .int x2), (3, .int x3)] []
  replace hf : M_phrase_l24 R x1 x2 x3 = some x := hf
  unfold M_phrase_l24 at hf
  refine r_aload_n 0 dX12_phrase_24 rfl rfl ?_
  refine rr_ldI (k := 40) hB dX12_phrase_25 fl_RX12_251 rfl ?_
  refine r_iconst (1 : Int32) dX12_phrase_28 (by decide) ?_
  refine r_icmp_ne 59 hf dX12_phrase_29 (by decide) (fun c3 hf => ?_) (fun c3 hf => ?_)
  · refine r_sub (L' := [(0, _), (1, _), (2, _), (3, _)]) [0, 1, 2, 3] rfl ?_
    exact hk1 _ (ho _ (Option.some.inj hf).symm)
  · refine r_iload_n 3 dX12_phrase_32 rfl rfl ?_
    refine r_bipush (8 : Int32) dX12_phrase_33 (by decide) ?_
    refine r_icmp_ne 43 hf dX12_phrase_35 (by decide) (fun c4 hf => ?_) (fun c4 hf => ?_)
    · refine r_aload_n 0 dX12_phrase_43 rfl rfl ?_
      refine r_iload_n 3 dX12_phrase_44 rfl rfl ?_
      refine r_iconst (b2i false) dX12_phrase_45 rfl ?_
      refine bnd hf (fun v5 ev5 hf => ?_)
      refine r_callVv (ci := 12) rfl dX12_phrase_46 cs_RX12_285 ww_1384 ww_60 (by decide) (hB.t0 _) (by decide) rfl (rest := []) rfl (Or.inl (Nat.le_of_ble_eq_true rfl)) (t_M_word hB ev5) ?_
      refine r_iinc (1 : Int32) (L' := [(3, _), (0, _), (1, _), (2, _)]) 3 dX12_phrase_49 rfl (by decide) (show 3 < 5 by decide) rfl ?_
      refine r_aload_n 1 dX12_phrase_52 rfl rfl ?_
      refine bnd hf (fun v6 ev6 hf => ?_)
      refine r_callVv (ci := 12) rfl dX12_phrase_53 cs_RX12_267 ww_1344 ww_50 (by decide) (hB.t0 _) (by decide) rfl (rest := []) rfl (Or.inl (Nat.le_of_ble_eq_true rfl)) (t_M_read hB ev6) ?_
      refine r_goto 24 dX12_phrase_56 (by decide) ?_
      refine r_sub (L' := [(0, _), (1, _), (2, _), (3, _)]) [1, 2, 3, 0] rfl ?_
      exact ih _ (Option.some.inj hf).symm
    · refine r_sub (L' := [(0, _)]) [0] rfl ?_
      exact hk0 _ (ho _ (Option.some.inj hf).symm)
set_option maxRecDepth 100000 in
set_option maxHeartbeats 4000000 in
theorem t_M_phrase {Γ : W0} {τ : Mem} {B : Nat} {R : RS} {x1 : Int32} {v : Bool} {R' : RS} (hB : RB τ B) (hf : M_phrase R x1 = some (v, R')) : CT Γ MD_M_phrase yX12_phrase [va_rf (some B), .int x1] (emb τ B R) (some (.int (b2i v)), (emb τ B R')) := by
  refine CT.of (L := [(0, va_rf (some B)), (1, .int x1)]) rfl (by decide) (fun h => Bool.noConfusion (show false = true from h)) (Nat.le_of_ble_eq_true rfl) rfl ?_
  unfold M_phrase at hf
  generalize hr : mkR Γ (emb τ B R) (some (.int (b2i v))) (emb τ B R') = r
  refine r_aload_n 0 dX12_phrase_0 rfl rfl ?_
  refine bnd hf (fun v1 ev1 hf => ?_)
  refine r_callVv (ci := 12) rfl dX12_phrase_1 cs_RX12_267 ww_1344 ww_50 (by decide) (hB.t0 _) (by decide) rfl (rest := []) rfl (Or.inl (Nat.le_of_ble_eq_true rfl)) (t_M_read hB ev1) ?_
  refine r_aload_n 0 dX12_phrase_4 rfl rfl ?_
  refine rr_ldI (k := 51) hB dX12_phrase_5 fl_RX12_260 rfl ?_
  refine r_istore_n (L' := [(2, _), (0, _), (1, _)]) dX12_phrase_8 rfl (show 2 < 5 by decide) rfl ?_
  refine r_iconst (0 : Int32) dX12_phrase_9 (by decide) ?_
  refine r_istore_n (L' := [(3, _), (2, _), (0, _), (1, _)]) dX12_phrase_10 rfl (show 3 < 5 by decide) rfl ?_
  refine r_aload_n 2 dX12_phrase_11 rfl rfl ?_
  refine rr_ldI (k := 40) hB dX12_phrase_12 fl_RX12_251 rfl ?_
  refine r_iconst (1 : Int32) dX12_phrase_15 (by decide) ?_
  refine r_icmp_eq 24 hf dX12_phrase_16 (by decide) (fun c2 hf => ?_) (fun c2 hf => ?_)
  · refine bnd hf (fun t7 et7 hf => ?_)
    refine r_sub (L' := [(0, _), (1, _), (2, _), (3, _)]) [2, 3, 1, 0] rfl ?_
    refine x_M_phrase_l24 hB ?_ ?_ _ et7
    · intro z8 hz8
      subst hz8
      simp only [se] at hf
      refine r_aload_n 0 dX12_phrase_38 rfl rfl ?_
      refine bnd hf (fun v10 ev10 hf => ?_)
      refine r_callVr (ci := 12) rfl dX12_phrase_39 cs_RX12_263 ww_1356 ww_53 (by decide) (hB.t0 _) (by decide) rfl (rest := []) rfl (Or.inl (Nat.le_of_ble_eq_true rfl)) (t_M_fails hB ev10) ?_
      exact r_zret rfl dX12_phrase_42 (by obtain ⟨h1, h2⟩ := Prod.mk.inj (Option.some.inj hf); subst h1; subst h2; exact hr.symm)
    · intro z9 hz9
      subst hz9
      simp only [se] at hf
      refine r_aload_n 0 dX12_phrase_59 rfl rfl ?_
      refine rr_ldI (k := 40) hB dX12_phrase_60 fl_RX12_251 rfl ?_
      refine r_bipush (34 : Int32) dX12_phrase_63 (by decide) ?_
      refine r_icmp_eq 73 hf dX12_phrase_65 (by decide) (fun c11 hf => ?_) (fun c11 hf => ?_)
      · refine r_aload_n 0 dX12_phrase_73 rfl rfl ?_
        refine bnd hf (fun v12 ev12 hf => ?_)
        refine r_callVv (ci := 12) rfl dX12_phrase_74 cs_RX12_267 ww_1344 ww_50 (by decide) (hB.t0 _) (by decide) rfl (rest := []) rfl (Or.inl (Nat.le_of_ble_eq_true rfl)) (t_M_read hB ev12) ?_
        refine r_iconst (0 : Int32) dX12_phrase_77 (by decide) ?_
        refine r_istore (L' := [(4, _), (0, _), (1, _), (2, _), (3, _)]) dX12_phrase_78 (show 4 < 5 by decide) rfl ?_
        refine r_aload_n 1 dX12_phrase_80 rfl rfl ?_
        refine rr_ldI (k := 40) hB dX12_phrase_81 fl_RX12_251 rfl ?_
        refine r_bipush (126 : Int32) dX12_phrase_84 (by decide) ?_
        refine r_jn (fun (q13 : Int32 × RS) => V Γ MD_M_phrase (emb τ B R) r (emb τ B q13.2) 110 [(0, va_rf (some B)), (1, .int x1), (2, .int (v1.1 0 51)), (3, .int z9.1), (4, .int q13.1)] []) hf (fun q13 hf => ?_) (fun yq13 hf oq13 kq13 => ?_)
        · refine r_aload_n 0 dX12_phrase_110 rfl rfl ?_
          refine r_iconst (3 : Int32) dX12_phrase_111 (by decide) ?_
          refine r_iload_n 1 dX12_phrase_112 rfl rfl ?_
          refine r_iload_n 2 dX12_phrase_113 rfl rfl ?_
          refine r_bipush (16 : Int32) dX12_phrase_114 (by decide) ?_
          refine r_iload 4 dX12_phrase_116 rfl ?_
          refine r_imul dX12_phrase_118 ?_
          refine r_iload_n 3 dX12_phrase_119 rfl rfl ?_
          refine r_iadd dX12_phrase_120 ?_
          refine bnd hf (fun v18 ev18 hf => ?_)
          refine r_callVv (ci := 12) rfl dX12_phrase_121 cs_RX12_273 ww_1372 ww_57 (by decide) (hB.t0 _) (by decide) rfl (rest := []) rfl (Or.inl (Nat.le_of_ble_eq_true rfl)) (t_M_emit hB ev18) ?_
          refine r_iconst (b2i true) dX12_phrase_124 rfl ?_
          exact r_zret rfl dX12_phrase_125 (by obtain ⟨h1, h2⟩ := Prod.mk.inj (Option.some.inj hf); subst h1; subst h2; exact hr.symm)
        · refine r_icmp_ne 110 hf dX12_phrase_86 (by decide) (fun c14 hf => ?_) (fun c14 hf => ?_)
          · refine r_sub (L' := [(0, _), (1, _), (2, _), (3, _), (4, _)]) [1, 2, 3, 4, 0] rfl ?_
            exact kq13 _ (Option.some.inj hf).symm
          · refine r_aload_n 1 dX12_phrase_89 rfl rfl ?_
            refine bnd hf (fun v15 ev15 hf => ?_)
            refine r_callVv (ci := 12) rfl dX12_phrase_90 cs_RX12_267 ww_1344 ww_50 (by decide) (hB.t0 _) (by decide) rfl (rest := []) rfl (Or.inl (Nat.le_of_ble_eq_true rfl)) (t_M_read hB ev15) ?_
            refine r_aload_n 1 dX12_phrase_93 rfl rfl ?_
            refine r_iconst (0 : Int32) dX12_phrase_94 (by decide) ?_
            refine bnd hf (fun v16 ev16 hf => ?_)
            refine r_callVr (ci := 12) rfl dX12_phrase_95 cs_RX12_289 ww_1388 ww_61 (by decide) (hB.t0 _) (by decide) rfl (rest := []) rfl (Or.inl (Nat.le_of_ble_eq_true rfl)) (t_M_digit hB ev16) ?_
            refine r_istore (L' := [(4, _), (0, _), (1, _), (2, _), (3, _)]) dX12_phrase_98 (show 4 < 5 by decide) rfl ?_
            refine r_aload_n 1 dX12_phrase_100 rfl rfl ?_
            refine rr_ldI (k := 45) hB dX12_phrase_101 fl_RX12_254 rfl ?_
            refine r_iconst (-1 : Int32) dX12_phrase_104 (by decide) ?_
            refine r_icmp_eq 110 hf dX12_phrase_105 (by decide) (fun c17 hf => ?_) (fun c17 hf => ?_)
            · refine r_sub (L' := [(0, _), (1, _), (2, _), (3, _), (4, _)]) [1, 2, 3, 4, 0] rfl ?_
              exact kq13 _ (Option.some.inj hf).symm
            · refine r_iconst (b2i false) dX12_phrase_108 rfl ?_
              exact r_zret rfl dX12_phrase_109 (by obtain ⟨h1, h2⟩ := Prod.mk.inj (oq13 _ (Option.some.inj hf).symm); subst h1; subst h2; exact hr.symm)
      · refine r_aload_n 0 dX12_phrase_68 rfl rfl ?_
        refine bnd hf (fun v19 ev19 hf => ?_)
        refine r_callVr (ci := 12) rfl dX12_phrase_69 cs_RX12_263 ww_1356 ww_53 (by decide) (hB.t0 _) (by decide) rfl (rest := []) rfl (Or.inl (Nat.le_of_ble_eq_true rfl)) (t_M_fails hB ev19) ?_
        exact r_zret rfl dX12_phrase_72 (by obtain ⟨h1, h2⟩ := Prod.mk.inj (Option.some.inj hf); subst h1; subst h2; exact hr.symm)
  · refine r_aload_n 2 dX12_phrase_19 rfl rfl ?_
    refine bnd hf (fun v20 ev20 hf => ?_)
    refine r_callVr (ci := 12) rfl dX12_phrase_20 cs_RX12_263 ww_1356 ww_53 (by decide) (hB.t0 _) (by decide) rfl (rest := []) rfl (Or.inl (Nat.le_of_ble_eq_true rfl)) (t_M_fails hB ev20) ?_
    exact r_zret rfl dX12_phrase_23 (by obtain ⟨h1, h2⟩ := Prod.mk.inj (Option.some.inj hf); subst h1; subst h2; exact hr.symm)
/-! SearchEngineModel.atom -/
noncomputable def M_atom_l84 (R : RS) (x1 : Int32) (x2 : Int32) : Option (Int32 ⊕ Int32) :=
  if (R.1 0 44) ≤ x2 then
    some (Sum.inr x2)
  else
    (rdI R 1 600 x2).bind fun v13 =>
    if ¬ v13 = (32 : Int32) then
      some (Sum.inr x2)
    else
      some (Sum.inl (x2 + (1 : Int32)))
noncomputable def M_atom (R : RS) : Option (Bool × RS) :=
  if ¬ (R.1 0 40) = (91 : Int32) then
    (M_isField R).bind fun v2 =>
    Option.bind (
      if v2 = true then
        (rdI R 1 600 (R.1 0 41)).bind fun v5 =>
        Option.bind (
          if ¬ v5 = (116 : Int32) then
            some (1 : Int32)
          else
            some (0 : Int32)) fun q6 =>
        (M_read R).bind fun v8 =>
        (M_read v8).bind fun v9 =>
        some (q6, v9)
      else
        some ((-1 : Int32), R)) fun q3 =>
    if ¬ (q3.2.1 0 40) = (34 : Int32) then
      if (q3.2.1 0 40) = (1 : Int32) then
        (lp (fun q => M_atom_l84 q3.2 q3.1 q) (q3.2.1 0 43)).bind fun z16 =>
        Option.bind (
          if (q3.2.1 0 44) ≤ z16 then
            some false
          else
            (rdI q3.2 1 600 z16).bind fun v19 =>
            if ¬ v19 = (42 : Int32) then
              some false
            else
              some true) fun q17 =>
        (M_word q3.2 (0 : Int32) q17).bind fun v21 =>
        (M_read v21).bind fun v22 =>
        Option.bind (
          if q17 = true then
            (M_read v22).bind fun v25 =>
            some v25
          else
            some v22) fun q23 =>
        Option.bind (
          if q17 = true then
            some (2 : Int32)
          else
            some (1 : Int32)) fun q26 =>
        (M_emit q23 q26 q3.1 ((q23.1 0 51) - (1 : Int32)) (1 : Int32)).bind fun v28 =>
        some (true, v28)
      else
        (M_fails q3.2).bind fun v29 =>
        some (v29.1, v29.2)
    else
      (M_phrase q3.2 q3.1).bind fun v30 =>
      some (v30.1, v30.2)
  else
    (M_range R).bind fun v31 =>
    some (v31.1, v31.2)
set_option maxRecDepth 100000 in
set_option maxHeartbeats 4000000 in
theorem x_M_atom_l84 {Γ : W0} {σ0 : Mem} {r : RT} {τ : Mem} {B : Nat} {R : RS} {x1 : Int32} {t : Int32} (hB : RB τ B) (hk0 : ∀ z : Int32, z = t → V Γ MD_M_atom σ0 r (emb τ B R) 109 [(0, va_rf (some B)), (1, .int x1), (2, .int z)] []) : ∀ q : Int32, lp (fun q => M_atom_l84 R x1 q) q = some t → V Γ MD_M_atom σ0 r (emb τ B R) 84 [(0, va_rf (some B)), (1, .int x1), (2, .int q)] [] := by
  refine lp_ind (fun (q : Int32) => V Γ MD_M_atom σ0 r (emb τ B R) 84 [(0, va_rf (some B)), (1, .int x1), (2, .int q)] []) (fun q x hf ih ho => ?_)
  revert hf ih
  generalize q = x2
  intro hf ih
  show V Γ MD_M_atom σ0 r (emb τ B R) 84 [(0, va_rf (some B)), (1, .int x1), (2, .int x2)] []
  replace hf : M_atom_l84 R x1 x2 = some x := hf
  unfold M_atom_l84 at hf
  refine r_iload_n 2 dX12_atom_84 rfl rfl ?_
  refine r_aload_n 0 dX12_atom_85 rfl rfl ?_
  refine rr_ldI (k := 44) hB dX12_atom_86 fl_RX12_242 rfl ?_
  refine r_icmp_ge 109 hf dX12_atom_89 (by decide) (fun c12 hf => ?_) (fun c12 hf => ?_)
  · refine r_sub (L' := [(0, _), (1, _), (2, _)]) [0, 1, 2] rfl ?_
    exact hk0 _ (ho _ (Option.some.inj hf).symm)
  · refine r_aload_n 0 dX12_atom_92 rfl rfl ?_
    refine rr_ldR (c := 1) hB dX12_atom_93 fl_RX12_7 rfl rfl (by decide) ?_
    refine r_iload_n 2 dX12_atom_96 rfl rfl ?_
    refine rr_raI hf hB dX12_atom_97 (by decide) rfl (fun v13 ev13 hf => ?_)
    refine r_bipush (32 : Int32) dX12_atom_98 (by decide) ?_
    refine r_icmp_ne 109 hf dX12_atom_100 (by decide) (fun c14 hf => ?_) (fun c14 hf => ?_)
    · refine r_sub (L' := [(0, _), (1, _), (2, _)]) [0, 1, 2] rfl ?_
      exact hk0 _ (ho _ (Option.some.inj hf).symm)
    · refine r_iinc (1 : Int32) (L' := [(2, _), (0, _), (1, _)]) 2 dX12_atom_103 rfl (by decide) (show 2 < 4 by decide) rfl ?_
      refine r_goto 84 dX12_atom_106 (by decide) ?_
      refine r_sub (L' := [(0, _), (1, _), (2, _)]) [1, 2, 0] rfl ?_
      exact ih _ (Option.some.inj hf).symm
set_option maxRecDepth 100000 in
set_option maxHeartbeats 4000000 in
theorem t_M_atom {Γ : W0} {τ : Mem} {B : Nat} {R : RS} {v : Bool} {R' : RS} (hB : RB τ B) (hf : M_atom R = some (v, R')) : CT Γ MD_M_atom yX12_atom [va_rf (some B)] (emb τ B R) (some (.int (b2i v)), (emb τ B R')) := by
  refine CT.of (L := [(0, va_rf (some B))]) rfl (by decide) (fun h => Bool.noConfusion (show false = true from h)) (Nat.le_of_ble_eq_true rfl) rfl ?_
  unfold M_atom at hf
  generalize hr : mkR Γ (emb τ B R) (some (.int (b2i v))) (emb τ B R') = r
  refine r_aload_n 0 dX12_atom_0 rfl rfl ?_
  refine rr_ldI (k := 40) hB dX12_atom_1 fl_RX12_251 rfl ?_
  refine r_bipush (91 : Int32) dX12_atom_4 (by decide) ?_
  refine r_icmp_ne 14 hf dX12_atom_6 (by decide) (fun c1 hf => ?_) (fun c1 hf => ?_)
  · refine r_iconst (-1 : Int32) dX12_atom_14 (by decide) ?_
    refine r_istore_n (L' := [(1, _), (0, _)]) dX12_atom_15 rfl (show 1 < 4 by decide) rfl ?_
    refine r_aload_n 1 dX12_atom_16 rfl rfl ?_
    refine bnd hf (fun v2 ev2 hf => ?_)
    refine r_callVr (ci := 12) rfl dX12_atom_17 cs_RX12_279 ww_1376 ww_58 (by decide) (hB.t0 _) (by decide) rfl (rest := []) rfl (Or.inl (Nat.le_of_ble_eq_true rfl)) (t_M_isField hB ev2) ?_
    refine r_bd (fun (q3 : Int32 × RS) => V Γ MD_M_atom (emb τ B R) r (emb τ B q3.2) 51 [(0, va_rf (some B)), (1, .int q3.1)] []) hf (fun q3 hf => ?_) (fun yq3 hf kq3 => ?_)
    · refine r_aload_n 0 dX12_atom_51 rfl rfl ?_
      refine rr_ldI (k := 40) hB dX12_atom_52 fl_RX12_251 rfl ?_
      refine r_bipush (34 : Int32) dX12_atom_55 (by decide) ?_
      refine r_icmp_ne 66 hf dX12_atom_57 (by decide) (fun c10 hf => ?_) (fun c10 hf => ?_)
      · refine r_aload_n 0 dX12_atom_66 rfl rfl ?_
        refine rr_ldI (k := 40) hB dX12_atom_67 fl_RX12_251 rfl ?_
        refine r_iconst (1 : Int32) dX12_atom_70 (by decide) ?_
        refine r_icmp_eq 79 hf dX12_atom_71 (by decide) (fun c11 hf => ?_) (fun c11 hf => ?_)
        · refine r_aload_n 0 dX12_atom_79 rfl rfl ?_
          refine rr_ldI (k := 43) hB dX12_atom_80 fl_RX12_239 rfl ?_
          refine r_istore_n (L' := [(2, _), (0, _), (1, _)]) dX12_atom_83 rfl (show 2 < 4 by decide) rfl ?_
          refine bnd hf (fun t15 et15 hf => ?_)
          refine r_sub (L' := [(0, _), (1, _), (2, _)]) [1, 2, 0] rfl ?_
          refine x_M_atom_l84 hB ?_ _ et15
          · intro z16 hz16
            subst hz16
            refine r_iload_n 2 dX12_atom_109 rfl rfl ?_
            refine r_aload_n 0 dX12_atom_110 rfl rfl ?_
            refine rr_ldI (k := 44) hB dX12_atom_111 fl_RX12_242 rfl ?_
            refine r_bd (fun (q17 : Bool) => V Γ MD_M_atom (emb τ B R) r (emb τ B q3.2) 133 [(0, va_rf (some B)), (1, .int q3.1)] [.int (b2i q17)]) hf (fun q17 hf => ?_) (fun yq17 hf kq17 => ?_)
            · refine r_istore_n (L' := [(3, _), (0, _), (1, _)]) dX12_atom_133 rfl (show 3 < 4 by decide) rfl ?_
              refine r_aload_n 1 dX12_atom_134 rfl rfl ?_
              refine r_iconst (0 : Int32) dX12_atom_135 (by decide) ?_
              refine r_iload_n 0 dX12_atom_136 rfl rfl ?_
              refine bnd hf (fun v21 ev21 hf => ?_)
              refine r_callVv (ci := 12) rfl dX12_atom_137 cs_RX12_285 ww_1384 ww_60 (by decide) (hB.t0 _) (by decide) rfl (rest := []) rfl (Or.inl (Nat.le_of_ble_eq_true rfl)) (t_M_word hB ev21) ?_
              refine r_aload_n 1 dX12_atom_140 rfl rfl ?_
              refine bnd hf (fun v22 ev22 hf => ?_)
              refine r_callVv (ci := 12) rfl dX12_atom_141 cs_RX12_267 ww_1344 ww_50 (by decide) (hB.t0 _) (by decide) rfl (rest := []) rfl (Or.inl (Nat.le_of_ble_eq_true rfl)) (t_M_read hB ev22) ?_
              refine r_iload_n 0 dX12_atom_144 rfl rfl ?_
              refine r_bd (fun (q23 : RS) => V Γ MD_M_atom (emb τ B R) r (emb τ B q23) 152 [(0, va_rf (some B)), (1, .int q3.1), (3, .int (b2i q17))] []) hf (fun q23 hf => ?_) (fun yq23 hf kq23 => ?_)
              · refine r_aload_n 0 dX12_atom_152 rfl rfl ?_
                refine r_iload_n 2 dX12_atom_153 rfl rfl ?_
                refine r_bd (fun (q26 : Int32) => V Γ MD_M_atom (emb τ B R) r (emb τ B q23) 162 [(0, va_rf (some B)), (1, .int q3.1)] [.int q26, va_rf (some B)]) hf (fun q26 hf => ?_) (fun yq26 hf kq26 => ?_)
                · refine r_iload_n 1 dX12_atom_162 rfl rfl ?_
                  refine r_aload_n 0 dX12_atom_163 rfl rfl ?_
                  refine rr_ldI (k := 51) hB dX12_atom_164 fl_RX12_260 rfl ?_
                  refine r_iconst (1 : Int32) dX12_atom_167 (by decide) ?_
                  refine r_isub dX12_atom_168 ?_
                  refine r_iconst (1 : Int32) dX12_atom_169 (by decide) ?_
                  refine bnd hf (fun v28 ev28 hf => ?_)
                  refine r_callVv (ci := 12) rfl dX12_atom_170 cs_RX12_273 ww_1372 ww_57 (by decide) (hB.t0 _) (by decide) rfl (rest := []) rfl (Or.inl (Nat.le_of_ble_eq_true rfl)) (t_M_emit hB ev28) ?_
                  refine r_iconst (b2i true) dX12_atom_173 rfl ?_
                  exact r_zret rfl dX12_atom_174 (by obtain ⟨h1, h2⟩ := Prod.mk.inj (Option.some.inj hf); subst h1; subst h2; exact hr.symm)
                · refine r_ifeqZ 161 hf dX12_atom_154 (by decide) (fun c27 hf => ?_) (fun c27 hf => ?_)
                  · refine r_iconst (2 : Int32) dX12_atom_157 (by decide) ?_
                    refine r_goto 162 dX12_atom_158 (by decide) ?_
                    refine r_sub (L' := [(0, _), (1, _)]) [0, 1] rfl ?_
                    cases (Option.some.inj hf)
                    exact kq26
                  · refine r_iconst (1 : Int32) dX12_atom_161 (by decide) ?_
                    refine r_sub (L' := [(0, _), (1, _)]) [0, 1] rfl ?_
                    cases (Option.some.inj hf)
                    exact kq26
              · refine r_ifeqZ 152 hf dX12_atom_145 (by decide) (fun c24 hf => ?_) (fun c24 hf => ?_)
                · refine r_aload_n 1 dX12_atom_148 rfl rfl ?_
                  refine bnd hf (fun v25 ev25 hf => ?_)
                  refine r_callVv (ci := 12) rfl dX12_atom_149 cs_RX12_267 ww_1344 ww_50 (by decide) (hB.t0 _) (by decide) rfl (rest := []) rfl (Or.inl (Nat.le_of_ble_eq_true rfl)) (t_M_read hB ev25) ?_
                  refine r_sub (L' := [(0, _), (1, _), (3, _)]) [1, 2, 0] rfl ?_
                  cases (Option.some.inj hf)
                  exact kq23
                · refine r_sub (L' := [(0, _), (1, _), (3, _)]) [1, 2, 0] rfl ?_
                  cases (Option.some.inj hf)
                  exact kq23
            · refine r_icmp_ge 132 hf dX12_atom_114 (by decide) (fun c18 hf => ?_) (fun c18 hf => ?_)
              · refine r_iconst (b2i false) dX12_atom_132 rfl ?_
                refine r_sub (L' := [(0, _), (1, _)]) [0, 1] rfl ?_
                cases (Option.some.inj hf)
                exact kq17
              · refine r_aload_n 0 dX12_atom_117 rfl rfl ?_
                refine rr_ldR (c := 1) hB dX12_atom_118 fl_RX12_7 rfl rfl (by decide) ?_
                refine r_iload_n 2 dX12_atom_121 rfl rfl ?_
                refine rr_raI hf hB dX12_atom_122 (by decide) rfl (fun v19 ev19 hf => ?_)
                refine r_bipush (42 : Int32) dX12_atom_123 (by decide) ?_
                refine r_icmp_ne 132 hf dX12_atom_125 (by decide) (fun c20 hf => ?_) (fun c20 hf => ?_)
                · refine r_iconst (b2i false) dX12_atom_132 rfl ?_
                  refine r_sub (L' := [(0, _), (1, _)]) [0, 1] rfl ?_
                  cases (Option.some.inj hf)
                  exact kq17
                · refine r_iconst (b2i true) dX12_atom_128 rfl ?_
                  refine r_goto 133 dX12_atom_129 (by decide) ?_
                  refine r_sub (L' := [(0, _), (1, _)]) [0, 1] rfl ?_
                  cases (Option.some.inj hf)
                  exact kq17
        · refine r_aload_n 0 dX12_atom_74 rfl rfl ?_
          refine bnd hf (fun v29 ev29 hf => ?_)
          refine r_callVr (ci := 12) rfl dX12_atom_75 cs_RX12_263 ww_1356 ww_53 (by decide) (hB.t0 _) (by decide) rfl (rest := []) rfl (Or.inl (Nat.le_of_ble_eq_true rfl)) (t_M_fails hB ev29) ?_
          exact r_zret rfl dX12_atom_78 (by obtain ⟨h1, h2⟩ := Prod.mk.inj (Option.some.inj hf); subst h1; subst h2; exact hr.symm)
      · refine r_aload_n 0 dX12_atom_60 rfl rfl ?_
        refine r_iload_n 1 dX12_atom_61 rfl rfl ?_
        refine bnd hf (fun v30 ev30 hf => ?_)
        refine r_callVr (ci := 12) rfl dX12_atom_62 cs_RX12_282 ww_1380 ww_59 (by decide) (hB.t0 _) (by decide) rfl (rest := []) rfl (Or.inl (Nat.le_of_ble_eq_true rfl)) (t_M_phrase hB ev30) ?_
        exact r_zret rfl dX12_atom_65 (by obtain ⟨h1, h2⟩ := Prod.mk.inj (Option.some.inj hf); subst h1; subst h2; exact hr.symm)
    · refine r_ifeqZ 51 hf dX12_atom_20 (by decide) (fun c4 hf => ?_) (fun c4 hf => ?_)
      · refine r_aload_n 1 dX12_atom_23 rfl rfl ?_
        refine rr_ldR (c := 1) hB dX12_atom_24 fl_RX12_7 rfl rfl (by decide) ?_
        refine r_aload_n 1 dX12_atom_27 rfl rfl ?_
        refine rr_ldI (k := 41) hB dX12_atom_28 fl_RX12_245 rfl ?_
        refine rr_raI hf hB dX12_atom_31 (by decide) rfl (fun v5 ev5 hf => ?_)
        refine r_bipush (116 : Int32) dX12_atom_32 (by decide) ?_
        refine r_bd (fun (q6 : Int32) => V Γ MD_M_atom (emb τ B R) r (emb τ B R) 42 [(0, va_rf (some B))] [.int q6]) hf (fun q6 hf => ?_) (fun yq6 hf kq6 => ?_)
        · refine r_istore_n (L' := [(1, _), (0, _)]) dX12_atom_42 rfl (show 1 < 4 by decide) rfl ?_
          refine r_aload_n 1 dX12_atom_43 rfl rfl ?_
          refine bnd hf (fun v8 ev8 hf => ?_)
          refine r_callVv (ci := 12) rfl dX12_atom_44 cs_RX12_267 ww_1344 ww_50 (by decide) (hB.t0 _) (by decide) rfl (rest := []) rfl (Or.inl (Nat.le_of_ble_eq_true rfl)) (t_M_read hB ev8) ?_
          refine r_aload_n 1 dX12_atom_47 rfl rfl ?_
          refine bnd hf (fun v9 ev9 hf => ?_)
          refine r_callVv (ci := 12) rfl dX12_atom_48 cs_RX12_267 ww_1344 ww_50 (by decide) (hB.t0 _) (by decide) rfl (rest := []) rfl (Or.inl (Nat.le_of_ble_eq_true rfl)) (t_M_read hB ev9) ?_
          refine r_sub (L' := [(0, _), (1, _)]) [1, 0] rfl ?_
          cases (Option.some.inj hf)
          exact kq3
        · refine r_icmp_ne 41 hf dX12_atom_34 (by decide) (fun c7 hf => ?_) (fun c7 hf => ?_)
          · refine r_iconst (1 : Int32) dX12_atom_41 (by decide) ?_
            refine r_sub (L' := [(0, _)]) [1] rfl ?_
            cases (Option.some.inj hf)
            exact kq6
          · refine r_iconst (0 : Int32) dX12_atom_37 (by decide) ?_
            refine r_goto 42 dX12_atom_38 (by decide) ?_
            refine r_sub (L' := [(0, _)]) [1] rfl ?_
            cases (Option.some.inj hf)
            exact kq6
      · refine r_sub (L' := [(0, _), (1, _)]) [1, 0] rfl ?_
        cases (Option.some.inj hf)
        exact kq3
  · refine r_aload_n 0 dX12_atom_9 rfl rfl ?_
    refine bnd hf (fun v31 ev31 hf => ?_)
    refine r_callVr (ci := 12) rfl dX12_atom_10 cs_RX12_276 ww_1364 ww_55 (by decide) (hB.t0 _) (by decide) rfl (rest := []) rfl (Or.inl (Nat.le_of_ble_eq_true rfl)) (t_M_range hB ev31) ?_
    exact r_zret rfl dX12_atom_13 (by obtain ⟨h1, h2⟩ := Prod.mk.inj (Option.some.inj hf); subst h1; subst h2; exact hr.symm)
/-! SearchEngineModel.endPart -/
noncomputable def M_endPart (R : RS) (x1 : Bool) : Option RS :=
  Option.bind (
    if x1 = true then
      (M_emit R (5 : Int32) (0 : Int32) (0 : Int32) (0 : Int32)).bind fun v3 =>
      some v3
    else
      some R) fun q1 =>
  jn (
    if ¬ (q1.1 0 40) = (94 : Int32) then
      some (Sum.inr q1)
    else
      (M_read q1).bind fun v6 =>
      (M_digit v6 (1 : Int32)).bind fun v7 =>
      if (v7.2.1 0 45) = (-1 : Int32) then
        (M_emit v7.2 (6 : Int32) (0 : Int32) v7.1 (0 : Int32)).bind fun v9 =>
        some (Sum.inr v9)
      else
        some (Sum.inl v7.2)) fun q4 =>
  (rdI q4 36 10 (q4.1 0 58)).bind fun v10 =>
  (wrI q4 36 10 (q4.1 0 58) (v10 + (1 : Int32))).bind fun R11 =>
  some R11
set_option maxRecDepth 100000 in
set_option maxHeartbeats 4000000 in
theorem t_M_endPart {Γ : W0} {τ : Mem} {B : Nat} {R : RS} {x1 : Bool} {R' : RS} (hB : RB τ B) (hf : M_endPart R x1 = some R') : CT Γ MD_M_endPart yX12_endPart [va_rf (some B), .int (b2i x1)] (emb τ B R) (none, (emb τ B R')) := by
  refine CT.of (L := [(0, va_rf (some B)), (1, .int (b2i x1))]) rfl (by decide) (fun h => Bool.noConfusion (show false = true from h)) (Nat.le_of_ble_eq_true rfl) rfl ?_
  unfold M_endPart at hf
  generalize hr : mkR Γ (emb τ B R) (none) (emb τ B R') = r
  refine r_iload_n 1 dX12_endPart_0 rfl rfl ?_
  refine r_bd (fun (q1 : RS) => V Γ MD_M_endPart (emb τ B R) r (emb τ B q1) 12 [(0, va_rf (some B))] []) hf (fun q1 hf => ?_) (fun yq1 hf kq1 => ?_)
  · refine r_aload_n 0 dX12_endPart_12 rfl rfl ?_
    refine rr_ldI (k := 40) hB dX12_endPart_13 fl_RX12_251 rfl ?_
    refine r_bipush (94 : Int32) dX12_endPart_16 (by decide) ?_
    refine r_jn (fun (q4 : RS) => V Γ MD_M_endPart (emb τ B R) r (emb τ B q4) 49 [(0, va_rf (some B))] []) hf (fun q4 hf => ?_) (fun yq4 hf oq4 kq4 => ?_)
    · refine r_aload_n 0 dX12_endPart_49 rfl rfl ?_
      refine rr_ldR (c := 36) hB dX12_endPart_50 fl_RX12_127 rfl rfl (by decide) ?_
      refine r_aload_n 0 dX12_endPart_53 rfl rfl ?_
      refine rr_ldI (k := 58) hB dX12_endPart_54 fl_RX12_292 rfl ?_
      refine r_dup2 dX12_endPart_57 rfl (cat_rf _) ?_
      refine rr_raI hf hB dX12_endPart_58 (by decide) rfl (fun v10 ev10 hf => ?_)
      refine r_iconst (1 : Int32) dX12_endPart_59 (by decide) ?_
      refine r_iadd dX12_endPart_60 ?_
      refine rr_waI hf hB dX12_endPart_61 (by decide) rfl (fun R11 eR11 hf => ?_)
      exact r_vret rfl dX12_endPart_62 (by have h1 := (Option.some.inj hf); subst h1; exact hr.symm)
    · refine r_icmp_ne 49 hf dX12_endPart_18 (by decide) (fun c5 hf => ?_) (fun c5 hf => ?_)
      · refine r_sub (L' := [(0, _)]) [0] rfl ?_
        exact kq4 _ (Option.some.inj hf).symm
      · refine r_aload_n 0 dX12_endPart_21 rfl rfl ?_
        refine bnd hf (fun v6 ev6 hf => ?_)
        refine r_callVv (ci := 12) rfl dX12_endPart_22 cs_RX12_267 ww_1344 ww_50 (by decide) (hB.t0 _) (by decide) rfl (rest := []) rfl (Or.inl (Nat.le_of_ble_eq_true rfl)) (t_M_read hB ev6) ?_
        refine r_aload_n 0 dX12_endPart_25 rfl rfl ?_
        refine r_iconst (1 : Int32) dX12_endPart_26 (by decide) ?_
        refine bnd hf (fun v7 ev7 hf => ?_)
        refine r_callVr (ci := 12) rfl dX12_endPart_27 cs_RX12_289 ww_1388 ww_61 (by decide) (hB.t0 _) (by decide) rfl (rest := []) rfl (Or.inl (Nat.le_of_ble_eq_true rfl)) (t_M_digit hB ev7) ?_
        refine r_istore_n (L' := [(2, _), (0, _)]) dX12_endPart_30 rfl (show 2 < 3 by decide) rfl ?_
        refine r_aload_n 1 dX12_endPart_31 rfl rfl ?_
        refine rr_ldI (k := 45) hB dX12_endPart_32 fl_RX12_254 rfl ?_
        refine r_iconst (-1 : Int32) dX12_endPart_35 (by decide) ?_
        refine r_icmp_eq 40 hf dX12_endPart_36 (by decide) (fun c8 hf => ?_) (fun c8 hf => ?_)
        · refine r_aload_n 1 dX12_endPart_40 rfl rfl ?_
          refine r_bipush (6 : Int32) dX12_endPart_41 (by decide) ?_
          refine r_iconst (0 : Int32) dX12_endPart_43 (by decide) ?_
          refine r_iload_n 0 dX12_endPart_44 rfl rfl ?_
          refine r_iconst (0 : Int32) dX12_endPart_45 (by decide) ?_
          refine bnd hf (fun v9 ev9 hf => ?_)
          refine r_callVv (ci := 12) rfl dX12_endPart_46 cs_RX12_273 ww_1372 ww_57 (by decide) (hB.t0 _) (by decide) rfl (rest := []) rfl (Or.inl (Nat.le_of_ble_eq_true rfl)) (t_M_emit hB ev9) ?_
          refine r_sub (L' := [(0, _)]) [1] rfl ?_
          exact kq4 _ (Option.some.inj hf).symm
        · exact r_vret rfl dX12_endPart_39 (by have h1 := (oq4 _ (Option.some.inj hf).symm); subst h1; exact hr.symm)
  · refine r_ifeqZ 12 hf dX12_endPart_1 (by decide) (fun c2 hf => ?_) (fun c2 hf => ?_)
    · refine r_aload_n 0 dX12_endPart_4 rfl rfl ?_
      refine r_iconst (5 : Int32) dX12_endPart_5 (by decide) ?_
      refine r_iconst (0 : Int32) dX12_endPart_6 (by decide) ?_
      refine r_iconst (0 : Int32) dX12_endPart_7 (by decide) ?_
      refine r_iconst (0 : Int32) dX12_endPart_8 (by decide) ?_
      refine bnd hf (fun v3 ev3 hf => ?_)
      refine r_callVv (ci := 12) rfl dX12_endPart_9 cs_RX12_273 ww_1372 ww_57 (by decide) (hB.t0 _) (by decide) rfl (rest := []) rfl (Or.inl (Nat.le_of_ble_eq_true rfl)) (t_M_emit hB ev3) ?_
      refine r_sub (L' := [(0, _)]) [0] rfl ?_
      cases (Option.some.inj hf)
      exact kq1
    · refine r_sub (L' := [(0, _)]) [0] rfl ?_
      cases (Option.some.inj hf)
      exact kq1
/-! SearchEngineModel.endAll -/
noncomputable def M_endAll (R : RS) : Option RS :=
  (rdI R 36 10 (R.1 0 58)).bind fun v1 =>
  (M_emit R (7 : Int32) (0 : Int32) v1 (0 : Int32)).bind fun v2 =>
  (wrI v2 36 10 (v2.1 0 58) (0 : Int32)).bind fun R3 =>
  (rdI R3 37 10 (R3.1 0 58)).bind fun v4 =>
  (wrI R3 37 10 (R3.1 0 58) (v4 + (1 : Int32))).bind fun R5 =>
  some R5
set_option maxRecDepth 100000 in
set_option maxHeartbeats 4000000 in
theorem t_M_endAll {Γ : W0} {τ : Mem} {B : Nat} {R : RS} {R' : RS} (hB : RB τ B) (hf : M_endAll R = some R') : CT Γ MD_M_endAll yX12_endAll [va_rf (some B)] (emb τ B R) (none, (emb τ B R')) := by
  refine CT.of (L := [(0, va_rf (some B))]) rfl (by decide) (fun h => Bool.noConfusion (show false = true from h)) (Nat.le_of_ble_eq_true rfl) rfl ?_
  unfold M_endAll at hf
  generalize hr : mkR Γ (emb τ B R) (none) (emb τ B R') = r
  refine r_aload_n 0 dX12_endAll_0 rfl rfl ?_
  refine r_bipush (7 : Int32) dX12_endAll_1 (by decide) ?_
  refine r_iconst (0 : Int32) dX12_endAll_3 (by decide) ?_
  refine r_aload_n 0 dX12_endAll_4 rfl rfl ?_
  refine rr_ldR (c := 36) hB dX12_endAll_5 fl_RX12_127 rfl rfl (by decide) ?_
  refine r_aload_n 0 dX12_endAll_8 rfl rfl ?_
  refine rr_ldI (k := 58) hB dX12_endAll_9 fl_RX12_292 rfl ?_
  refine rr_raI hf hB dX12_endAll_12 (by decide) rfl (fun v1 ev1 hf => ?_)
  refine r_iconst (0 : Int32) dX12_endAll_13 (by decide) ?_
  refine bnd hf (fun v2 ev2 hf => ?_)
  refine r_callVv (ci := 12) rfl dX12_endAll_14 cs_RX12_273 ww_1372 ww_57 (by decide) (hB.t0 _) (by decide) rfl (rest := []) rfl (Or.inl (Nat.le_of_ble_eq_true rfl)) (t_M_emit hB ev2) ?_
  refine r_aload_n 0 dX12_endAll_17 rfl rfl ?_
  refine rr_ldR (c := 36) hB dX12_endAll_18 fl_RX12_127 rfl rfl (by decide) ?_
  refine r_aload_n 0 dX12_endAll_21 rfl rfl ?_
  refine rr_ldI (k := 58) hB dX12_endAll_22 fl_RX12_292 rfl ?_
  refine r_iconst (0 : Int32) dX12_endAll_25 (by decide) ?_
  refine rr_waI hf hB dX12_endAll_26 (by decide) rfl (fun R3 eR3 hf => ?_)
  refine r_aload_n 0 dX12_endAll_27 rfl rfl ?_
  refine rr_ldR (c := 37) hB dX12_endAll_28 fl_RX12_130 rfl rfl (by decide) ?_
  refine r_aload_n 0 dX12_endAll_31 rfl rfl ?_
  refine rr_ldI (k := 58) hB dX12_endAll_32 fl_RX12_292 rfl ?_
  refine r_dup2 dX12_endAll_35 rfl (cat_rf _) ?_
  refine rr_raI hf hB dX12_endAll_36 (by decide) rfl (fun v4 ev4 hf => ?_)
  refine r_iconst (1 : Int32) dX12_endAll_37 (by decide) ?_
  refine r_iadd dX12_endAll_38 ?_
  refine rr_waI hf hB dX12_endAll_39 (by decide) rfl (fun R5 eR5 hf => ?_)
  exact r_vret rfl dX12_endAll_40 (by have h1 := (Option.some.inj hf); subst h1; exact hr.symm)
/-! SearchEngineModel.beginsPart -/
noncomputable def M_beginsPart (R : RS) : Option Bool :=
  if (R.1 0 40) = (1 : Int32) then
    some true
  else
    if (R.1 0 40) = (40 : Int32) then
      some true
    else
      if (R.1 0 40) = (45 : Int32) then
        some true
      else
        if (R.1 0 40) = (34 : Int32) then
          some true
        else
          if ¬ (R.1 0 40) = (91 : Int32) then
            some false
          else
            some true
set_option maxRecDepth 100000 in
set_option maxHeartbeats 4000000 in
theorem t_M_beginsPart {Γ : W0} {τ : Mem} {B : Nat} {R : RS} {v : Bool} (hB : RB τ B) (hf : M_beginsPart R = some v) : CT Γ MD_M_beginsPart yX12_beginsPart [va_rf (some B)] (emb τ B R) (some (.int (b2i v)), (emb τ B R)) := by
  refine CT.of (L := [(0, va_rf (some B))]) rfl (by decide) (fun h => Bool.noConfusion (show false = true from h)) (Nat.le_of_ble_eq_true rfl) rfl ?_
  unfold M_beginsPart at hf
  generalize hr : mkR Γ (emb τ B R) (some (.int (b2i v))) (emb τ B R) = r
  refine r_aload_n 0 dX12_beginsPart_0 rfl rfl ?_
  refine rr_ldI (k := 40) hB dX12_beginsPart_1 fl_RX12_251 rfl ?_
  refine r_iconst (1 : Int32) dX12_beginsPart_4 (by decide) ?_
  refine r_icmp_eq 44 hf dX12_beginsPart_5 (by decide) (fun c1 hf => ?_) (fun c1 hf => ?_)
  · refine r_iconst (b2i true) dX12_beginsPart_44 rfl ?_
    refine r_goto 49 dX12_beginsPart_45 (by decide) ?_
    exact r_zret rfl dX12_beginsPart_49 (by have h1 := (Option.some.inj hf); subst h1; exact hr.symm)
  · refine r_aload_n 0 dX12_beginsPart_8 rfl rfl ?_
    refine rr_ldI (k := 40) hB dX12_beginsPart_9 fl_RX12_251 rfl ?_
    refine r_bipush (40 : Int32) dX12_beginsPart_12 (by decide) ?_
    refine r_icmp_eq 44 hf dX12_beginsPart_14 (by decide) (fun c2 hf => ?_) (fun c2 hf => ?_)
    · refine r_iconst (b2i true) dX12_beginsPart_44 rfl ?_
      refine r_goto 49 dX12_beginsPart_45 (by decide) ?_
      exact r_zret rfl dX12_beginsPart_49 (by have h1 := (Option.some.inj hf); subst h1; exact hr.symm)
    · refine r_aload_n 0 dX12_beginsPart_17 rfl rfl ?_
      refine rr_ldI (k := 40) hB dX12_beginsPart_18 fl_RX12_251 rfl ?_
      refine r_bipush (45 : Int32) dX12_beginsPart_21 (by decide) ?_
      refine r_icmp_eq 44 hf dX12_beginsPart_23 (by decide) (fun c3 hf => ?_) (fun c3 hf => ?_)
      · refine r_iconst (b2i true) dX12_beginsPart_44 rfl ?_
        refine r_goto 49 dX12_beginsPart_45 (by decide) ?_
        exact r_zret rfl dX12_beginsPart_49 (by have h1 := (Option.some.inj hf); subst h1; exact hr.symm)
      · refine r_aload_n 0 dX12_beginsPart_26 rfl rfl ?_
        refine rr_ldI (k := 40) hB dX12_beginsPart_27 fl_RX12_251 rfl ?_
        refine r_bipush (34 : Int32) dX12_beginsPart_30 (by decide) ?_
        refine r_icmp_eq 44 hf dX12_beginsPart_32 (by decide) (fun c4 hf => ?_) (fun c4 hf => ?_)
        · refine r_iconst (b2i true) dX12_beginsPart_44 rfl ?_
          refine r_goto 49 dX12_beginsPart_45 (by decide) ?_
          exact r_zret rfl dX12_beginsPart_49 (by have h1 := (Option.some.inj hf); subst h1; exact hr.symm)
        · refine r_aload_n 0 dX12_beginsPart_35 rfl rfl ?_
          refine rr_ldI (k := 40) hB dX12_beginsPart_36 fl_RX12_251 rfl ?_
          refine r_bipush (91 : Int32) dX12_beginsPart_39 (by decide) ?_
          refine r_icmp_ne 48 hf dX12_beginsPart_41 (by decide) (fun c5 hf => ?_) (fun c5 hf => ?_)
          · refine r_iconst (b2i false) dX12_beginsPart_48 rfl ?_
            exact r_zret rfl dX12_beginsPart_49 (by have h1 := (Option.some.inj hf); subst h1; exact hr.symm)
          · refine r_iconst (b2i true) dX12_beginsPart_44 rfl ?_
            refine r_goto 49 dX12_beginsPart_45 (by decide) ?_
            exact r_zret rfl dX12_beginsPart_49 (by have h1 := (Option.some.inj hf); subst h1; exact hr.symm)
/-! SearchEngineModel.isWithinMinus -/
noncomputable def M_isWithinMinus_l4 (R : RS) (x1 : Bool) (x2 : Int32) : Option ((Bool × Int32) ⊕ Bool) :=
  if (R.1 0 58) ≤ x2 then
    some (Sum.inr x1)
  else
    Option.bind (
      if x1 = true then
        some true
      else
        (rdB R 38 10 x2).bind fun v4 =>
        if v4 = true then
          some true
        else
          some false) fun q2 =>
    some (Sum.inl (q2, (x2 + (1 : Int32))))
noncomputable def M_isWithinMinus (R : RS) : Option Bool :=
  (lp (fun q => M_isWithinMinus_l4 R q.1 q.2) (false, (0 : Int32))).bind fun z7 =>
  some z7
set_option maxRecDepth 100000 in
set_option maxHeartbeats 4000000 in
theorem x_M_isWithinMinus_l4 {Γ : W0} {σ0 : Mem} {r : RT} {τ : Mem} {B : Nat} {R : RS} {t : Bool} (hB : RB τ B) (hk0 : ∀ z : Bool, z = t → V Γ MD_M_isWithinMinus σ0 r (emb τ B R) 37 [(1, .int (b2i z))] []) : ∀ q : Bool × Int32, lp (fun q => M_isWithinMinus_l4 R q.1 q.2) q = some t → V Γ MD_M_isWithinMinus σ0 r (emb τ B R) 4 [(0, va_rf (some B)), (1, .int (b2i q.1)), (2, .int q.2)] [] := by
  refine lp_ind (fun (q : Bool × Int32) => V Γ MD_M_isWithinMinus σ0 r (emb τ B R) 4 [(0, va_rf (some B)), (1, .int (b2i q.1)), (2, .int q.2)] []) (fun q x hf ih ho => ?_)
  obtain ⟨x1, x2⟩ := q
  show V Γ MD_M_isWithinMinus σ0 r (emb τ B R) 4 [(0, va_rf (some B)), (1, .int (b2i x1)), (2, .int x2)] []
  replace hf : M_isWithinMinus_l4 R x1 x2 = some x := hf
  unfold M_isWithinMinus_l4 at hf
  refine r_iload_n 2 dX12_isWithinMinus_4 rfl rfl ?_
  refine r_aload_n 0 dX12_isWithinMinus_5 rfl rfl ?_
  refine rr_ldI (k := 58) hB dX12_isWithinMinus_6 fl_RX12_292 rfl ?_
  refine r_icmp_ge 37 hf dX12_isWithinMinus_9 (by decide) (fun c1 hf => ?_) (fun c1 hf => ?_)
  · refine r_sub (L' := [(1, _)]) [1] rfl ?_
    exact hk0 _ (ho _ (Option.some.inj hf).symm)
  · refine r_iload_n 1 dX12_isWithinMinus_12 rfl rfl ?_
    refine r_bd (fun (q2 : Bool) => V Γ MD_M_isWithinMinus σ0 r (emb τ B R) 30 [(0, va_rf (some B)), (2, .int x2)] [.int (b2i q2)]) hf (fun q2 hf => ?_) (fun yq2 hf kq2 => ?_)
    · refine r_istore_n (L' := [(1, _), (0, _), (2, _)]) dX12_isWithinMinus_30 rfl (show 1 < 3 by decide) rfl ?_
      refine r_iinc (1 : Int32) (L' := [(2, _), (1, _), (0, _)]) 2 dX12_isWithinMinus_31 rfl (by decide) (show 2 < 3 by decide) rfl ?_
      refine r_goto 4 dX12_isWithinMinus_34 (by decide) ?_
      refine r_sub (L' := [(0, _), (1, _), (2, _)]) [2, 1, 0] rfl ?_
      exact ih _ (Option.some.inj hf).symm
    · refine r_ifneZ 25 hf dX12_isWithinMinus_13 (by decide) (fun c3 hf => ?_) (fun c3 hf => ?_)
      · refine r_iconst (b2i true) dX12_isWithinMinus_25 rfl ?_
        refine r_goto 30 dX12_isWithinMinus_26 (by decide) ?_
        refine r_sub (L' := [(0, _), (2, _)]) [0, 2] rfl ?_
        cases (Option.some.inj hf)
        exact kq2
      · refine r_aload_n 0 dX12_isWithinMinus_16 rfl rfl ?_
        refine rr_ldR (c := 38) hB dX12_isWithinMinus_17 fl_RX12_133 rfl rfl (by decide) ?_
        refine r_iload_n 2 dX12_isWithinMinus_20 rfl rfl ?_
        refine rr_raB hf hB dX12_isWithinMinus_21 (by decide) rfl (fun v4 ev4 hf => ?_)
        refine r_ifeqZ 29 hf dX12_isWithinMinus_22 (by decide) (fun c5 hf => ?_) (fun c5 hf => ?_)
        · refine r_iconst (b2i true) dX12_isWithinMinus_25 rfl ?_
          refine r_goto 30 dX12_isWithinMinus_26 (by decide) ?_
          refine r_sub (L' := [(0, _), (2, _)]) [0, 2] rfl ?_
          cases (Option.some.inj hf)
          exact kq2
        · refine r_iconst (b2i false) dX12_isWithinMinus_29 rfl ?_
          refine r_sub (L' := [(0, _), (2, _)]) [0, 2] rfl ?_
          cases (Option.some.inj hf)
          exact kq2
set_option maxRecDepth 100000 in
set_option maxHeartbeats 4000000 in
theorem t_M_isWithinMinus {Γ : W0} {τ : Mem} {B : Nat} {R : RS} {v : Bool} (hB : RB τ B) (hf : M_isWithinMinus R = some v) : CT Γ MD_M_isWithinMinus yX12_isWithinMinus [va_rf (some B)] (emb τ B R) (some (.int (b2i v)), (emb τ B R)) := by
  refine CT.of (L := [(0, va_rf (some B))]) rfl (by decide) (fun h => Bool.noConfusion (show false = true from h)) (Nat.le_of_ble_eq_true rfl) rfl ?_
  unfold M_isWithinMinus at hf
  generalize hr : mkR Γ (emb τ B R) (some (.int (b2i v))) (emb τ B R) = r
  refine r_iconst (b2i false) dX12_isWithinMinus_0 rfl ?_
  refine r_istore_n (L' := [(1, _), (0, _)]) dX12_isWithinMinus_1 rfl (show 1 < 3 by decide) rfl ?_
  refine r_iconst (0 : Int32) dX12_isWithinMinus_2 (by decide) ?_
  refine r_istore_n (L' := [(2, _), (1, _), (0, _)]) dX12_isWithinMinus_3 rfl (show 2 < 3 by decide) rfl ?_
  refine bnd hf (fun t6 et6 hf => ?_)
  refine r_sub (L' := [(0, _), (1, _), (2, _)]) [2, 1, 0] rfl ?_
  refine x_M_isWithinMinus_l4 hB ?_ _ et6
  · intro z7 hz7
    subst hz7
    refine r_iload_n 0 dX12_isWithinMinus_37 rfl rfl ?_
    exact r_zret rfl dX12_isWithinMinus_38 (by have h1 := (Option.some.inj hf); subst h1; exact hr.symm)
/-! SearchEngineModel.mark -/
noncomputable def M_mark_l37 (R : RS) (x1 : Int32) (x2 : Int32) (x3 : Int32) : Option ((Int32 × RS) ⊕ RS) :=
  if x2 ≤ x3 then
    some (Sum.inr R)
  else
    (rdI R 31 400 x1).bind fun v8 =>
    (rdI R 33 400 (v8 + x3)).bind fun v9 =>
    Option.bind (
      if ¬ v9 = 0 then
        (rdI R 29 400 x1).bind fun v12 =>
        Option.bind (
          if ¬ v12 = (2 : Int32) then
            some (1 : Int32)
          else
            some (2 : Int32)) fun q13 =>
        (wrI R 39 400 (R.1 0 30) q13).bind fun R15 =>
        (rdI R15 30 400 x1).bind fun v16 =>
        (wrI R15 40 400 (R15.1 0 30) v16).bind fun R17 =>
        (rdI R17 31 400 x1).bind fun v18 =>
        (wrI R17 41 400 (R17.1 0 30) (v18 + x3)).bind fun R19 =>
        (some (pI R19 30 ((R19.1 0 30) + (1 : Int32)))).bind fun R20 =>
        some R20
      else
        some R) fun q10 =>
    some (Sum.inl ((x3 + (1 : Int32)), q10))
noncomputable def M_mark (R : RS) (x1 : Int32) : Option RS :=
  (rdI R 29 400 x1).bind fun v1 =>
  if ¬ v1 = (4 : Int32) then
    (rdI R 29 400 x1).bind fun v3 =>
    Option.bind (
      if ¬ v3 = (3 : Int32) then
        some (1 : Int32)
      else
        (rdI R 32 400 x1).bind fun v6 =>
        some (remI v6 (16 : Int32))) fun q4 =>
    (lp (fun q => M_mark_l37 q.2 x1 q4 q.1) ((0 : Int32), R)).bind fun z22 =>
    some z22
  else
    some R
set_option maxRecDepth 100000 in
set_option maxHeartbeats 4000000 in
theorem x_M_mark_l37 {Γ : W0} {σ0 : Mem} {r : RT} {τ : Mem} {B : Nat} {x1 : Int32} {x2 : Int32} {t : RS} (hB : RB τ B) (hk0 : ∀ z : RS, z = t → V Γ MD_M_mark σ0 r (emb τ B z) 133 [] []) : ∀ q : Int32 × RS, lp (fun q => M_mark_l37 q.2 x1 x2 q.1) q = some t → V Γ MD_M_mark σ0 r (emb τ B q.2) 37 [(0, va_rf (some B)), (1, .int x1), (2, .int x2), (3, .int q.1)] [] := by
  refine lp_ind (fun (q : Int32 × RS) => V Γ MD_M_mark σ0 r (emb τ B q.2) 37 [(0, va_rf (some B)), (1, .int x1), (2, .int x2), (3, .int q.1)] []) (fun q x hf ih ho => ?_)
  obtain ⟨x3, R⟩ := q
  show V Γ MD_M_mark σ0 r (emb τ B R) 37 [(0, va_rf (some B)), (1, .int x1), (2, .int x2), (3, .int x3)] []
  replace hf : M_mark_l37 R x1 x2 x3 = some x := hf
  unfold M_mark_l37 at hf
  refine r_iload_n 3 dX12_mark_37 rfl rfl ?_
  refine r_iload_n 2 dX12_mark_38 rfl rfl ?_
  refine r_icmp_ge 133 hf dX12_mark_39 (by decide) (fun c7 hf => ?_) (fun c7 hf => ?_)
  · refine r_sub (L' := []) [] rfl ?_
    exact hk0 _ (ho _ (Option.some.inj hf).symm)
  · refine r_aload_n 0 dX12_mark_42 rfl rfl ?_
    refine rr_ldR (c := 33) hB dX12_mark_43 fl_RX12_118 rfl rfl (by decide) ?_
    refine r_aload_n 0 dX12_mark_46 rfl rfl ?_
    refine rr_ldR (c := 31) hB dX12_mark_47 fl_RX12_112 rfl rfl (by decide) ?_
    refine r_iload_n 1 dX12_mark_50 rfl rfl ?_
    refine rr_raI hf hB dX12_mark_51 (by decide) rfl (fun v8 ev8 hf => ?_)
    refine r_iload_n 3 dX12_mark_52 rfl rfl ?_
    refine r_iadd dX12_mark_53 ?_
    refine rr_raI hf hB dX12_mark_54 (by decide) rfl (fun v9 ev9 hf => ?_)
    refine r_bd (fun (q10 : RS) => V Γ MD_M_mark σ0 r (emb τ B q10) 127 [(0, va_rf (some B)), (1, .int x1), (2, .int x2), (3, .int x3)] []) hf (fun q10 hf => ?_) (fun yq10 hf kq10 => ?_)
    · refine r_iinc (1 : Int32) (L' := [(3, _), (0, _), (1, _), (2, _)]) 3 dX12_mark_127 rfl (by decide) (show 3 < 4 by decide) rfl ?_
      refine r_goto 37 dX12_mark_130 (by decide) ?_
      refine r_sub (L' := [(0, _), (1, _), (2, _), (3, _)]) [1, 2, 3, 0] rfl ?_
      exact ih _ (Option.some.inj hf).symm
    · refine r_if_ne 61 hf dX12_mark_55 (by decide) (fun c11 hf => ?_) (fun c11 hf => ?_)
      · refine r_aload_n 0 dX12_mark_61 rfl rfl ?_
        refine rr_ldR (c := 39) hB dX12_mark_62 fl_RX12_136 rfl rfl (by decide) ?_
        refine r_aload_n 0 dX12_mark_65 rfl rfl ?_
        refine rr_ldI (k := 30) hB dX12_mark_66 fl_RX12_295 rfl ?_
        refine r_aload_n 0 dX12_mark_69 rfl rfl ?_
        refine rr_ldR (c := 29) hB dX12_mark_70 fl_RX12_106 rfl rfl (by decide) ?_
        refine r_iload_n 1 dX12_mark_73 rfl rfl ?_
        refine rr_raI hf hB dX12_mark_74 (by decide) rfl (fun v12 ev12 hf => ?_)
        refine r_iconst (2 : Int32) dX12_mark_75 (by decide) ?_
        refine r_bd (fun (q13 : Int32) => V Γ MD_M_mark σ0 r (emb τ B R) 84 [(0, va_rf (some B)), (1, .int x1), (2, .int x2), (3, .int x3)] [.int q13, .int (R.1 0 30), va_rf (some (B + 39))]) hf (fun q13 hf => ?_) (fun yq13 hf kq13 => ?_)
        · refine rr_waI hf hB dX12_mark_84 (by decide) rfl (fun R15 eR15 hf => ?_)
          refine r_aload_n 0 dX12_mark_85 rfl rfl ?_
          refine rr_ldR (c := 40) hB dX12_mark_86 fl_RX12_139 rfl rfl (by decide) ?_
          refine r_aload_n 0 dX12_mark_89 rfl rfl ?_
          refine rr_ldI (k := 30) hB dX12_mark_90 fl_RX12_295 rfl ?_
          refine r_aload_n 0 dX12_mark_93 rfl rfl ?_
          refine rr_ldR (c := 30) hB dX12_mark_94 fl_RX12_109 rfl rfl (by decide) ?_
          refine r_iload_n 1 dX12_mark_97 rfl rfl ?_
          refine rr_raI hf hB dX12_mark_98 (by decide) rfl (fun v16 ev16 hf => ?_)
          refine rr_waI hf hB dX12_mark_99 (by decide) rfl (fun R17 eR17 hf => ?_)
          refine r_aload_n 0 dX12_mark_100 rfl rfl ?_
          refine rr_ldR (c := 41) hB dX12_mark_101 fl_RX12_142 rfl rfl (by decide) ?_
          refine r_aload_n 0 dX12_mark_104 rfl rfl ?_
          refine rr_ldI (k := 30) hB dX12_mark_105 fl_RX12_295 rfl ?_
          refine r_aload_n 0 dX12_mark_108 rfl rfl ?_
          refine rr_ldR (c := 31) hB dX12_mark_109 fl_RX12_112 rfl rfl (by decide) ?_
          refine r_iload_n 1 dX12_mark_112 rfl rfl ?_
          refine rr_raI hf hB dX12_mark_113 (by decide) rfl (fun v18 ev18 hf => ?_)
          refine r_iload_n 3 dX12_mark_114 rfl rfl ?_
          refine r_iadd dX12_mark_115 ?_
          refine rr_waI hf hB dX12_mark_116 (by decide) rfl (fun R19 eR19 hf => ?_)
          refine r_aload_n 0 dX12_mark_117 rfl rfl ?_
          refine r_dup dX12_mark_118 (cat_rf _) ?_
          refine rr_ldI (k := 30) hB dX12_mark_119 fl_RX12_295 rfl ?_
          refine r_iconst (1 : Int32) dX12_mark_122 (by decide) ?_
          refine r_iadd dX12_mark_123 ?_
          refine rr_stI hf hB dX12_mark_124 fl_RX12_295 rfl rfl rfl (fun R20 eR20 hf => ?_)
          refine r_sub (L' := [(0, _), (1, _), (2, _), (3, _)]) [0, 1, 2, 3] rfl ?_
          cases (Option.some.inj hf)
          exact kq10
        · refine r_icmp_ne 83 hf dX12_mark_76 (by decide) (fun c14 hf => ?_) (fun c14 hf => ?_)
          · refine r_iconst (1 : Int32) dX12_mark_83 (by decide) ?_
            refine r_sub (L' := [(0, _), (1, _), (2, _), (3, _)]) [0, 1, 2, 3] rfl ?_
            cases (Option.some.inj hf)
            exact kq13
          · refine r_iconst (2 : Int32) dX12_mark_79 (by decide) ?_
            refine r_goto 84 dX12_mark_80 (by decide) ?_
            refine r_sub (L' := [(0, _), (1, _), (2, _), (3, _)]) [0, 1, 2, 3] rfl ?_
            cases (Option.some.inj hf)
            exact kq13
      · refine r_goto 127 dX12_mark_58 (by decide) ?_
        refine r_sub (L' := [(0, _), (1, _), (2, _), (3, _)]) [0, 1, 2, 3] rfl ?_
        cases (Option.some.inj hf)
        exact kq10
set_option maxRecDepth 100000 in
set_option maxHeartbeats 4000000 in
theorem t_M_mark {Γ : W0} {τ : Mem} {B : Nat} {R : RS} {x1 : Int32} {R' : RS} (hB : RB τ B) (hf : M_mark R x1 = some R') : CT Γ MD_M_mark yX12_mark [va_rf (some B), .int x1] (emb τ B R) (none, (emb τ B R')) := by
  refine CT.of (L := [(0, va_rf (some B)), (1, .int x1)]) rfl (by decide) (fun h => Bool.noConfusion (show false = true from h)) (Nat.le_of_ble_eq_true rfl) rfl ?_
  unfold M_mark at hf
  generalize hr : mkR Γ (emb τ B R) (none) (emb τ B R') = r
  refine r_aload_n 0 dX12_mark_0 rfl rfl ?_
  refine rr_ldR (c := 29) hB dX12_mark_1 fl_RX12_106 rfl rfl (by decide) ?_
  refine r_iload_n 1 dX12_mark_4 rfl rfl ?_
  refine rr_raI hf hB dX12_mark_5 (by decide) rfl (fun v1 ev1 hf => ?_)
  refine r_iconst (4 : Int32) dX12_mark_6 (by decide) ?_
  refine r_icmp_ne 11 hf dX12_mark_7 (by decide) (fun c2 hf => ?_) (fun c2 hf => ?_)
  · refine r_aload_n 0 dX12_mark_11 rfl rfl ?_
    refine rr_ldR (c := 29) hB dX12_mark_12 fl_RX12_106 rfl rfl (by decide) ?_
    refine r_iload_n 1 dX12_mark_15 rfl rfl ?_
    refine rr_raI hf hB dX12_mark_16 (by decide) rfl (fun v3 ev3 hf => ?_)
    refine r_iconst (3 : Int32) dX12_mark_17 (by decide) ?_
    refine r_bd (fun (q4 : Int32) => V Γ MD_M_mark (emb τ B R) r (emb τ B R) 34 [(0, va_rf (some B)), (1, .int x1)] [.int q4]) hf (fun q4 hf => ?_) (fun yq4 hf kq4 => ?_)
    · refine r_istore_n (L' := [(2, _), (0, _), (1, _)]) dX12_mark_34 rfl (show 2 < 4 by decide) rfl ?_
      refine r_iconst (0 : Int32) dX12_mark_35 (by decide) ?_
      refine r_istore_n (L' := [(3, _), (2, _), (0, _), (1, _)]) dX12_mark_36 rfl (show 3 < 4 by decide) rfl ?_
      refine bnd hf (fun t21 et21 hf => ?_)
      refine r_sub (L' := [(0, _), (1, _), (2, _), (3, _)]) [2, 3, 1, 0] rfl ?_
      refine x_M_mark_l37 hB ?_ _ et21
      · intro z22 hz22
        subst hz22
        exact r_vret rfl dX12_mark_133 (by have h1 := (Option.some.inj hf); subst h1; exact hr.symm)
    · refine r_icmp_ne 33 hf dX12_mark_18 (by decide) (fun c5 hf => ?_) (fun c5 hf => ?_)
      · refine r_iconst (1 : Int32) dX12_mark_33 (by decide) ?_
        refine r_sub (L' := [(0, _), (1, _)]) [0, 1] rfl ?_
        cases (Option.some.inj hf)
        exact kq4
      · refine r_aload_n 0 dX12_mark_21 rfl rfl ?_
        refine rr_ldR (c := 32) hB dX12_mark_22 fl_RX12_115 rfl rfl (by decide) ?_
        refine r_iload_n 1 dX12_mark_25 rfl rfl ?_
        refine rr_raI hf hB dX12_mark_26 (by decide) rfl (fun v6 ev6 hf => ?_)
        refine r_bipush (16 : Int32) dX12_mark_27 (by decide) ?_
        refine r_irem dX12_mark_29 (by decide) ?_
        refine r_goto 34 dX12_mark_30 (by decide) ?_
        refine r_sub (L' := [(0, _), (1, _)]) [0, 1] rfl ?_
        cases (Option.some.inj hf)
        exact kq4
  · exact r_vret rfl dX12_mark_10 (by have h1 := (Option.some.inj hf); subst h1; exact hr.symm)
/-! SearchEngineModel.part -/
noncomputable def M_part (R : RS) : Option (Bool × RS) :=
  (some (pI R 59 ((R.1 0 59) + (1 : Int32)))).bind fun R1 =>
  if (R1.1 0 59) ≤ (40 : Int32) then
    Option.bind (
      if ¬ (R1.1 0 40) = (45 : Int32) then
        some false
      else
        some true) fun q3 =>
    Option.bind (
      if q3 = true then
        (M_read R1).bind fun v7 =>
        some v7
      else
        some R1) fun q5 =>
    if ¬ (q5.1 0 40) = (40 : Int32) then
      (M_atom q5).bind fun v9 =>
      if v9.1 = true then
        Option.bind (
          if q3 = true then
            some v9.2
          else
            (M_isWithinMinus v9.2).bind fun v13 =>
            if v13 = true then
              some v9.2
            else
              (M_mark v9.2 (q5.1 0 50)).bind fun v15 =>
              some v15) fun q11 =>
        (M_endPart q11 q3).bind fun v16 =>
        some (false, v16)
      else
        some (false, v9.2)
    else
      if ¬ (q5.1 0 58) = (8 : Int32) then
        (wrB q5 38 10 (q5.1 0 58) q3).bind fun R18 =>
        (some (pI R18 58 ((R18.1 0 58) + (1 : Int32)))).bind fun R19 =>
        (wrI R19 36 10 (R19.1 0 58) (0 : Int32)).bind fun R20 =>
        (wrI R20 37 10 (R20.1 0 58) (0 : Int32)).bind fun R21 =>
        (M_read R21).bind fun v22 =>
        some (true, v22)
      else
        (M_fails q5).bind fun v23 =>
        some (v23.1, v23.2)
  else
    (M_fails R1).bind fun v24 =>
    some (v24.1, v24.2)
set_option maxRecDepth 100000 in
set_option maxHeartbeats 4000000 in
theorem t_M_part {Γ : W0} {τ : Mem} {B : Nat} {R : RS} {v : Bool} {R' : RS} (hB : RB τ B) (hf : M_part R = some (v, R')) : CT Γ MD_M_part yX12_part [va_rf (some B)] (emb τ B R) (some (.int (b2i v)), (emb τ B R')) := by
  refine CT.of (L := [(0, va_rf (some B))]) rfl (by decide) (fun h => Bool.noConfusion (show false = true from h)) (Nat.le_of_ble_eq_true rfl) rfl ?_
  unfold M_part at hf
  generalize hr : mkR Γ (emb τ B R) (some (.int (b2i v))) (emb τ B R') = r
  refine r_aload_n 0 dX12_part_0 rfl rfl ?_
  refine r_dup dX12_part_1 (cat_rf _) ?_
  refine rr_ldI (k := 59) hB dX12_part_2 fl_RX12_298 rfl ?_
  refine r_iconst (1 : Int32) dX12_part_5 (by decide) ?_
  refine r_iadd dX12_part_6 ?_
  refine rr_stI hf hB dX12_part_7 fl_RX12_298 rfl rfl rfl (fun R1 eR1 hf => ?_)
  refine r_aload_n 0 dX12_part_10 rfl rfl ?_
  refine rr_ldI (k := 59) hB dX12_part_11 fl_RX12_298 rfl ?_
  refine r_bipush (40 : Int32) dX12_part_14 (by decide) ?_
  refine r_icmp_le 24 hf dX12_part_16 (by decide) (fun c2 hf => ?_) (fun c2 hf => ?_)
  · refine r_aload_n 0 dX12_part_24 rfl rfl ?_
    refine rr_ldI (k := 40) hB dX12_part_25 fl_RX12_251 rfl ?_
    refine r_bipush (45 : Int32) dX12_part_28 (by decide) ?_
    refine r_bd (fun (q3 : Bool) => V Γ MD_M_part (emb τ B R) r (emb τ B R1) 38 [(0, va_rf (some B))] [.int (b2i q3)]) hf (fun q3 hf => ?_) (fun yq3 hf kq3 => ?_)
    · refine r_istore_n (L' := [(1, _), (0, _)]) dX12_part_38 rfl (show 1 < 3 by decide) rfl ?_
      refine r_iload_n 0 dX12_part_39 rfl rfl ?_
      refine r_bd (fun (q5 : RS) => V Γ MD_M_part (emb τ B R) r (emb τ B q5) 47 [(0, va_rf (some B)), (1, .int (b2i q3))] []) hf (fun q5 hf => ?_) (fun yq5 hf kq5 => ?_)
      · refine r_aload_n 0 dX12_part_47 rfl rfl ?_
        refine rr_ldI (k := 40) hB dX12_part_48 fl_RX12_251 rfl ?_
        refine r_bipush (40 : Int32) dX12_part_51 (by decide) ?_
        refine r_icmp_ne 116 hf dX12_part_53 (by decide) (fun c8 hf => ?_) (fun c8 hf => ?_)
        · refine r_aload_n 0 dX12_part_116 rfl rfl ?_
          refine rr_ldI (k := 50) hB dX12_part_117 fl_RX12_257 rfl ?_
          refine r_istore_n (L' := [(2, _), (0, _), (1, _)]) dX12_part_120 rfl (show 2 < 3 by decide) rfl ?_
          refine r_aload_n 1 dX12_part_121 rfl rfl ?_
          refine bnd hf (fun v9 ev9 hf => ?_)
          refine r_callVr (ci := 12) rfl dX12_part_122 cs_RX12_314 ww_1360 ww_54 (by decide) (hB.t0 _) (by decide) rfl (rest := []) rfl (Or.inl (Nat.le_of_ble_eq_true rfl)) (t_M_atom hB ev9) ?_
          refine r_ifneZ 130 hf dX12_part_125 (by decide) (fun c10 hf => ?_) (fun c10 hf => ?_)
          · refine r_iload_n 2 dX12_part_130 rfl rfl ?_
            refine r_bd (fun (q11 : RS) => V Γ MD_M_part (emb τ B R) r (emb τ B q11) 146 [(0, va_rf (some B)), (1, .int (b2i q3))] []) hf (fun q11 hf => ?_) (fun yq11 hf kq11 => ?_)
            · refine r_aload_n 0 dX12_part_146 rfl rfl ?_
              refine r_iload_n 1 dX12_part_147 rfl rfl ?_
              refine bnd hf (fun v16 ev16 hf => ?_)
              refine r_callVv (ci := 12) rfl dX12_part_148 cs_RX12_310 ww_1400 ww_64 (by decide) (hB.t0 _) (by decide) rfl (rest := []) rfl (Or.inl (Nat.le_of_ble_eq_true rfl)) (t_M_endPart hB ev16) ?_
              refine r_iconst (b2i false) dX12_part_151 rfl ?_
              exact r_zret rfl dX12_part_152 (by obtain ⟨h1, h2⟩ := Prod.mk.inj (Option.some.inj hf); subst h1; subst h2; exact hr.symm)
            · refine r_ifneZ 146 hf dX12_part_131 (by decide) (fun c12 hf => ?_) (fun c12 hf => ?_)
              · refine r_sub (L' := [(0, _), (1, _)]) [1, 2] rfl ?_
                cases (Option.some.inj hf)
                exact kq11
              · refine r_aload_n 1 dX12_part_134 rfl rfl ?_
                refine bnd hf (fun v13 ev13 hf => ?_)
                refine r_callVr (ci := 12) rfl dX12_part_135 cs_RX12_317 ww_1392 ww_62 (by decide) (hB.t0 _) (by decide) rfl (rest := []) rfl (Or.inl (Nat.le_of_ble_eq_true rfl)) (t_M_isWithinMinus hB ev13) ?_
                refine r_ifneZ 146 hf dX12_part_138 (by decide) (fun c14 hf => ?_) (fun c14 hf => ?_)
                · refine r_sub (L' := [(0, _), (1, _)]) [1, 2] rfl ?_
                  cases (Option.some.inj hf)
                  exact kq11
                · refine r_aload_n 1 dX12_part_141 rfl rfl ?_
                  refine r_iload_n 0 dX12_part_142 rfl rfl ?_
                  refine bnd hf (fun v15 ev15 hf => ?_)
                  refine r_callVv (ci := 12) rfl dX12_part_143 cs_RX12_320 ww_1396 ww_63 (by decide) (hB.t0 _) (by decide) rfl (rest := []) rfl (Or.inl (Nat.le_of_ble_eq_true rfl)) (t_M_mark hB ev15) ?_
                  refine r_sub (L' := [(0, _), (1, _)]) [1, 2] rfl ?_
                  cases (Option.some.inj hf)
                  exact kq11
          · refine r_iconst (b2i false) dX12_part_128 rfl ?_
            exact r_zret rfl dX12_part_129 (by obtain ⟨h1, h2⟩ := Prod.mk.inj (Option.some.inj hf); subst h1; subst h2; exact hr.symm)
        · refine r_aload_n 0 dX12_part_56 rfl rfl ?_
          refine rr_ldI (k := 58) hB dX12_part_57 fl_RX12_292 rfl ?_
          refine r_bipush (8 : Int32) dX12_part_60 (by decide) ?_
          refine r_icmp_ne 70 hf dX12_part_62 (by decide) (fun c17 hf => ?_) (fun c17 hf => ?_)
          · refine r_aload_n 0 dX12_part_70 rfl rfl ?_
            refine rr_ldR (c := 38) hB dX12_part_71 fl_RX12_133 rfl rfl (by decide) ?_
            refine r_aload_n 0 dX12_part_74 rfl rfl ?_
            refine rr_ldI (k := 58) hB dX12_part_75 fl_RX12_292 rfl ?_
            refine r_iload_n 1 dX12_part_78 rfl rfl ?_
            refine rr_waB hf hB dX12_part_79 (by decide) rfl (fun R18 eR18 hf => ?_)
            refine r_aload_n 0 dX12_part_80 rfl rfl ?_
            refine r_dup dX12_part_81 (cat_rf _) ?_
            refine rr_ldI (k := 58) hB dX12_part_82 fl_RX12_292 rfl ?_
            refine r_iconst (1 : Int32) dX12_part_85 (by decide) ?_
            refine r_iadd dX12_part_86 ?_
            refine rr_stI hf hB dX12_part_87 fl_RX12_292 rfl rfl rfl (fun R19 eR19 hf => ?_)
            refine r_aload_n 0 dX12_part_90 rfl rfl ?_
            refine rr_ldR (c := 36) hB dX12_part_91 fl_RX12_127 rfl rfl (by decide) ?_
            refine r_aload_n 0 dX12_part_94 rfl rfl ?_
            refine rr_ldI (k := 58) hB dX12_part_95 fl_RX12_292 rfl ?_
            refine r_iconst (0 : Int32) dX12_part_98 (by decide) ?_
            refine rr_waI hf hB dX12_part_99 (by decide) rfl (fun R20 eR20 hf => ?_)
            refine r_aload_n 0 dX12_part_100 rfl rfl ?_
            refine rr_ldR (c := 37) hB dX12_part_101 fl_RX12_130 rfl rfl (by decide) ?_
            refine r_aload_n 0 dX12_part_104 rfl rfl ?_
            refine rr_ldI (k := 58) hB dX12_part_105 fl_RX12_292 rfl ?_
            refine r_iconst (0 : Int32) dX12_part_108 (by decide) ?_
            refine rr_waI hf hB dX12_part_109 (by decide) rfl (fun R21 eR21 hf => ?_)
            refine r_aload_n 0 dX12_part_110 rfl rfl ?_
            refine bnd hf (fun v22 ev22 hf => ?_)
            refine r_callVv (ci := 12) rfl dX12_part_111 cs_RX12_267 ww_1344 ww_50 (by decide) (hB.t0 _) (by decide) rfl (rest := []) rfl (Or.inl (Nat.le_of_ble_eq_true rfl)) (t_M_read hB ev22) ?_
            refine r_iconst (b2i true) dX12_part_114 rfl ?_
            exact r_zret rfl dX12_part_115 (by obtain ⟨h1, h2⟩ := Prod.mk.inj (Option.some.inj hf); subst h1; subst h2; exact hr.symm)
          · refine r_aload_n 0 dX12_part_65 rfl rfl ?_
            refine bnd hf (fun v23 ev23 hf => ?_)
            refine r_callVr (ci := 12) rfl dX12_part_66 cs_RX12_263 ww_1356 ww_53 (by decide) (hB.t0 _) (by decide) rfl (rest := []) rfl (Or.inl (Nat.le_of_ble_eq_true rfl)) (t_M_fails hB ev23) ?_
            exact r_zret rfl dX12_part_69 (by obtain ⟨h1, h2⟩ := Prod.mk.inj (Option.some.inj hf); subst h1; subst h2; exact hr.symm)
      · refine r_ifeqZ 47 hf dX12_part_40 (by decide) (fun c6 hf => ?_) (fun c6 hf => ?_)
        · refine r_aload_n 1 dX12_part_43 rfl rfl ?_
          refine bnd hf (fun v7 ev7 hf => ?_)
          refine r_callVv (ci := 12) rfl dX12_part_44 cs_RX12_267 ww_1344 ww_50 (by decide) (hB.t0 _) (by decide) rfl (rest := []) rfl (Or.inl (Nat.le_of_ble_eq_true rfl)) (t_M_read hB ev7) ?_
          refine r_sub (L' := [(0, _), (1, _)]) [1, 0] rfl ?_
          cases (Option.some.inj hf)
          exact kq5
        · refine r_sub (L' := [(0, _), (1, _)]) [1, 0] rfl ?_
          cases (Option.some.inj hf)
          exact kq5
    · refine r_icmp_ne 37 hf dX12_part_30 (by decide) (fun c4 hf => ?_) (fun c4 hf => ?_)
      · refine r_iconst (b2i false) dX12_part_37 rfl ?_
        refine r_sub (L' := [(0, _)]) [0] rfl ?_
        cases (Option.some.inj hf)
        exact kq3
      · refine r_iconst (b2i true) dX12_part_33 rfl ?_
        refine r_goto 38 dX12_part_34 (by decide) ?_
        refine r_sub (L' := [(0, _)]) [0] rfl ?_
        cases (Option.some.inj hf)
        exact kq3
  · refine r_aload_n 0 dX12_part_19 rfl rfl ?_
    refine bnd hf (fun v24 ev24 hf => ?_)
    refine r_callVr (ci := 12) rfl dX12_part_20 cs_RX12_263 ww_1356 ww_53 (by decide) (hB.t0 _) (by decide) rfl (rest := []) rfl (Or.inl (Nat.le_of_ble_eq_true rfl)) (t_M_fails hB ev24) ?_
    exact r_zret rfl dX12_part_23 (by obtain ⟨h1, h2⟩ := Prod.mk.inj (Option.some.inj hf); subst h1; subst h2; exact hr.symm)
/-! SearchEngineModel.readQuery -/
noncomputable def M_readQuery_l47 (R : RS) (x1 : Bool) (x2 : Int32) : Option ((Bool × Int32 × RS) ⊕ RS) :=
  if ¬ (R.1 0 45) = (-1 : Int32) then
    some (Sum.inr R)
  else
    if ¬ x2 = 0 then
      some (Sum.inr R)
    else
      (M_beginsPart R).bind fun v11 =>
      if v11 = true then
        (M_part R).bind fun v13 =>
        some (Sum.inl (v13.1, x2, v13.2))
      else
        jn (
          if ¬ (R.1 0 40) = (124 : Int32) then
            some (Sum.inr ())
          else
            if x1 = true then
              some (Sum.inr ())
            else
              (M_endAll R).bind fun v17 =>
              (M_read v17).bind fun v18 =>
              some (Sum.inl (Sum.inl (true, x2, v18)))) fun q14 =>
        jn (
          if ¬ (R.1 0 40) = (41 : Int32) then
            some (Sum.inr ())
          else
            if x1 = true then
              some (Sum.inr ())
            else
              if (R.1 0 58) ≤ 0 then
                some (Sum.inr ())
              else
                (M_endAll R).bind fun v23 =>
                (rdI v23 37 10 (v23.1 0 58)).bind fun v24 =>
                (M_emit v23 (8 : Int32) (0 : Int32) v24 (0 : Int32)).bind fun v25 =>
                (some (pI v25 58 ((v25.1 0 58) - (1 : Int32)))).bind fun R26 =>
                (M_read R26).bind fun v27 =>
                (rdB v27 38 10 (v27.1 0 58)).bind fun v28 =>
                (M_endPart v27 v28).bind fun v29 =>
                some (Sum.inl (Sum.inl (x1, x2, v29)))) fun q19 =>
        jn (
          if ¬ (R.1 0 40) = 0 then
            some (Sum.inr ())
          else
            if x1 = true then
              some (Sum.inr ())
            else
              if ¬ (R.1 0 58) = 0 then
                some (Sum.inr ())
              else
                (M_endAll R).bind fun v34 =>
                (rdI v34 37 10 (0 : Int32)).bind fun v35 =>
                (M_emit v34 (8 : Int32) (0 : Int32) v35 (0 : Int32)).bind fun v36 =>
                some (Sum.inl (Sum.inl (x1, (1 : Int32), v36)))) fun q30 =>
        (M_fails R).bind fun v37 =>
        some (Sum.inl (x1, x2, v37.2))
noncomputable def M_readQuery (R : RS) : Option RS :=
  (some (pI R 50 (0 : Int32))).bind fun R1 =>
  (some (pI R1 51 (0 : Int32))).bind fun R2 =>
  (some (pI R2 30 (0 : Int32))).bind fun R3 =>
  (some (pI R3 58 (0 : Int32))).bind fun R4 =>
  (some (pI R4 59 (0 : Int32))).bind fun R5 =>
  (wrI R5 36 10 (0 : Int32) (0 : Int32)).bind fun R6 =>
  (wrI R6 37 10 (0 : Int32) (0 : Int32)).bind fun R7 =>
  (M_read R7).bind fun v8 =>
  (lp (fun q => M_readQuery_l47 q.2.2 q.1 q.2.1) (true, (0 : Int32), v8)).bind fun z39 =>
  some z39
set_option maxRecDepth 100000 in
set_option maxHeartbeats 4000000 in
theorem x_M_readQuery_l47 {Γ : W0} {σ0 : Mem} {r : RT} {τ : Mem} {B : Nat} {t : RS} (hB : RB τ B) (hk0 : ∀ z : RS, z = t → V Γ MD_M_readQuery σ0 r (emb τ B z) 220 [] []) : ∀ q : Bool × Int32 × RS, lp (fun q => M_readQuery_l47 q.2.2 q.1 q.2.1) q = some t → V Γ MD_M_readQuery σ0 r (emb τ B q.2.2) 47 [(0, va_rf (some B)), (1, .int (b2i q.1)), (2, .int q.2.1)] [] := by
  refine lp_ind (fun (q : Bool × Int32 × RS) => V Γ MD_M_readQuery σ0 r (emb τ B q.2.2) 47 [(0, va_rf (some B)), (1, .int (b2i q.1)), (2, .int q.2.1)] []) (fun q x hf ih ho => ?_)
  obtain ⟨x1, x2, R⟩ := q
  show V Γ MD_M_readQuery σ0 r (emb τ B R) 47 [(0, va_rf (some B)), (1, .int (b2i x1)), (2, .int x2)] []
  replace hf : M_readQuery_l47 R x1 x2 = some x := hf
  unfold M_readQuery_l47 at hf
  refine r_aload_n 0 dX12_readQuery_47 rfl rfl ?_
  refine rr_ldI (k := 45) hB dX12_readQuery_48 fl_RX12_254 rfl ?_
  refine r_iconst (-1 : Int32) dX12_readQuery_51 (by decide) ?_
  refine r_icmp_ne 220 hf dX12_readQuery_52 (by decide) (fun c9 hf => ?_) (fun c9 hf => ?_)
  · refine r_sub (L' := []) [] rfl ?_
    exact hk0 _ (ho _ (Option.some.inj hf).symm)
  · refine r_iload_n 2 dX12_readQuery_55 rfl rfl ?_
    refine r_if_ne 220 hf dX12_readQuery_56 (by decide) (fun c10 hf => ?_) (fun c10 hf => ?_)
    · refine r_sub (L' := []) [] rfl ?_
      exact hk0 _ (ho _ (Option.some.inj hf).symm)
    · refine r_aload_n 0 dX12_readQuery_59 rfl rfl ?_
      refine bnd hf (fun v11 ev11 hf => ?_)
      refine r_callVr (ci := 12) rfl dX12_readQuery_60 cs_RX12_301 ww_1348 ww_51 (by decide) (hB.t0 _) (by decide) rfl (rest := []) rfl (Or.inl (Nat.le_of_ble_eq_true rfl)) (t_M_beginsPart hB ev11) ?_
      refine r_ifeqZ 74 hf dX12_readQuery_63 (by decide) (fun c12 hf => ?_) (fun c12 hf => ?_)
      · refine r_aload_n 0 dX12_readQuery_66 rfl rfl ?_
        refine bnd hf (fun v13 ev13 hf => ?_)
        refine r_callVr (ci := 12) rfl dX12_readQuery_67 cs_RX12_304 ww_1352 ww_52 (by decide) (hB.t0 _) (by decide) rfl (rest := []) rfl (Or.inl (Nat.le_of_ble_eq_true rfl)) (t_M_part hB ev13) ?_
        refine r_istore_n (L' := [(1, _), (0, _), (2, _)]) dX12_readQuery_70 rfl (show 1 < 3 by decide) rfl ?_
        refine r_goto 47 dX12_readQuery_71 (by decide) ?_
        refine r_sub (L' := [(0, _), (1, _), (2, _)]) [1, 0, 2] rfl ?_
        exact ih _ (Option.some.inj hf).symm
      · refine r_aload_n 0 dX12_readQuery_74 rfl rfl ?_
        refine rr_ldI (k := 40) hB dX12_readQuery_75 fl_RX12_251 rfl ?_
        refine r_bipush (124 : Int32) dX12_readQuery_78 (by decide) ?_
        refine r_jn (fun (q14 : Unit) => V Γ MD_M_readQuery σ0 r (emb τ B R) 100 [(0, va_rf (some B)), (1, .int (b2i x1)), (2, .int x2)] []) hf (fun q14 hf => ?_) (fun yq14 hf oq14 kq14 => ?_)
        · refine r_aload_n 0 dX12_readQuery_100 rfl rfl ?_
          refine rr_ldI (k := 40) hB dX12_readQuery_101 fl_RX12_251 rfl ?_
          refine r_bipush (41 : Int32) dX12_readQuery_104 (by decide) ?_
          refine r_jn (fun (q19 : Unit) => V Γ MD_M_readQuery σ0 r (emb τ B R) 171 [(0, va_rf (some B)), (1, .int (b2i x1)), (2, .int x2)] []) hf (fun q19 hf => ?_) (fun yq19 hf oq19 kq19 => ?_)
          · refine r_aload_n 0 dX12_readQuery_171 rfl rfl ?_
            refine rr_ldI (k := 40) hB dX12_readQuery_172 fl_RX12_251 rfl ?_
            refine r_jn (fun (q30 : Unit) => V Γ MD_M_readQuery σ0 r (emb τ B R) 212 [(0, va_rf (some B)), (1, .int (b2i x1)), (2, .int x2)] []) hf (fun q30 hf => ?_) (fun yq30 hf oq30 kq30 => ?_)
            · refine r_aload_n 0 dX12_readQuery_212 rfl rfl ?_
              refine bnd hf (fun v37 ev37 hf => ?_)
              refine r_callVr (ci := 12) rfl dX12_readQuery_213 cs_RX12_263 ww_1356 ww_53 (by decide) (hB.t0 _) (by decide) rfl (rest := []) rfl (Or.inl (Nat.le_of_ble_eq_true rfl)) (t_M_fails hB ev37) ?_
              refine r_pop dX12_readQuery_216 rfl ?_
              refine r_goto 47 dX12_readQuery_217 (by decide) ?_
              refine r_sub (L' := [(0, _), (1, _), (2, _)]) [0, 1, 2] rfl ?_
              exact ih _ (Option.some.inj hf).symm
            · refine r_if_ne 212 hf dX12_readQuery_175 (by decide) (fun c31 hf => ?_) (fun c31 hf => ?_)
              · refine r_sub (L' := [(0, _), (1, _), (2, _)]) [0, 1, 2] rfl ?_
                exact kq30 _ (Option.some.inj hf).symm
              · refine r_iload_n 1 dX12_readQuery_178 rfl rfl ?_
                refine r_ifneZ 212 hf dX12_readQuery_179 (by decide) (fun c32 hf => ?_) (fun c32 hf => ?_)
                · refine r_sub (L' := [(0, _), (1, _), (2, _)]) [0, 1, 2] rfl ?_
                  exact kq30 _ (Option.some.inj hf).symm
                · refine r_aload_n 0 dX12_readQuery_182 rfl rfl ?_
                  refine rr_ldI (k := 58) hB dX12_readQuery_183 fl_RX12_292 rfl ?_
                  refine r_if_ne 212 hf dX12_readQuery_186 (by decide) (fun c33 hf => ?_) (fun c33 hf => ?_)
                  · refine r_sub (L' := [(0, _), (1, _), (2, _)]) [0, 1, 2] rfl ?_
                    exact kq30 _ (Option.some.inj hf).symm
                  · refine r_aload_n 0 dX12_readQuery_189 rfl rfl ?_
                    refine bnd hf (fun v34 ev34 hf => ?_)
                    refine r_callVv (ci := 12) rfl dX12_readQuery_190 cs_RX12_307 ww_1404 ww_65 (by decide) (hB.t0 _) (by decide) rfl (rest := []) rfl (Or.inl (Nat.le_of_ble_eq_true rfl)) (t_M_endAll hB ev34) ?_
                    refine r_aload_n 0 dX12_readQuery_193 rfl rfl ?_
                    refine r_bipush (8 : Int32) dX12_readQuery_194 (by decide) ?_
                    refine r_iconst (0 : Int32) dX12_readQuery_196 (by decide) ?_
                    refine r_aload_n 0 dX12_readQuery_197 rfl rfl ?_
                    refine rr_ldR (c := 37) hB dX12_readQuery_198 fl_RX12_130 rfl rfl (by decide) ?_
                    refine r_iconst (0 : Int32) dX12_readQuery_201 (by decide) ?_
                    refine rr_raI hf hB dX12_readQuery_202 (by decide) rfl (fun v35 ev35 hf => ?_)
                    refine r_iconst (0 : Int32) dX12_readQuery_203 (by decide) ?_
                    refine bnd hf (fun v36 ev36 hf => ?_)
                    refine r_callVv (ci := 12) rfl dX12_readQuery_204 cs_RX12_273 ww_1372 ww_57 (by decide) (hB.t0 _) (by decide) rfl (rest := []) rfl (Or.inl (Nat.le_of_ble_eq_true rfl)) (t_M_emit hB ev36) ?_
                    refine r_iconst (1 : Int32) dX12_readQuery_207 (by decide) ?_
                    refine r_istore_n (L' := [(2, _), (0, _), (1, _)]) dX12_readQuery_208 rfl (show 2 < 3 by decide) rfl ?_
                    refine r_goto 47 dX12_readQuery_209 (by decide) ?_
                    refine r_sub (L' := [(0, _), (1, _), (2, _)]) [1, 2, 0] rfl ?_
                    exact ih _ (oq30 _ (Option.some.inj hf).symm).symm
          · refine r_icmp_ne 171 hf dX12_readQuery_106 (by decide) (fun c20 hf => ?_) (fun c20 hf => ?_)
            · refine r_sub (L' := [(0, _), (1, _), (2, _)]) [0, 1, 2] rfl ?_
              exact kq19 _ (Option.some.inj hf).symm
            · refine r_iload_n 1 dX12_readQuery_109 rfl rfl ?_
              refine r_ifneZ 171 hf dX12_readQuery_110 (by decide) (fun c21 hf => ?_) (fun c21 hf => ?_)
              · refine r_sub (L' := [(0, _), (1, _), (2, _)]) [0, 1, 2] rfl ?_
                exact kq19 _ (Option.some.inj hf).symm
              · refine r_aload_n 0 dX12_readQuery_113 rfl rfl ?_
                refine rr_ldI (k := 58) hB dX12_readQuery_114 fl_RX12_292 rfl ?_
                refine r_if_le 171 hf dX12_readQuery_117 (by decide) (fun c22 hf => ?_) (fun c22 hf => ?_)
                · refine r_sub (L' := [(0, _), (1, _), (2, _)]) [0, 1, 2] rfl ?_
                  exact kq19 _ (Option.some.inj hf).symm
                · refine r_aload_n 0 dX12_readQuery_120 rfl rfl ?_
                  refine bnd hf (fun v23 ev23 hf => ?_)
                  refine r_callVv (ci := 12) rfl dX12_readQuery_121 cs_RX12_307 ww_1404 ww_65 (by decide) (hB.t0 _) (by decide) rfl (rest := []) rfl (Or.inl (Nat.le_of_ble_eq_true rfl)) (t_M_endAll hB ev23) ?_
                  refine r_aload_n 0 dX12_readQuery_124 rfl rfl ?_
                  refine r_bipush (8 : Int32) dX12_readQuery_125 (by decide) ?_
                  refine r_iconst (0 : Int32) dX12_readQuery_127 (by decide) ?_
                  refine r_aload_n 0 dX12_readQuery_128 rfl rfl ?_
                  refine rr_ldR (c := 37) hB dX12_readQuery_129 fl_RX12_130 rfl rfl (by decide) ?_
                  refine r_aload_n 0 dX12_readQuery_132 rfl rfl ?_
                  refine rr_ldI (k := 58) hB dX12_readQuery_133 fl_RX12_292 rfl ?_
                  refine rr_raI hf hB dX12_readQuery_136 (by decide) rfl (fun v24 ev24 hf => ?_)
                  refine r_iconst (0 : Int32) dX12_readQuery_137 (by decide) ?_
                  refine bnd hf (fun v25 ev25 hf => ?_)
                  refine r_callVv (ci := 12) rfl dX12_readQuery_138 cs_RX12_273 ww_1372 ww_57 (by decide) (hB.t0 _) (by decide) rfl (rest := []) rfl (Or.inl (Nat.le_of_ble_eq_true rfl)) (t_M_emit hB ev25) ?_
                  refine r_aload_n 0 dX12_readQuery_141 rfl rfl ?_
                  refine r_dup dX12_readQuery_142 (cat_rf _) ?_
                  refine rr_ldI (k := 58) hB dX12_readQuery_143 fl_RX12_292 rfl ?_
                  refine r_iconst (1 : Int32) dX12_readQuery_146 (by decide) ?_
                  refine r_isub dX12_readQuery_147 ?_
                  refine rr_stI hf hB dX12_readQuery_148 fl_RX12_292 rfl rfl rfl (fun R26 eR26 hf => ?_)
                  refine r_aload_n 0 dX12_readQuery_151 rfl rfl ?_
                  refine bnd hf (fun v27 ev27 hf => ?_)
                  refine r_callVv (ci := 12) rfl dX12_readQuery_152 cs_RX12_267 ww_1344 ww_50 (by decide) (hB.t0 _) (by decide) rfl (rest := []) rfl (Or.inl (Nat.le_of_ble_eq_true rfl)) (t_M_read hB ev27) ?_
                  refine r_aload_n 0 dX12_readQuery_155 rfl rfl ?_
                  refine r_aload_n 0 dX12_readQuery_156 rfl rfl ?_
                  refine rr_ldR (c := 38) hB dX12_readQuery_157 fl_RX12_133 rfl rfl (by decide) ?_
                  refine r_aload_n 0 dX12_readQuery_160 rfl rfl ?_
                  refine rr_ldI (k := 58) hB dX12_readQuery_161 fl_RX12_292 rfl ?_
                  refine rr_raB hf hB dX12_readQuery_164 (by decide) rfl (fun v28 ev28 hf => ?_)
                  refine bnd hf (fun v29 ev29 hf => ?_)
                  refine r_callVv (ci := 12) rfl dX12_readQuery_165 cs_RX12_310 ww_1400 ww_64 (by decide) (hB.t0 _) (by decide) rfl (rest := []) rfl (Or.inl (Nat.le_of_ble_eq_true rfl)) (t_M_endPart hB ev29) ?_
                  refine r_goto 47 dX12_readQuery_168 (by decide) ?_
                  refine r_sub (L' := [(0, _), (1, _), (2, _)]) [0, 1, 2] rfl ?_
                  exact ih _ (oq19 _ (Option.some.inj hf).symm).symm
        · refine r_icmp_ne 100 hf dX12_readQuery_80 (by decide) (fun c15 hf => ?_) (fun c15 hf => ?_)
          · refine r_sub (L' := [(0, _), (1, _), (2, _)]) [0, 1, 2] rfl ?_
            exact kq14 _ (Option.some.inj hf).symm
          · refine r_iload_n 1 dX12_readQuery_83 rfl rfl ?_
            refine r_ifneZ 100 hf dX12_readQuery_84 (by decide) (fun c16 hf => ?_) (fun c16 hf => ?_)
            · refine r_sub (L' := [(0, _), (1, _), (2, _)]) [0, 1, 2] rfl ?_
              exact kq14 _ (Option.some.inj hf).symm
            · refine r_aload_n 0 dX12_readQuery_87 rfl rfl ?_
              refine bnd hf (fun v17 ev17 hf => ?_)
              refine r_callVv (ci := 12) rfl dX12_readQuery_88 cs_RX12_307 ww_1404 ww_65 (by decide) (hB.t0 _) (by decide) rfl (rest := []) rfl (Or.inl (Nat.le_of_ble_eq_true rfl)) (t_M_endAll hB ev17) ?_
              refine r_aload_n 0 dX12_readQuery_91 rfl rfl ?_
              refine bnd hf (fun v18 ev18 hf => ?_)
              refine r_callVv (ci := 12) rfl dX12_readQuery_92 cs_RX12_267 ww_1344 ww_50 (by decide) (hB.t0 _) (by decide) rfl (rest := []) rfl (Or.inl (Nat.le_of_ble_eq_true rfl)) (t_M_read hB ev18) ?_
              refine r_iconst (b2i true) dX12_readQuery_95 rfl ?_
              refine r_istore_n (L' := [(1, _), (0, _), (2, _)]) dX12_readQuery_96 rfl (show 1 < 3 by decide) rfl ?_
              refine r_goto 47 dX12_readQuery_97 (by decide) ?_
              refine r_sub (L' := [(0, _), (1, _), (2, _)]) [1, 0, 2] rfl ?_
              exact ih _ (oq14 _ (Option.some.inj hf).symm).symm
set_option maxRecDepth 100000 in
set_option maxHeartbeats 4000000 in
theorem t_M_readQuery {Γ : W0} {τ : Mem} {B : Nat} {R : RS} {R' : RS} (hB : RB τ B) (hf : M_readQuery R = some R') : CT Γ MD_M_readQuery yX12_readQuery [va_rf (some B)] (emb τ B R) (none, (emb τ B R')) := by
  refine CT.of (L := [(0, va_rf (some B))]) rfl (by decide) (fun h => Bool.noConfusion (show false = true from h)) (Nat.le_of_ble_eq_true rfl) rfl ?_
  unfold M_readQuery at hf
  generalize hr : mkR Γ (emb τ B R) (none) (emb τ B R') = r
  refine r_aload_n 0 dX12_readQuery_0 rfl rfl ?_
  refine r_iconst (0 : Int32) dX12_readQuery_1 (by decide) ?_
  refine rr_stI hf hB dX12_readQuery_2 fl_RX12_257 rfl rfl rfl (fun R1 eR1 hf => ?_)
  refine r_aload_n 0 dX12_readQuery_5 rfl rfl ?_
  refine r_iconst (0 : Int32) dX12_readQuery_6 (by decide) ?_
  refine rr_stI hf hB dX12_readQuery_7 fl_RX12_260 rfl rfl rfl (fun R2 eR2 hf => ?_)
  refine r_aload_n 0 dX12_readQuery_10 rfl rfl ?_
  refine r_iconst (0 : Int32) dX12_readQuery_11 (by decide) ?_
  refine rr_stI hf hB dX12_readQuery_12 fl_RX12_295 rfl rfl rfl (fun R3 eR3 hf => ?_)
  refine r_aload_n 0 dX12_readQuery_15 rfl rfl ?_
  refine r_iconst (0 : Int32) dX12_readQuery_16 (by decide) ?_
  refine rr_stI hf hB dX12_readQuery_17 fl_RX12_292 rfl rfl rfl (fun R4 eR4 hf => ?_)
  refine r_aload_n 0 dX12_readQuery_20 rfl rfl ?_
  refine r_iconst (0 : Int32) dX12_readQuery_21 (by decide) ?_
  refine rr_stI hf hB dX12_readQuery_22 fl_RX12_298 rfl rfl rfl (fun R5 eR5 hf => ?_)
  refine r_aload_n 0 dX12_readQuery_25 rfl rfl ?_
  refine rr_ldR (c := 36) hB dX12_readQuery_26 fl_RX12_127 rfl rfl (by decide) ?_
  refine r_iconst (0 : Int32) dX12_readQuery_29 (by decide) ?_
  refine r_iconst (0 : Int32) dX12_readQuery_30 (by decide) ?_
  refine rr_waI hf hB dX12_readQuery_31 (by decide) rfl (fun R6 eR6 hf => ?_)
  refine r_aload_n 0 dX12_readQuery_32 rfl rfl ?_
  refine rr_ldR (c := 37) hB dX12_readQuery_33 fl_RX12_130 rfl rfl (by decide) ?_
  refine r_iconst (0 : Int32) dX12_readQuery_36 (by decide) ?_
  refine r_iconst (0 : Int32) dX12_readQuery_37 (by decide) ?_
  refine rr_waI hf hB dX12_readQuery_38 (by decide) rfl (fun R7 eR7 hf => ?_)
  refine r_iconst (b2i true) dX12_readQuery_39 rfl ?_
  refine r_istore_n (L' := [(1, _), (0, _)]) dX12_readQuery_40 rfl (show 1 < 3 by decide) rfl ?_
  refine r_iconst (0 : Int32) dX12_readQuery_41 (by decide) ?_
  refine r_istore_n (L' := [(2, _), (1, _), (0, _)]) dX12_readQuery_42 rfl (show 2 < 3 by decide) rfl ?_
  refine r_aload_n 2 dX12_readQuery_43 rfl rfl ?_
  refine bnd hf (fun v8 ev8 hf => ?_)
  refine r_callVv (ci := 12) rfl dX12_readQuery_44 cs_RX12_267 ww_1344 ww_50 (by decide) (hB.t0 _) (by decide) rfl (rest := []) rfl (Or.inl (Nat.le_of_ble_eq_true rfl)) (t_M_read hB ev8) ?_
  refine bnd hf (fun t38 et38 hf => ?_)
  refine r_sub (L' := [(0, _), (1, _), (2, _)]) [2, 1, 0] rfl ?_
  refine x_M_readQuery_l47 hB ?_ _ et38
  · intro z39 hz39
    subst hz39
    exact r_vret rfl dX12_readQuery_220 (by have h1 := (Option.some.inj hf); subst h1; exact hr.symm)
/-! SearchEngineModel.isToken -/
noncomputable def M_isToken_l33 (R : RS) (x1 : Int32) (x2 : Int32) (x3 : Bool) (x4 : Int32) : Option ((Bool × Int32) ⊕ Bool) :=
  (rdI R 33 400 x2).bind fun v7 =>
  if v7 ≤ x4 then
    some (Sum.inr x3)
  else
    if x3 = true then
      (rdI R 10 1200000 (((12 : Int32) * x1) + x4)).bind fun v10 =>
      (rdI R 34 4800 (((12 : Int32) * x2) + x4)).bind fun v11 =>
      Option.bind (
        if ¬ v10 = v11 then
          some false
        else
          some true) fun q12 =>
      some (Sum.inl (q12, (x4 + (1 : Int32))))
    else
      some (Sum.inr x3)
noncomputable def M_isToken (R : RS) (x1 : Int32) (x2 : Int32) : Option Bool :=
  (rdI R 9 100000 x1).bind fun v1 =>
  (rdI R 33 400 x2).bind fun v2 =>
  Option.bind (
    if ¬ v1 = v2 then
      some false
    else
      (rdI R 9 100000 x1).bind fun v5 =>
      if v5 ≤ 0 then
        some false
      else
        some true) fun q3 =>
  (lp (fun q => M_isToken_l33 R x1 x2 q.1 q.2) (q3, (0 : Int32))).bind fun z15 =>
  some z15
set_option maxRecDepth 100000 in
set_option maxHeartbeats 4000000 in
theorem x_M_isToken_l33 {Γ : W0} {σ0 : Mem} {r : RT} {τ : Mem} {B : Nat} {R : RS} {x1 : Int32} {x2 : Int32} {t : Bool} (hB : RB τ B) (hk0 : ∀ z : Bool, z = t → V Γ MD_M_isToken σ0 r (emb τ B R) 87 [(3, .int (b2i z))] []) : ∀ q : Bool × Int32, lp (fun q => M_isToken_l33 R x1 x2 q.1 q.2) q = some t → V Γ MD_M_isToken σ0 r (emb τ B R) 33 [(0, va_rf (some B)), (1, .int x1), (2, .int x2), (3, .int (b2i q.1)), (4, .int q.2)] [] := by
  refine lp_ind (fun (q : Bool × Int32) => V Γ MD_M_isToken σ0 r (emb τ B R) 33 [(0, va_rf (some B)), (1, .int x1), (2, .int x2), (3, .int (b2i q.1)), (4, .int q.2)] []) (fun q x hf ih ho => ?_)
  obtain ⟨x3, x4⟩ := q
  show V Γ MD_M_isToken σ0 r (emb τ B R) 33 [(0, va_rf (some B)), (1, .int x1), (2, .int x2), (3, .int (b2i x3)), (4, .int x4)] []
  replace hf : M_isToken_l33 R x1 x2 x3 x4 = some x := hf
  unfold M_isToken_l33 at hf
  refine r_iload 4 dX12_isToken_33 rfl ?_
  refine r_aload_n 0 dX12_isToken_35 rfl rfl ?_
  refine rr_ldR (c := 33) hB dX12_isToken_36 fl_RX12_118 rfl rfl (by decide) ?_
  refine r_iload_n 2 dX12_isToken_39 rfl rfl ?_
  refine rr_raI hf hB dX12_isToken_40 (by decide) rfl (fun v7 ev7 hf => ?_)
  refine r_icmp_ge 87 hf dX12_isToken_41 (by decide) (fun c8 hf => ?_) (fun c8 hf => ?_)
  · refine r_sub (L' := [(3, _)]) [3] rfl ?_
    exact hk0 _ (ho _ (Option.some.inj hf).symm)
  · refine r_iload_n 3 dX12_isToken_44 rfl rfl ?_
    refine r_ifeqZ 87 hf dX12_isToken_45 (by decide) (fun c9 hf => ?_) (fun c9 hf => ?_)
    · refine r_aload_n 0 dX12_isToken_48 rfl rfl ?_
      refine rr_ldR (c := 10) hB dX12_isToken_49 fl_RX12_41 rfl rfl (by decide) ?_
      refine r_bipush (12 : Int32) dX12_isToken_52 (by decide) ?_
      refine r_iload_n 1 dX12_isToken_54 rfl rfl ?_
      refine r_imul dX12_isToken_55 ?_
      refine r_iload 4 dX12_isToken_56 rfl ?_
      refine r_iadd dX12_isToken_58 ?_
      refine rr_raI hf hB dX12_isToken_59 (by decide) rfl (fun v10 ev10 hf => ?_)
      refine r_aload_n 0 dX12_isToken_60 rfl rfl ?_
      refine rr_ldR (c := 34) hB dX12_isToken_61 fl_RX12_121 rfl rfl (by decide) ?_
      refine r_bipush (12 : Int32) dX12_isToken_64 (by decide) ?_
      refine r_iload_n 2 dX12_isToken_66 rfl rfl ?_
      refine r_imul dX12_isToken_67 ?_
      refine r_iload 4 dX12_isToken_68 rfl ?_
      refine r_iadd dX12_isToken_70 ?_
      refine rr_raI hf hB dX12_isToken_71 (by decide) rfl (fun v11 ev11 hf => ?_)
      refine r_bd (fun (q12 : Bool) => V Γ MD_M_isToken σ0 r (emb τ B R) 80 [(0, va_rf (some B)), (1, .int x1), (2, .int x2), (4, .int x4)] [.int (b2i q12)]) hf (fun q12 hf => ?_) (fun yq12 hf kq12 => ?_)
      · refine r_istore_n (L' := [(3, _), (0, _), (1, _), (2, _), (4, _)]) dX12_isToken_80 rfl (show 3 < 5 by decide) rfl ?_
        refine r_iinc (1 : Int32) (L' := [(4, _), (3, _), (0, _), (1, _), (2, _)]) 4 dX12_isToken_81 rfl (by decide) (show 4 < 5 by decide) rfl ?_
        refine r_goto 33 dX12_isToken_84 (by decide) ?_
        refine r_sub (L' := [(0, _), (1, _), (2, _), (3, _), (4, _)]) [2, 3, 4, 1, 0] rfl ?_
        exact ih _ (Option.some.inj hf).symm
      · refine r_icmp_ne 79 hf dX12_isToken_72 (by decide) (fun c13 hf => ?_) (fun c13 hf => ?_)
        · refine r_iconst (b2i false) dX12_isToken_79 rfl ?_
          refine r_sub (L' := [(0, _), (1, _), (2, _), (4, _)]) [0, 1, 2, 4] rfl ?_
          cases (Option.some.inj hf)
          exact kq12
        · refine r_iconst (b2i true) dX12_isToken_75 rfl ?_
          refine r_goto 80 dX12_isToken_76 (by decide) ?_
          refine r_sub (L' := [(0, _), (1, _), (2, _), (4, _)]) [0, 1, 2, 4] rfl ?_
          cases (Option.some.inj hf)
          exact kq12
    · refine r_sub (L' := [(3, _)]) [3] rfl ?_
      exact hk0 _ (ho _ (Option.some.inj hf).symm)
set_option maxRecDepth 100000 in
set_option maxHeartbeats 4000000 in
theorem t_M_isToken {Γ : W0} {τ : Mem} {B : Nat} {R : RS} {x1 : Int32} {x2 : Int32} {v : Bool} (hB : RB τ B) (hf : M_isToken R x1 x2 = some v) : CT Γ MD_M_isToken yX12_isToken [va_rf (some B), .int x1, .int x2] (emb τ B R) (some (.int (b2i v)), (emb τ B R)) := by
  refine CT.of (L := [(0, va_rf (some B)), (1, .int x1), (2, .int x2)]) rfl (by decide) (fun h => Bool.noConfusion (show false = true from h)) (Nat.le_of_ble_eq_true rfl) rfl ?_
  unfold M_isToken at hf
  generalize hr : mkR Γ (emb τ B R) (some (.int (b2i v))) (emb τ B R) = r
  refine r_aload_n 0 dX12_isToken_0 rfl rfl ?_
  refine rr_ldR (c := 9) hB dX12_isToken_1 fl_RX12_37 rfl rfl (by decide) ?_
  refine r_iload_n 1 dX12_isToken_4 rfl rfl ?_
  refine rr_raI hf hB dX12_isToken_5 (by decide) rfl (fun v1 ev1 hf => ?_)
  refine r_aload_n 0 dX12_isToken_6 rfl rfl ?_
  refine rr_ldR (c := 33) hB dX12_isToken_7 fl_RX12_118 rfl rfl (by decide) ?_
  refine r_iload_n 2 dX12_isToken_10 rfl rfl ?_
  refine rr_raI hf hB dX12_isToken_11 (by decide) rfl (fun v2 ev2 hf => ?_)
  refine r_bd (fun (q3 : Bool) => V Γ MD_M_isToken (emb τ B R) r (emb τ B R) 29 [(0, va_rf (some B)), (1, .int x1), (2, .int x2)] [.int (b2i q3)]) hf (fun q3 hf => ?_) (fun yq3 hf kq3 => ?_)
  · refine r_istore_n (L' := [(3, _), (0, _), (1, _), (2, _)]) dX12_isToken_29 rfl (show 3 < 5 by decide) rfl ?_
    refine r_iconst (0 : Int32) dX12_isToken_30 (by decide) ?_
    refine r_istore (L' := [(4, _), (3, _), (0, _), (1, _), (2, _)]) dX12_isToken_31 (show 4 < 5 by decide) rfl ?_
    refine bnd hf (fun t14 et14 hf => ?_)
    refine r_sub (L' := [(0, _), (1, _), (2, _), (3, _), (4, _)]) [2, 3, 4, 1, 0] rfl ?_
    refine x_M_isToken_l33 hB ?_ _ et14
    · intro z15 hz15
      subst hz15
      refine r_iload_n 0 dX12_isToken_87 rfl rfl ?_
      exact r_zret rfl dX12_isToken_88 (by have h1 := (Option.some.inj hf); subst h1; exact hr.symm)
  · refine r_icmp_ne 28 hf dX12_isToken_12 (by decide) (fun c4 hf => ?_) (fun c4 hf => ?_)
    · refine r_iconst (b2i false) dX12_isToken_28 rfl ?_
      refine r_sub (L' := [(0, _), (1, _), (2, _)]) [0, 1, 2] rfl ?_
      cases (Option.some.inj hf)
      exact kq3
    · refine r_aload_n 0 dX12_isToken_15 rfl rfl ?_
      refine rr_ldR (c := 9) hB dX12_isToken_16 fl_RX12_37 rfl rfl (by decide) ?_
      refine r_iload_n 1 dX12_isToken_19 rfl rfl ?_
      refine rr_raI hf hB dX12_isToken_20 (by decide) rfl (fun v5 ev5 hf => ?_)
      refine r_if_le 28 hf dX12_isToken_21 (by decide) (fun c6 hf => ?_) (fun c6 hf => ?_)
      · refine r_iconst (b2i false) dX12_isToken_28 rfl ?_
        refine r_sub (L' := [(0, _), (1, _), (2, _)]) [0, 1, 2] rfl ?_
        cases (Option.some.inj hf)
        exact kq3
      · refine r_iconst (b2i true) dX12_isToken_24 rfl ?_
        refine r_goto 29 dX12_isToken_25 (by decide) ?_
        refine r_sub (L' := [(0, _), (1, _), (2, _)]) [0, 1, 2] rfl ?_
        cases (Option.some.inj hf)
        exact kq3
/-! SearchEngineModel.begins -/
noncomputable def M_begins_l33 (R : RS) (x1 : Int32) (x2 : Int32) (x3 : Bool) (x4 : Int32) : Option ((Bool × Int32) ⊕ Bool) :=
  (rdI R 33 400 x2).bind fun v7 =>
  if v7 ≤ x4 then
    some (Sum.inr x3)
  else
    if x3 = true then
      (rdI R 10 1200000 (((12 : Int32) * x1) + x4)).bind fun v10 =>
      (rdI R 34 4800 (((12 : Int32) * x2) + x4)).bind fun v11 =>
      Option.bind (
        if ¬ v10 = v11 then
          some false
        else
          some true) fun q12 =>
      some (Sum.inl (q12, (x4 + (1 : Int32))))
    else
      some (Sum.inr x3)
noncomputable def M_begins (R : RS) (x1 : Int32) (x2 : Int32) : Option Bool :=
  (rdI R 9 100000 x1).bind fun v1 =>
  (rdI R 33 400 x2).bind fun v2 =>
  Option.bind (
    if v1 < v2 then
      some false
    else
      (rdI R 9 100000 x1).bind fun v5 =>
      if v5 ≤ 0 then
        some false
      else
        some true) fun q3 =>
  (lp (fun q => M_begins_l33 R x1 x2 q.1 q.2) (q3, (0 : Int32))).bind fun z15 =>
  some z15
set_option maxRecDepth 100000 in
set_option maxHeartbeats 4000000 in
theorem x_M_begins_l33 {Γ : W0} {σ0 : Mem} {r : RT} {τ : Mem} {B : Nat} {R : RS} {x1 : Int32} {x2 : Int32} {t : Bool} (hB : RB τ B) (hk0 : ∀ z : Bool, z = t → V Γ MD_M_begins σ0 r (emb τ B R) 87 [(3, .int (b2i z))] []) : ∀ q : Bool × Int32, lp (fun q => M_begins_l33 R x1 x2 q.1 q.2) q = some t → V Γ MD_M_begins σ0 r (emb τ B R) 33 [(0, va_rf (some B)), (1, .int x1), (2, .int x2), (3, .int (b2i q.1)), (4, .int q.2)] [] := by
  refine lp_ind (fun (q : Bool × Int32) => V Γ MD_M_begins σ0 r (emb τ B R) 33 [(0, va_rf (some B)), (1, .int x1), (2, .int x2), (3, .int (b2i q.1)), (4, .int q.2)] []) (fun q x hf ih ho => ?_)
  obtain ⟨x3, x4⟩ := q
  show V Γ MD_M_begins σ0 r (emb τ B R) 33 [(0, va_rf (some B)), (1, .int x1), (2, .int x2), (3, .int (b2i x3)), (4, .int x4)] []
  replace hf : M_begins_l33 R x1 x2 x3 x4 = some x := hf
  unfold M_begins_l33 at hf
  refine r_iload 4 dX12_begins_33 rfl ?_
  refine r_aload_n 0 dX12_begins_35 rfl rfl ?_
  refine rr_ldR (c := 33) hB dX12_begins_36 fl_RX12_118 rfl rfl (by decide) ?_
  refine r_iload_n 2 dX12_begins_39 rfl rfl ?_
  refine rr_raI hf hB dX12_begins_40 (by decide) rfl (fun v7 ev7 hf => ?_)
  refine r_icmp_ge 87 hf dX12_begins_41 (by decide) (fun c8 hf => ?_) (fun c8 hf => ?_)
  · refine r_sub (L' := [(3, _)]) [3] rfl ?_
    exact hk0 _ (ho _ (Option.some.inj hf).symm)
  · refine r_iload_n 3 dX12_begins_44 rfl rfl ?_
    refine r_ifeqZ 87 hf dX12_begins_45 (by decide) (fun c9 hf => ?_) (fun c9 hf => ?_)
    · refine r_aload_n 0 dX12_begins_48 rfl rfl ?_
      refine rr_ldR (c := 10) hB dX12_begins_49 fl_RX12_41 rfl rfl (by decide) ?_
      refine r_bipush (12 : Int32) dX12_begins_52 (by decide) ?_
      refine r_iload_n 1 dX12_begins_54 rfl rfl ?_
      refine r_imul dX12_begins_55 ?_
      refine r_iload 4 dX12_begins_56 rfl ?_
      refine r_iadd dX12_begins_58 ?_
      refine rr_raI hf hB dX12_begins_59 (by decide) rfl (fun v10 ev10 hf => ?_)
      refine r_aload_n 0 dX12_begins_60 rfl rfl ?_
      refine rr_ldR (c := 34) hB dX12_begins_61 fl_RX12_121 rfl rfl (by decide) ?_
      refine r_bipush (12 : Int32) dX12_begins_64 (by decide) ?_
      refine r_iload_n 2 dX12_begins_66 rfl rfl ?_
      refine r_imul dX12_begins_67 ?_
      refine r_iload 4 dX12_begins_68 rfl ?_
      refine r_iadd dX12_begins_70 ?_
      refine rr_raI hf hB dX12_begins_71 (by decide) rfl (fun v11 ev11 hf => ?_)
      refine r_bd (fun (q12 : Bool) => V Γ MD_M_begins σ0 r (emb τ B R) 80 [(0, va_rf (some B)), (1, .int x1), (2, .int x2), (4, .int x4)] [.int (b2i q12)]) hf (fun q12 hf => ?_) (fun yq12 hf kq12 => ?_)
      · refine r_istore_n (L' := [(3, _), (0, _), (1, _), (2, _), (4, _)]) dX12_begins_80 rfl (show 3 < 5 by decide) rfl ?_
        refine r_iinc (1 : Int32) (L' := [(4, _), (3, _), (0, _), (1, _), (2, _)]) 4 dX12_begins_81 rfl (by decide) (show 4 < 5 by decide) rfl ?_
        refine r_goto 33 dX12_begins_84 (by decide) ?_
        refine r_sub (L' := [(0, _), (1, _), (2, _), (3, _), (4, _)]) [2, 3, 4, 1, 0] rfl ?_
        exact ih _ (Option.some.inj hf).symm
      · refine r_icmp_ne 79 hf dX12_begins_72 (by decide) (fun c13 hf => ?_) (fun c13 hf => ?_)
        · refine r_iconst (b2i false) dX12_begins_79 rfl ?_
          refine r_sub (L' := [(0, _), (1, _), (2, _), (4, _)]) [0, 1, 2, 4] rfl ?_
          cases (Option.some.inj hf)
          exact kq12
        · refine r_iconst (b2i true) dX12_begins_75 rfl ?_
          refine r_goto 80 dX12_begins_76 (by decide) ?_
          refine r_sub (L' := [(0, _), (1, _), (2, _), (4, _)]) [0, 1, 2, 4] rfl ?_
          cases (Option.some.inj hf)
          exact kq12
    · refine r_sub (L' := [(3, _)]) [3] rfl ?_
      exact hk0 _ (ho _ (Option.some.inj hf).symm)
set_option maxRecDepth 100000 in
set_option maxHeartbeats 4000000 in
theorem t_M_begins {Γ : W0} {τ : Mem} {B : Nat} {R : RS} {x1 : Int32} {x2 : Int32} {v : Bool} (hB : RB τ B) (hf : M_begins R x1 x2 = some v) : CT Γ MD_M_begins yX12_begins [va_rf (some B), .int x1, .int x2] (emb τ B R) (some (.int (b2i v)), (emb τ B R)) := by
  refine CT.of (L := [(0, va_rf (some B)), (1, .int x1), (2, .int x2)]) rfl (by decide) (fun h => Bool.noConfusion (show false = true from h)) (Nat.le_of_ble_eq_true rfl) rfl ?_
  unfold M_begins at hf
  generalize hr : mkR Γ (emb τ B R) (some (.int (b2i v))) (emb τ B R) = r
  refine r_aload_n 0 dX12_begins_0 rfl rfl ?_
  refine rr_ldR (c := 9) hB dX12_begins_1 fl_RX12_37 rfl rfl (by decide) ?_
  refine r_iload_n 1 dX12_begins_4 rfl rfl ?_
  refine rr_raI hf hB dX12_begins_5 (by decide) rfl (fun v1 ev1 hf => ?_)
  refine r_aload_n 0 dX12_begins_6 rfl rfl ?_
  refine rr_ldR (c := 33) hB dX12_begins_7 fl_RX12_118 rfl rfl (by decide) ?_
  refine r_iload_n 2 dX12_begins_10 rfl rfl ?_
  refine rr_raI hf hB dX12_begins_11 (by decide) rfl (fun v2 ev2 hf => ?_)
  refine r_bd (fun (q3 : Bool) => V Γ MD_M_begins (emb τ B R) r (emb τ B R) 29 [(0, va_rf (some B)), (1, .int x1), (2, .int x2)] [.int (b2i q3)]) hf (fun q3 hf => ?_) (fun yq3 hf kq3 => ?_)
  · refine r_istore_n (L' := [(3, _), (0, _), (1, _), (2, _)]) dX12_begins_29 rfl (show 3 < 5 by decide) rfl ?_
    refine r_iconst (0 : Int32) dX12_begins_30 (by decide) ?_
    refine r_istore (L' := [(4, _), (3, _), (0, _), (1, _), (2, _)]) dX12_begins_31 (show 4 < 5 by decide) rfl ?_
    refine bnd hf (fun t14 et14 hf => ?_)
    refine r_sub (L' := [(0, _), (1, _), (2, _), (3, _), (4, _)]) [2, 3, 4, 1, 0] rfl ?_
    refine x_M_begins_l33 hB ?_ _ et14
    · intro z15 hz15
      subst hz15
      refine r_iload_n 0 dX12_begins_87 rfl rfl ?_
      exact r_zret rfl dX12_begins_88 (by have h1 := (Option.some.inj hf); subst h1; exact hr.symm)
  · refine r_icmp_lt 28 hf dX12_begins_12 (by decide) (fun c4 hf => ?_) (fun c4 hf => ?_)
    · refine r_iconst (b2i false) dX12_begins_28 rfl ?_
      refine r_sub (L' := [(0, _), (1, _), (2, _)]) [0, 1, 2] rfl ?_
      cases (Option.some.inj hf)
      exact kq3
    · refine r_aload_n 0 dX12_begins_15 rfl rfl ?_
      refine rr_ldR (c := 9) hB dX12_begins_16 fl_RX12_37 rfl rfl (by decide) ?_
      refine r_iload_n 1 dX12_begins_19 rfl rfl ?_
      refine rr_raI hf hB dX12_begins_20 (by decide) rfl (fun v5 ev5 hf => ?_)
      refine r_if_le 28 hf dX12_begins_21 (by decide) (fun c6 hf => ?_) (fun c6 hf => ?_)
      · refine r_iconst (b2i false) dX12_begins_28 rfl ?_
        refine r_sub (L' := [(0, _), (1, _), (2, _)]) [0, 1, 2] rfl ?_
        cases (Option.some.inj hf)
        exact kq3
      · refine r_iconst (b2i true) dX12_begins_24 rfl ?_
        refine r_goto 29 dX12_begins_25 (by decide) ?_
        refine r_sub (L' := [(0, _), (1, _), (2, _)]) [0, 1, 2] rfl ?_
        cases (Option.some.inj hf)
        exact kq3
/-! SearchEngineModel.tf -/
noncomputable def M_tf_l6 (R : RS) (x1 : Int32) (x2 : Int32) (x3 : Int32) (x4 : Int32) (x5 : Int32) : Option ((Int32 × Int32) ⊕ Int32) :=
  (rdI R 6 800 (((2 : Int32) * x1) + x2)).bind fun v1 =>
  if v1 ≤ x5 then
    some (Sum.inr x4)
  else
    (M_base x1 x2).bind fun v3 =>
    (M_isToken R (v3 + x5) x3).bind fun v4 =>
    Option.bind (
      if v4 = true then
        some (1 : Int32)
      else
        some (0 : Int32)) fun q5 =>
    some (Sum.inl ((x4 + q5), (x5 + (1 : Int32))))
noncomputable def M_tf (R : RS) (x1 : Int32) (x2 : Int32) (x3 : Int32) : Option Int32 :=
  (lp (fun q => M_tf_l6 R x1 x2 x3 q.1 q.2) ((0 : Int32), (0 : Int32))).bind fun z8 =>
  some z8
set_option maxRecDepth 100000 in
set_option maxHeartbeats 4000000 in
theorem x_M_tf_l6 {Γ : W0} {σ0 : Mem} {r : RT} {τ : Mem} {B : Nat} {R : RS} {x1 : Int32} {x2 : Int32} {x3 : Int32} {t : Int32} (hB : RB τ B) (hk0 : ∀ z : Int32, z = t → V Γ MD_M_tf σ0 r (emb τ B R) 53 [(4, .int z)] []) : ∀ q : Int32 × Int32, lp (fun q => M_tf_l6 R x1 x2 x3 q.1 q.2) q = some t → V Γ MD_M_tf σ0 r (emb τ B R) 6 [(0, va_rf (some B)), (1, .int x1), (2, .int x2), (3, .int x3), (4, .int q.1), (5, .int q.2)] [] := by
  refine lp_ind (fun (q : Int32 × Int32) => V Γ MD_M_tf σ0 r (emb τ B R) 6 [(0, va_rf (some B)), (1, .int x1), (2, .int x2), (3, .int x3), (4, .int q.1), (5, .int q.2)] []) (fun q x hf ih ho => ?_)
  obtain ⟨x4, x5⟩ := q
  show V Γ MD_M_tf σ0 r (emb τ B R) 6 [(0, va_rf (some B)), (1, .int x1), (2, .int x2), (3, .int x3), (4, .int x4), (5, .int x5)] []
  replace hf : M_tf_l6 R x1 x2 x3 x4 x5 = some x := hf
  unfold M_tf_l6 at hf
  refine r_iload 5 dX12_tf_6 rfl ?_
  refine r_aload_n 0 dX12_tf_8 rfl rfl ?_
  refine rr_ldR (c := 6) hB dX12_tf_9 fl_RX12_27 rfl rfl (by decide) ?_
  refine r_iconst (2 : Int32) dX12_tf_12 (by decide) ?_
  refine r_iload_n 1 dX12_tf_13 rfl rfl ?_
  refine r_imul dX12_tf_14 ?_
  refine r_iload_n 2 dX12_tf_15 rfl rfl ?_
  refine r_iadd dX12_tf_16 ?_
  refine rr_raI hf hB dX12_tf_17 (by decide) rfl (fun v1 ev1 hf => ?_)
  refine r_icmp_ge 53 hf dX12_tf_18 (by decide) (fun c2 hf => ?_) (fun c2 hf => ?_)
  · refine r_sub (L' := [(4, _)]) [4] rfl ?_
    exact hk0 _ (ho _ (Option.some.inj hf).symm)
  · refine r_iload 4 dX12_tf_21 rfl ?_
    refine r_aload_n 0 dX12_tf_23 rfl rfl ?_
    refine r_iload_n 1 dX12_tf_24 rfl rfl ?_
    refine r_iload_n 2 dX12_tf_25 rfl rfl ?_
    refine bnd hf (fun v3 ev3 hf => ?_)
    refine r_callSr dX12_tf_26 cs_RX12_189 ww_1276 (by decide) rfl (rest := [_, _]) rfl (Or.inl (Nat.le_of_ble_eq_true rfl)) (t_M_base ev3) ?_
    refine r_iload 5 dX12_tf_29 rfl ?_
    refine r_iadd dX12_tf_31 ?_
    refine r_iload_n 3 dX12_tf_32 rfl rfl ?_
    refine bnd hf (fun v4 ev4 hf => ?_)
    refine r_callVr (ci := 12) rfl dX12_tf_33 cs_RX12_323 ww_1420 ww_69 (by decide) (hB.t0 _) (by decide) rfl (rest := [_]) rfl (Or.inl (Nat.le_of_ble_eq_true rfl)) (t_M_isToken hB ev4) ?_
    refine r_bd (fun (q5 : Int32) => V Γ MD_M_tf σ0 r (emb τ B R) 44 [(0, va_rf (some B)), (1, .int x1), (2, .int x2), (3, .int x3), (5, .int x5)] [.int q5, .int x4]) hf (fun q5 hf => ?_) (fun yq5 hf kq5 => ?_)
    · refine r_iadd dX12_tf_44 ?_
      refine r_istore (L' := [(4, _), (0, _), (1, _), (2, _), (3, _), (5, _)]) dX12_tf_45 (show 4 < 6 by decide) rfl ?_
      refine r_iinc (1 : Int32) (L' := [(5, _), (4, _), (0, _), (1, _), (2, _), (3, _)]) 5 dX12_tf_47 rfl (by decide) (show 5 < 6 by decide) rfl ?_
      refine r_goto 6 dX12_tf_50 (by decide) ?_
      refine r_sub (L' := [(0, _), (1, _), (2, _), (3, _), (4, _), (5, _)]) [2, 3, 4, 5, 1, 0] rfl ?_
      exact ih _ (Option.some.inj hf).symm
    · refine r_ifeqZ 43 hf dX12_tf_36 (by decide) (fun c6 hf => ?_) (fun c6 hf => ?_)
      · refine r_iconst (1 : Int32) dX12_tf_39 (by decide) ?_
        refine r_goto 44 dX12_tf_40 (by decide) ?_
        refine r_sub (L' := [(0, _), (1, _), (2, _), (3, _), (5, _)]) [0, 1, 2, 3, 5] rfl ?_
        cases (Option.some.inj hf)
        exact kq5
      · refine r_iconst (0 : Int32) dX12_tf_43 (by decide) ?_
        refine r_sub (L' := [(0, _), (1, _), (2, _), (3, _), (5, _)]) [0, 1, 2, 3, 5] rfl ?_
        cases (Option.some.inj hf)
        exact kq5
set_option maxRecDepth 100000 in
set_option maxHeartbeats 4000000 in
theorem t_M_tf {Γ : W0} {τ : Mem} {B : Nat} {R : RS} {x1 : Int32} {x2 : Int32} {x3 : Int32} {v : Int32} (hB : RB τ B) (hf : M_tf R x1 x2 x3 = some v) : CT Γ MD_M_tf yX12_tf [va_rf (some B), .int x1, .int x2, .int x3] (emb τ B R) (some (.int v), (emb τ B R)) := by
  refine CT.of (L := [(0, va_rf (some B)), (1, .int x1), (2, .int x2), (3, .int x3)]) rfl (by decide) (fun h => Bool.noConfusion (show false = true from h)) (Nat.le_of_ble_eq_true rfl) rfl ?_
  unfold M_tf at hf
  generalize hr : mkR Γ (emb τ B R) (some (.int v)) (emb τ B R) = r
  refine r_iconst (0 : Int32) dX12_tf_0 (by decide) ?_
  refine r_istore (L' := [(4, _), (0, _), (1, _), (2, _), (3, _)]) dX12_tf_1 (show 4 < 6 by decide) rfl ?_
  refine r_iconst (0 : Int32) dX12_tf_3 (by decide) ?_
  refine r_istore (L' := [(5, _), (4, _), (0, _), (1, _), (2, _), (3, _)]) dX12_tf_4 (show 5 < 6 by decide) rfl ?_
  refine bnd hf (fun t7 et7 hf => ?_)
  refine r_sub (L' := [(0, _), (1, _), (2, _), (3, _), (4, _), (5, _)]) [2, 3, 4, 5, 1, 0] rfl ?_
  refine x_M_tf_l6 hB ?_ _ et7
  · intro z8 hz8
    subst hz8
    refine r_iload 0 dX12_tf_53 rfl ?_
    exact r_iret rfl dX12_tf_55 (by have h1 := (Option.some.inj hf); subst h1; exact hr.symm)
/-! SearchEngineModel.df -/
noncomputable def M_df_l6 (R : RS) (x1 : Int32) (x2 : Int32) (x3 : Int32) (x4 : Int32) (x5 : Int32) : Option ((Int32 × Int32) ⊕ Int32) :=
  (rdI R 17 4 x1).bind fun v1 =>
  if v1 ≤ x5 then
    some (Sum.inr x4)
  else
    (rdI R 18 1600 (((400 : Int32) * x1) + x5)).bind fun v3 =>
    (M_tf R v3 x2 x3).bind fun v4 =>
    Option.bind (
      if v4 ≤ 0 then
        some (0 : Int32)
      else
        some (1 : Int32)) fun q5 =>
    some (Sum.inl ((x4 + q5), (x5 + (1 : Int32))))
noncomputable def M_df (R : RS) (x1 : Int32) (x2 : Int32) (x3 : Int32) : Option Int32 :=
  (lp (fun q => M_df_l6 R x1 x2 x3 q.1 q.2) ((0 : Int32), (0 : Int32))).bind fun z8 =>
  some z8
set_option maxRecDepth 100000 in
set_option maxHeartbeats 4000000 in
theorem x_M_df_l6 {Γ : W0} {σ0 : Mem} {r : RT} {τ : Mem} {B : Nat} {R : RS} {x1 : Int32} {x2 : Int32} {x3 : Int32} {t : Int32} (hB : RB τ B) (hk0 : ∀ z : Int32, z = t → V Γ MD_M_df σ0 r (emb τ B R) 55 [(4, .int z)] []) : ∀ q : Int32 × Int32, lp (fun q => M_df_l6 R x1 x2 x3 q.1 q.2) q = some t → V Γ MD_M_df σ0 r (emb τ B R) 6 [(0, va_rf (some B)), (1, .int x1), (2, .int x2), (3, .int x3), (4, .int q.1), (5, .int q.2)] [] := by
  refine lp_ind (fun (q : Int32 × Int32) => V Γ MD_M_df σ0 r (emb τ B R) 6 [(0, va_rf (some B)), (1, .int x1), (2, .int x2), (3, .int x3), (4, .int q.1), (5, .int q.2)] []) (fun q x hf ih ho => ?_)
  obtain ⟨x4, x5⟩ := q
  show V Γ MD_M_df σ0 r (emb τ B R) 6 [(0, va_rf (some B)), (1, .int x1), (2, .int x2), (3, .int x3), (4, .int x4), (5, .int x5)] []
  replace hf : M_df_l6 R x1 x2 x3 x4 x5 = some x := hf
  unfold M_df_l6 at hf
  refine r_iload 5 dX12_df_6 rfl ?_
  refine r_aload_n 0 dX12_df_8 rfl rfl ?_
  refine rr_ldR (c := 17) hB dX12_df_9 fl_RX12_63 rfl rfl (by decide) ?_
  refine r_iload_n 1 dX12_df_12 rfl rfl ?_
  refine rr_raI hf hB dX12_df_13 (by decide) rfl (fun v1 ev1 hf => ?_)
  refine r_icmp_ge 55 hf dX12_df_14 (by decide) (fun c2 hf => ?_) (fun c2 hf => ?_)
  · refine r_sub (L' := [(4, _)]) [4] rfl ?_
    exact hk0 _ (ho _ (Option.some.inj hf).symm)
  · refine r_iload 4 dX12_df_17 rfl ?_
    refine r_aload_n 0 dX12_df_19 rfl rfl ?_
    refine r_aload_n 0 dX12_df_20 rfl rfl ?_
    refine rr_ldR (c := 18) hB dX12_df_21 fl_RX12_66 rfl rfl (by decide) ?_
    refine r_sipush (400 : Int32) dX12_df_24 (by decide) ?_
    refine r_iload_n 1 dX12_df_27 rfl rfl ?_
    refine r_imul dX12_df_28 ?_
    refine r_iload 5 dX12_df_29 rfl ?_
    refine r_iadd dX12_df_31 ?_
    refine rr_raI hf hB dX12_df_32 (by decide) rfl (fun v3 ev3 hf => ?_)
    refine r_iload_n 2 dX12_df_33 rfl rfl ?_
    refine r_iload_n 3 dX12_df_34 rfl rfl ?_
    refine bnd hf (fun v4 ev4 hf => ?_)
    refine r_callVr (ci := 12) rfl dX12_df_35 cs_RX12_327 ww_1416 ww_68 (by decide) (hB.t0 _) (by decide) rfl (rest := [_]) rfl (Or.inl (Nat.le_of_ble_eq_true rfl)) (t_M_tf hB ev4) ?_
    refine r_bd (fun (q5 : Int32) => V Γ MD_M_df σ0 r (emb τ B R) 46 [(0, va_rf (some B)), (1, .int x1), (2, .int x2), (3, .int x3), (5, .int x5)] [.int q5, .int x4]) hf (fun q5 hf => ?_) (fun yq5 hf kq5 => ?_)
    · refine r_iadd dX12_df_46 ?_
      refine r_istore (L' := [(4, _), (0, _), (1, _), (2, _), (3, _), (5, _)]) dX12_df_47 (show 4 < 6 by decide) rfl ?_
      refine r_iinc (1 : Int32) (L' := [(5, _), (4, _), (0, _), (1, _), (2, _), (3, _)]) 5 dX12_df_49 rfl (by decide) (show 5 < 6 by decide) rfl ?_
      refine r_goto 6 dX12_df_52 (by decide) ?_
      refine r_sub (L' := [(0, _), (1, _), (2, _), (3, _), (4, _), (5, _)]) [2, 3, 4, 5, 1, 0] rfl ?_
      exact ih _ (Option.some.inj hf).symm
    · refine r_if_le 45 hf dX12_df_38 (by decide) (fun c6 hf => ?_) (fun c6 hf => ?_)
      · refine r_iconst (0 : Int32) dX12_df_45 (by decide) ?_
        refine r_sub (L' := [(0, _), (1, _), (2, _), (3, _), (5, _)]) [0, 1, 2, 3, 5] rfl ?_
        cases (Option.some.inj hf)
        exact kq5
      · refine r_iconst (1 : Int32) dX12_df_41 (by decide) ?_
        refine r_goto 46 dX12_df_42 (by decide) ?_
        refine r_sub (L' := [(0, _), (1, _), (2, _), (3, _), (5, _)]) [0, 1, 2, 3, 5] rfl ?_
        cases (Option.some.inj hf)
        exact kq5
set_option maxRecDepth 100000 in
set_option maxHeartbeats 4000000 in
theorem t_M_df {Γ : W0} {τ : Mem} {B : Nat} {R : RS} {x1 : Int32} {x2 : Int32} {x3 : Int32} {v : Int32} (hB : RB τ B) (hf : M_df R x1 x2 x3 = some v) : CT Γ MD_M_df yX12_df [va_rf (some B), .int x1, .int x2, .int x3] (emb τ B R) (some (.int v), (emb τ B R)) := by
  refine CT.of (L := [(0, va_rf (some B)), (1, .int x1), (2, .int x2), (3, .int x3)]) rfl (by decide) (fun h => Bool.noConfusion (show false = true from h)) (Nat.le_of_ble_eq_true rfl) rfl ?_
  unfold M_df at hf
  generalize hr : mkR Γ (emb τ B R) (some (.int v)) (emb τ B R) = r
  refine r_iconst (0 : Int32) dX12_df_0 (by decide) ?_
  refine r_istore (L' := [(4, _), (0, _), (1, _), (2, _), (3, _)]) dX12_df_1 (show 4 < 6 by decide) rfl ?_
  refine r_iconst (0 : Int32) dX12_df_3 (by decide) ?_
  refine r_istore (L' := [(5, _), (4, _), (0, _), (1, _), (2, _), (3, _)]) dX12_df_4 (show 5 < 6 by decide) rfl ?_
  refine bnd hf (fun t7 et7 hf => ?_)
  refine r_sub (L' := [(0, _), (1, _), (2, _), (3, _), (4, _), (5, _)]) [2, 3, 4, 5, 1, 0] rfl ?_
  refine x_M_df_l6 hB ?_ _ et7
  · intro z8 hz8
    subst hz8
    refine r_iload 0 dX12_df_55 rfl ?_
    exact r_iret rfl dX12_df_57 (by have h1 := (Option.some.inj hf); subst h1; exact hr.symm)
