/-! methods as functions, with their walks (by program) -/
/-! SearchEngineModel.in -/
noncomputable def M_in (x0 : Int32) (x1 : Int32) (x2 : Int32) : Option Bool :=
  if x0 < x1 then
    some false
  else
    if x2 < x0 then
      some false
    else
      some true
set_option maxRecDepth 100000 in
set_option maxHeartbeats 4000000 in
theorem t_M_in {Γ : W0} {σ : Mem} {x0 : Int32} {x1 : Int32} {x2 : Int32} {v : Bool} (hf : M_in x0 x1 x2 = some v) : CT Γ MD_M_in yX12_in [.int x0, .int x1, .int x2] σ (some (.int (b2i v)), σ) := by
  refine CT.of (L := [(0, .int x0), (1, .int x1), (2, .int x2)]) rfl (by decide) (fun h => Bool.noConfusion (show false = true from h)) (Nat.le_of_ble_eq_true rfl) rfl ?_
  unfold M_in at hf
  generalize hr : mkR Γ σ (some (.int (b2i v))) σ = r
  refine r_iload_n 0 dX12_in_0 rfl rfl ?_
  refine r_iload_n 1 dX12_in_1 rfl rfl ?_
  refine r_icmp_lt 14 hf dX12_in_2 (by decide) (fun c1 hf => ?_) (fun c1 hf => ?_)
  · refine r_iconst (b2i false) dX12_in_14 rfl ?_
    exact r_zret rfl dX12_in_15 (by have h1 := (Option.some.inj hf); subst h1; exact hr.symm)
  · refine r_iload_n 0 dX12_in_5 rfl rfl ?_
    refine r_iload_n 2 dX12_in_6 rfl rfl ?_
    refine r_icmp_gt 14 hf dX12_in_7 (by decide) (fun c2 hf => ?_) (fun c2 hf => ?_)
    · refine r_iconst (b2i false) dX12_in_14 rfl ?_
      exact r_zret rfl dX12_in_15 (by have h1 := (Option.some.inj hf); subst h1; exact hr.symm)
    · refine r_iconst (b2i true) dX12_in_10 rfl ?_
      refine r_goto 15 dX12_in_11 (by decide) ?_
      exact r_zret rfl dX12_in_15 (by have h1 := (Option.some.inj hf); subst h1; exact hr.symm)
/-! SearchEngineModel.isLetter -/
noncomputable def M_isLetter (x0 : Int32) : Option Bool :=
  (M_in x0 (65 : Int32) (90 : Int32)).bind fun v1 =>
  if v1 = true then
    some true
  else
    (M_in x0 (97 : Int32) (122 : Int32)).bind fun v3 =>
    if v3 = true then
      some true
    else
      (M_in x0 (48 : Int32) (57 : Int32)).bind fun v5 =>
      if v5 = true then
        some true
      else
        some false
set_option maxRecDepth 100000 in
set_option maxHeartbeats 4000000 in
theorem t_M_isLetter {Γ : W0} {σ : Mem} {x0 : Int32} {v : Bool} (hf : M_isLetter x0 = some v) : CT Γ MD_M_isLetter yX12_isLetter [.int x0] σ (some (.int (b2i v)), σ) := by
  refine CT.of (L := [(0, .int x0)]) rfl (by decide) (fun h => Bool.noConfusion (show false = true from h)) (Nat.le_of_ble_eq_true rfl) rfl ?_
  unfold M_isLetter at hf
  generalize hr : mkR Γ σ (some (.int (b2i v))) σ = r
  refine r_iload_n 0 dX12_isLetter_0 rfl rfl ?_
  refine r_bipush (65 : Int32) dX12_isLetter_1 (by decide) ?_
  refine r_bipush (90 : Int32) dX12_isLetter_3 (by decide) ?_
  refine bnd hf (fun v1 ev1 hf => ?_)
  refine r_callSr dX12_isLetter_5 cs_RX12_164 ww_1258 (by decide) rfl (rest := []) rfl (Or.inl (Nat.le_of_ble_eq_true rfl)) (t_M_in ev1) ?_
  refine r_ifneZ 33 hf dX12_isLetter_8 (by decide) (fun c2 hf => ?_) (fun c2 hf => ?_)
  · refine r_iconst (b2i true) dX12_isLetter_33 rfl ?_
    refine r_goto 38 dX12_isLetter_34 (by decide) ?_
    exact r_zret rfl dX12_isLetter_38 (by have h1 := (Option.some.inj hf); subst h1; exact hr.symm)
  · refine r_iload_n 0 dX12_isLetter_11 rfl rfl ?_
    refine r_bipush (97 : Int32) dX12_isLetter_12 (by decide) ?_
    refine r_bipush (122 : Int32) dX12_isLetter_14 (by decide) ?_
    refine bnd hf (fun v3 ev3 hf => ?_)
    refine r_callSr dX12_isLetter_16 cs_RX12_164 ww_1258 (by decide) rfl (rest := []) rfl (Or.inl (Nat.le_of_ble_eq_true rfl)) (t_M_in ev3) ?_
    refine r_ifneZ 33 hf dX12_isLetter_19 (by decide) (fun c4 hf => ?_) (fun c4 hf => ?_)
    · refine r_iconst (b2i true) dX12_isLetter_33 rfl ?_
      refine r_goto 38 dX12_isLetter_34 (by decide) ?_
      exact r_zret rfl dX12_isLetter_38 (by have h1 := (Option.some.inj hf); subst h1; exact hr.symm)
    · refine r_iload_n 0 dX12_isLetter_22 rfl rfl ?_
      refine r_bipush (48 : Int32) dX12_isLetter_23 (by decide) ?_
      refine r_bipush (57 : Int32) dX12_isLetter_25 (by decide) ?_
      refine bnd hf (fun v5 ev5 hf => ?_)
      refine r_callSr dX12_isLetter_27 cs_RX12_164 ww_1258 (by decide) rfl (rest := []) rfl (Or.inl (Nat.le_of_ble_eq_true rfl)) (t_M_in ev5) ?_
      refine r_ifeqZ 37 hf dX12_isLetter_30 (by decide) (fun c6 hf => ?_) (fun c6 hf => ?_)
      · refine r_iconst (b2i true) dX12_isLetter_33 rfl ?_
        refine r_goto 38 dX12_isLetter_34 (by decide) ?_
        exact r_zret rfl dX12_isLetter_38 (by have h1 := (Option.some.inj hf); subst h1; exact hr.symm)
      · refine r_iconst (b2i false) dX12_isLetter_37 rfl ?_
        exact r_zret rfl dX12_isLetter_38 (by have h1 := (Option.some.inj hf); subst h1; exact hr.symm)
/-! SearchEngineModel.lower -/
noncomputable def M_lower (x0 : Int32) : Option Int32 :=
  (M_in x0 (65 : Int32) (90 : Int32)).bind fun v1 =>
  if v1 = true then
    some (x0 + (32 : Int32))
  else
    some x0
set_option maxRecDepth 100000 in
set_option maxHeartbeats 4000000 in
theorem t_M_lower {Γ : W0} {σ : Mem} {x0 : Int32} {v : Int32} (hf : M_lower x0 = some v) : CT Γ MD_M_lower yX12_lower [.int x0] σ (some (.int v), σ) := by
  refine CT.of (L := [(0, .int x0)]) rfl (by decide) (fun h => Bool.noConfusion (show false = true from h)) (Nat.le_of_ble_eq_true rfl) rfl ?_
  unfold M_lower at hf
  generalize hr : mkR Γ σ (some (.int v)) σ = r
  refine r_iload_n 0 dX12_lower_0 rfl rfl ?_
  refine r_bipush (65 : Int32) dX12_lower_1 (by decide) ?_
  refine r_bipush (90 : Int32) dX12_lower_3 (by decide) ?_
  refine bnd hf (fun v1 ev1 hf => ?_)
  refine r_callSr dX12_lower_5 cs_RX12_164 ww_1258 (by decide) rfl (rest := []) rfl (Or.inl (Nat.le_of_ble_eq_true rfl)) (t_M_in ev1) ?_
  refine r_ifeqZ 18 hf dX12_lower_8 (by decide) (fun c2 hf => ?_) (fun c2 hf => ?_)
  · refine r_iload_n 0 dX12_lower_11 rfl rfl ?_
    refine r_bipush (32 : Int32) dX12_lower_12 (by decide) ?_
    refine r_iadd dX12_lower_14 ?_
    refine r_goto 19 dX12_lower_15 (by decide) ?_
    exact r_iret rfl dX12_lower_19 (by have h1 := (Option.some.inj hf); subst h1; exact hr.symm)
  · refine r_iload_n 0 dX12_lower_18 rfl rfl ?_
    exact r_iret rfl dX12_lower_19 (by have h1 := (Option.some.inj hf); subst h1; exact hr.symm)
/-! SearchEngineModel.feed -/
noncomputable def M_feed_l33 (R : RS) (x1 : Int64) (x3 : Int64) (x5 : Int32) (x6 : Int32) : Option ((Int32 × RS) ⊕ RS) :=
  if x5 ≤ x6 then
    some (Sum.inr R)
  else
    Option.bind (
      if (8 : Int32) ≤ x6 then
        some (shrL x3 ((120 : Int32) - ((8 : Int32) * x6)))
      else
        some (shrL x1 ((56 : Int32) - ((8 : Int32) * x6)))) fun q5 =>
    (wrI R 1 600 (R.1 0 3) (q5.toInt32 &&& (255 : Int32))).bind fun R7 =>
    (some (pI R7 3 ((R7.1 0 3) + (1 : Int32)))).bind fun R8 =>
    some (Sum.inl ((x6 + (1 : Int32)), R8))
noncomputable def M_feed (R : RS) (x1 : Int64) (x3 : Int64) (x5 : Int32) : Option (Int32 × RS) :=
  (M_in x5 (1 : Int32) (16 : Int32)).bind fun v1 =>
  if v1 = true then
    if ((R.1 0 3) + x5) ≤ (600 : Int32) then
      (lp (fun q => M_feed_l33 q.2 x1 x3 x5 q.1) ((0 : Int32), R)).bind fun z10 =>
      some ((z10.1 0 3), z10)
    else
      some ((-3 : Int32), R)
  else
    some ((-2 : Int32), R)
set_option maxRecDepth 100000 in
set_option maxHeartbeats 4000000 in
theorem x_M_feed_l33 {Γ : W0} {σ0 : Mem} {r : RT} {τ : Mem} {B : Nat} {x1 : Int64} {x3 : Int64} {x5 : Int32} {t : RS} (hB : RB τ B) (hk0 : ∀ z : RS, z = t → V Γ MD_M_feed σ0 r (emb τ B z) 100 [(0, va_rf (some B))] []) : ∀ q : Int32 × RS, lp (fun q => M_feed_l33 q.2 x1 x3 x5 q.1) q = some t → V Γ MD_M_feed σ0 r (emb τ B q.2) 33 [(0, va_rf (some B)), (1, .long x1), (3, .long x3), (5, .int x5), (6, .int q.1)] [] := by
  refine lp_ind (fun (q : Int32 × RS) => V Γ MD_M_feed σ0 r (emb τ B q.2) 33 [(0, va_rf (some B)), (1, .long x1), (3, .long x3), (5, .int x5), (6, .int q.1)] []) (fun q x hf ih ho => ?_)
  obtain ⟨x6, R⟩ := q
  show V Γ MD_M_feed σ0 r (emb τ B R) 33 [(0, va_rf (some B)), (1, .long x1), (3, .long x3), (5, .int x5), (6, .int x6)] []
  replace hf : M_feed_l33 R x1 x3 x5 x6 = some x := hf
  unfold M_feed_l33 at hf
  refine r_iload 4 dX12_feed_33 rfl ?_
  refine r_iload 3 dX12_feed_35 rfl ?_
  refine r_icmp_ge 100 hf dX12_feed_37 (by decide) (fun c4 hf => ?_) (fun c4 hf => ?_)
  · refine r_sub (L' := [(0, _)]) [0] rfl ?_
    exact hk0 _ (ho _ (Option.some.inj hf).symm)
  · refine r_aload_n 0 dX12_feed_40 rfl rfl ?_
    refine rr_ldR (c := 1) hB dX12_feed_41 fl_RX12_7 rfl rfl (by decide) ?_
    refine r_aload_n 0 dX12_feed_44 rfl rfl ?_
    refine rr_ldI (k := 3) hB dX12_feed_45 fl_RX12_168 rfl ?_
    refine r_iload 4 dX12_feed_48 rfl ?_
    refine r_bipush (8 : Int32) dX12_feed_50 (by decide) ?_
    refine r_bd (fun (q5 : Int64) => V Γ MD_M_feed σ0 r (emb τ B R) 78 [(0, va_rf (some B)), (1, .long x1), (3, .long x3), (5, .int x5), (6, .int x6)] [.long q5, .int (R.1 0 3), va_rf (some (B + 1))]) hf (fun q5 hf => ?_) (fun yq5 hf kq5 => ?_)
    · refine r_l2i dX12_feed_78 ?_
      refine r_sipush (255 : Int32) dX12_feed_79 (by decide) ?_
      refine r_iand dX12_feed_82 ?_
      refine rr_waI hf hB dX12_feed_83 (by decide) rfl (fun R7 eR7 hf => ?_)
      refine r_aload_n 0 dX12_feed_84 rfl rfl ?_
      refine r_dup dX12_feed_85 (cat_rf _) ?_
      refine rr_ldI (k := 3) hB dX12_feed_86 fl_RX12_168 rfl ?_
      refine r_iconst (1 : Int32) dX12_feed_89 (by decide) ?_
      refine r_iadd dX12_feed_90 ?_
      refine rr_stI hf hB dX12_feed_91 fl_RX12_168 rfl rfl rfl (fun R8 eR8 hf => ?_)
      refine r_iinc (1 : Int32) (L' := [(6, _), (0, _), (1, _), (3, _), (5, _)]) 4 dX12_feed_94 rfl (by decide) (show 6 < 7 by decide) rfl ?_
      refine r_goto 33 dX12_feed_97 (by decide) ?_
      refine r_sub (L' := [(0, _), (1, _), (3, _), (5, _), (6, _)]) [1, 2, 3, 4, 0] rfl ?_
      exact ih _ (Option.some.inj hf).symm
    · refine r_icmp_ge 68 hf dX12_feed_52 (by decide) (fun c6 hf => ?_) (fun c6 hf => ?_)
      · refine r_lload_n 2 dX12_feed_68 rfl rfl ?_
        refine r_bipush (120 : Int32) dX12_feed_69 (by decide) ?_
        refine r_bipush (8 : Int32) dX12_feed_71 (by decide) ?_
        refine r_iload 4 dX12_feed_73 rfl ?_
        refine r_imul dX12_feed_75 ?_
        refine r_isub dX12_feed_76 ?_
        refine r_lshr dX12_feed_77 ?_
        refine r_sub (L' := [(0, _), (1, _), (3, _), (5, _), (6, _)]) [0, 1, 2, 3, 4] rfl ?_
        cases (Option.some.inj hf)
        exact kq5
      · refine r_lload_n 1 dX12_feed_55 rfl rfl ?_
        refine r_bipush (56 : Int32) dX12_feed_56 (by decide) ?_
        refine r_bipush (8 : Int32) dX12_feed_58 (by decide) ?_
        refine r_iload 4 dX12_feed_60 rfl ?_
        refine r_imul dX12_feed_62 ?_
        refine r_isub dX12_feed_63 ?_
        refine r_lshr dX12_feed_64 ?_
        refine r_goto 78 dX12_feed_65 (by decide) ?_
        refine r_sub (L' := [(0, _), (1, _), (3, _), (5, _), (6, _)]) [0, 1, 2, 3, 4] rfl ?_
        cases (Option.some.inj hf)
        exact kq5
set_option maxRecDepth 100000 in
set_option maxHeartbeats 4000000 in
theorem t_M_feed {Γ : W0} {τ : Mem} {B : Nat} {R : RS} {x1 : Int64} {x3 : Int64} {x5 : Int32} {v : Int32} {R' : RS} (hB : RB τ B) (hf : M_feed R x1 x3 x5 = some (v, R')) : CT Γ MD_M_feed yX12_feed [va_rf (some B), .long x1, .long x3, .int x5] (emb τ B R) (some (.int v), (emb τ B R')) := by
  refine CT.of (L := [(0, va_rf (some B)), (1, .long x1), (3, .long x3), (5, .int x5)]) rfl (by decide) (fun h => Bool.noConfusion (show false = true from h)) (Nat.le_of_ble_eq_true rfl) rfl ?_
  unfold M_feed at hf
  generalize hr : mkR Γ (emb τ B R) (some (.int v)) (emb τ B R') = r
  refine r_iload 3 dX12_feed_0 rfl ?_
  refine r_iconst (1 : Int32) dX12_feed_2 (by decide) ?_
  refine r_bipush (16 : Int32) dX12_feed_3 (by decide) ?_
  refine bnd hf (fun v1 ev1 hf => ?_)
  refine r_callSr dX12_feed_5 cs_RX12_164 ww_1258 (by decide) rfl (rest := []) rfl (Or.inl (Nat.le_of_ble_eq_true rfl)) (t_M_in ev1) ?_
  refine r_ifneZ 14 hf dX12_feed_8 (by decide) (fun c2 hf => ?_) (fun c2 hf => ?_)
  · refine r_aload_n 0 dX12_feed_14 rfl rfl ?_
    refine rr_ldI (k := 3) hB dX12_feed_15 fl_RX12_168 rfl ?_
    refine r_iload 3 dX12_feed_18 rfl ?_
    refine r_iadd dX12_feed_20 ?_
    refine r_sipush (600 : Int32) dX12_feed_21 (by decide) ?_
    refine r_icmp_le 30 hf dX12_feed_24 (by decide) (fun c3 hf => ?_) (fun c3 hf => ?_)
    · refine r_iconst (0 : Int32) dX12_feed_30 (by decide) ?_
      refine r_istore (L' := [(6, _), (0, _), (1, _), (3, _), (5, _)]) dX12_feed_31 (show 6 < 7 by decide) rfl ?_
      refine bnd hf (fun t9 et9 hf => ?_)
      refine r_sub (L' := [(0, _), (1, _), (3, _), (5, _), (6, _)]) [1, 2, 3, 4, 0] rfl ?_
      refine x_M_feed_l33 hB ?_ _ et9
      · intro z10 hz10
        subst hz10
        refine r_aload_n 0 dX12_feed_100 rfl rfl ?_
        refine rr_ldI (k := 3) hB dX12_feed_101 fl_RX12_168 rfl ?_
        exact r_iret rfl dX12_feed_104 (by obtain ⟨h1, h2⟩ := Prod.mk.inj (Option.some.inj hf); subst h1; subst h2; exact hr.symm)
    · refine r_bipush (-3 : Int32) dX12_feed_27 (by decide) ?_
      exact r_iret rfl dX12_feed_29 (by obtain ⟨h1, h2⟩ := Prod.mk.inj (Option.some.inj hf); subst h1; subst h2; exact hr.symm)
  · refine r_bipush (-2 : Int32) dX12_feed_11 (by decide) ?_
    exact r_iret rfl dX12_feed_13 (by obtain ⟨h1, h2⟩ := Prod.mk.inj (Option.some.inj hf); subst h1; subst h2; exact hr.symm)
/-! SearchEngineModel.small -/
noncomputable def M_small_l18 (R : RS) (x1 : Int32) (x3 : Int32) : Option ((Int32 × RS) ⊕ RS) :=
  if (R.1 0 38) ≤ x3 then
    some (Sum.inr R)
  else
    (rdI R 1 600 (x1 + x3)).bind fun v5 =>
    (M_lower v5).bind fun v6 =>
    (wrI R 27 12 x3 v6).bind fun R7 =>
    some (Sum.inl ((x3 + (1 : Int32)), R7))
noncomputable def M_small (R : RS) (x1 : Int32) (x2 : Int32) : Option RS :=
  Option.bind (
    if x2 ≤ (12 : Int32) then
      some x2
    else
      some (12 : Int32)) fun q1 =>
  (some (pI R 38 q1)).bind fun R3 =>
  (lp (fun q => M_small_l18 q.2 x1 q.1) ((0 : Int32), R3)).bind fun z9 =>
  some z9
set_option maxRecDepth 100000 in
set_option maxHeartbeats 4000000 in
theorem x_M_small_l18 {Γ : W0} {σ0 : Mem} {r : RT} {τ : Mem} {B : Nat} {x1 : Int32} {t : RS} (hB : RB τ B) (hk0 : ∀ z : RS, z = t → V Γ MD_M_small σ0 r (emb τ B z) 49 [] []) : ∀ q : Int32 × RS, lp (fun q => M_small_l18 q.2 x1 q.1) q = some t → V Γ MD_M_small σ0 r (emb τ B q.2) 18 [(0, va_rf (some B)), (1, .int x1), (3, .int q.1)] [] := by
  refine lp_ind (fun (q : Int32 × RS) => V Γ MD_M_small σ0 r (emb τ B q.2) 18 [(0, va_rf (some B)), (1, .int x1), (3, .int q.1)] []) (fun q x hf ih ho => ?_)
  obtain ⟨x3, R⟩ := q
  show V Γ MD_M_small σ0 r (emb τ B R) 18 [(0, va_rf (some B)), (1, .int x1), (3, .int x3)] []
  replace hf : M_small_l18 R x1 x3 = some x := hf
  unfold M_small_l18 at hf
  refine r_iload_n 2 dX12_small_18 rfl rfl ?_
  refine r_aload_n 0 dX12_small_19 rfl rfl ?_
  refine rr_ldI (k := 38) hB dX12_small_20 fl_RX12_171 rfl ?_
  refine r_icmp_ge 49 hf dX12_small_23 (by decide) (fun c4 hf => ?_) (fun c4 hf => ?_)
  · refine r_sub (L' := []) [] rfl ?_
    exact hk0 _ (ho _ (Option.some.inj hf).symm)
  · refine r_aload_n 0 dX12_small_26 rfl rfl ?_
    refine rr_ldR (c := 27) hB dX12_small_27 fl_RX12_100 rfl rfl (by decide) ?_
    refine r_iload_n 2 dX12_small_30 rfl rfl ?_
    refine r_aload_n 0 dX12_small_31 rfl rfl ?_
    refine rr_ldR (c := 1) hB dX12_small_32 fl_RX12_7 rfl rfl (by decide) ?_
    refine r_iload_n 1 dX12_small_35 rfl rfl ?_
    refine r_iload_n 2 dX12_small_36 rfl rfl ?_
    refine r_iadd dX12_small_37 ?_
    refine rr_raI hf hB dX12_small_38 (by decide) rfl (fun v5 ev5 hf => ?_)
    refine bnd hf (fun v6 ev6 hf => ?_)
    refine r_callSr dX12_small_39 cs_RX12_174 ww_1287 (by decide) rfl (rest := [_, _]) rfl (Or.inl (Nat.le_of_ble_eq_true rfl)) (t_M_lower ev6) ?_
    refine rr_waI hf hB dX12_small_42 (by decide) rfl (fun R7 eR7 hf => ?_)
    refine r_iinc (1 : Int32) (L' := [(3, _), (0, _), (1, _)]) 2 dX12_small_43 rfl (by decide) (show 3 < 4 by decide) rfl ?_
    refine r_goto 18 dX12_small_46 (by decide) ?_
    refine r_sub (L' := [(0, _), (1, _), (3, _)]) [1, 2, 0] rfl ?_
    exact ih _ (Option.some.inj hf).symm
set_option maxRecDepth 100000 in
set_option maxHeartbeats 4000000 in
theorem t_M_small {Γ : W0} {τ : Mem} {B : Nat} {R : RS} {x1 : Int32} {x2 : Int32} {R' : RS} (hB : RB τ B) (hf : M_small R x1 x2 = some R') : CT Γ MD_M_small yX12_small [va_rf (some B), .int x1, .int x2] (emb τ B R) (none, (emb τ B R')) := by
  refine CT.of (L := [(0, va_rf (some B)), (1, .int x1), (2, .int x2)]) rfl (by decide) (fun h => Bool.noConfusion (show false = true from h)) (Nat.le_of_ble_eq_true rfl) rfl ?_
  unfold M_small at hf
  generalize hr : mkR Γ (emb τ B R) (none) (emb τ B R') = r
  refine r_aload_n 0 dX12_small_0 rfl rfl ?_
  refine r_iload_n 2 dX12_small_1 rfl rfl ?_
  refine r_bipush (12 : Int32) dX12_small_2 (by decide) ?_
  refine r_bd (fun (q1 : Int32) => V Γ MD_M_small (emb τ B R) r (emb τ B R) 13 [(0, va_rf (some B)), (1, .int x1)] [.int q1, va_rf (some B)]) hf (fun q1 hf => ?_) (fun yq1 hf kq1 => ?_)
  · refine rr_stI hf hB dX12_small_13 fl_RX12_171 rfl rfl rfl (fun R3 eR3 hf => ?_)
    refine r_iconst (0 : Int32) dX12_small_16 (by decide) ?_
    refine r_istore_n (L' := [(3, _), (0, _), (1, _)]) dX12_small_17 rfl (show 3 < 4 by decide) rfl ?_
    refine bnd hf (fun t8 et8 hf => ?_)
    refine r_sub (L' := [(0, _), (1, _), (3, _)]) [1, 2, 0] rfl ?_
    refine x_M_small_l18 hB ?_ _ et8
    · intro z9 hz9
      subst hz9
      exact r_vret rfl dX12_small_49 (by have h1 := (Option.some.inj hf); subst h1; exact hr.symm)
  · refine r_icmp_le 12 hf dX12_small_4 (by decide) (fun c2 hf => ?_) (fun c2 hf => ?_)
    · refine r_iload_n 2 dX12_small_12 rfl rfl ?_
      refine r_sub (L' := [(0, _), (1, _)]) [0, 1] rfl ?_
      cases (Option.some.inj hf)
      exact kq1
    · refine r_bipush (12 : Int32) dX12_small_7 (by decide) ?_
      refine r_goto 13 dX12_small_9 (by decide) ?_
      refine r_sub (L' := [(0, _), (1, _)]) [0, 1] rfl ?_
      cases (Option.some.inj hf)
      exact kq1
/-! SearchEngineModel.isTerm -/
noncomputable def M_isTerm (R : RS) (x1 : Int32) (x2 : Int32) (x3 : Int32) : Option Bool :=
  Option.bind (
    if x3 ≤ 0 then
      if x2 ≤ 0 then
        some (1 : Int32)
      else
        some (2 : Int32)
    else
      some (3 : Int32)) fun q1 =>
  if ¬ (R.1 0 38) = q1 then
    some false
  else
    (rdI R 27 12 (0 : Int32)).bind fun v5 =>
    if ¬ v5 = x1 then
      some false
    else
      jn (
        if q1 < (2 : Int32) then
          some (Sum.inr ())
        else
          (rdI R 27 12 (1 : Int32)).bind fun v9 =>
          if ¬ v9 = x2 then
            some (Sum.inl false)
          else
            some (Sum.inr ())) fun q7 =>
      if q1 < (3 : Int32) then
        some true
      else
        (rdI R 27 12 (2 : Int32)).bind fun v12 =>
        if ¬ v12 = x3 then
          some false
        else
          some true
set_option maxRecDepth 100000 in
set_option maxHeartbeats 4000000 in
theorem t_M_isTerm {Γ : W0} {τ : Mem} {B : Nat} {R : RS} {x1 : Int32} {x2 : Int32} {x3 : Int32} {v : Bool} (hB : RB τ B) (hf : M_isTerm R x1 x2 x3 = some v) : CT Γ MD_M_isTerm yX12_isTerm [va_rf (some B), .int x1, .int x2, .int x3] (emb τ B R) (some (.int (b2i v)), (emb τ B R)) := by
  refine CT.of (L := [(0, va_rf (some B)), (1, .int x1), (2, .int x2), (3, .int x3)]) rfl (by decide) (fun h => Bool.noConfusion (show false = true from h)) (Nat.le_of_ble_eq_true rfl) rfl ?_
  unfold M_isTerm at hf
  generalize hr : mkR Γ (emb τ B R) (some (.int (b2i v))) (emb τ B R) = r
  refine r_iload_n 3 dX12_isTerm_0 rfl rfl ?_
  refine r_bd (fun (q1 : Int32) => V Γ MD_M_isTerm (emb τ B R) r (emb τ B R) 17 [(0, va_rf (some B)), (1, .int x1), (2, .int x2), (3, .int x3)] [.int q1]) hf (fun q1 hf => ?_) (fun yq1 hf kq1 => ?_)
  · refine r_istore (L' := [(4, _), (0, _), (1, _), (2, _), (3, _)]) dX12_isTerm_17 (show 4 < 5 by decide) rfl ?_
    refine r_aload_n 1 dX12_isTerm_19 rfl rfl ?_
    refine rr_ldI (k := 38) hB dX12_isTerm_20 fl_RX12_171 rfl ?_
    refine r_iload 0 dX12_isTerm_23 rfl ?_
    refine r_icmp_ne 74 hf dX12_isTerm_25 (by decide) (fun c4 hf => ?_) (fun c4 hf => ?_)
    · refine r_iconst (b2i false) dX12_isTerm_74 rfl ?_
      exact r_zret rfl dX12_isTerm_75 (by have h1 := (Option.some.inj hf); subst h1; exact hr.symm)
    · refine r_aload_n 1 dX12_isTerm_28 rfl rfl ?_
      refine rr_ldR (c := 27) hB dX12_isTerm_29 fl_RX12_100 rfl rfl (by decide) ?_
      refine r_iconst (0 : Int32) dX12_isTerm_32 (by decide) ?_
      refine rr_raI hf hB dX12_isTerm_33 (by decide) rfl (fun v5 ev5 hf => ?_)
      refine r_iload_n 2 dX12_isTerm_34 rfl rfl ?_
      refine r_icmp_ne 74 hf dX12_isTerm_35 (by decide) (fun c6 hf => ?_) (fun c6 hf => ?_)
      · refine r_iconst (b2i false) dX12_isTerm_74 rfl ?_
        exact r_zret rfl dX12_isTerm_75 (by have h1 := (Option.some.inj hf); subst h1; exact hr.symm)
      · refine r_iload 0 dX12_isTerm_38 rfl ?_
        refine r_iconst (2 : Int32) dX12_isTerm_40 (by decide) ?_
        refine r_jn (fun (q7 : Unit) => V Γ MD_M_isTerm (emb τ B R) r (emb τ B R) 54 [(0, va_rf (some B)), (3, .int x3), (4, .int q1)] []) hf (fun q7 hf => ?_) (fun yq7 hf oq7 kq7 => ?_)
        · refine r_iload 2 dX12_isTerm_54 rfl ?_
          refine r_iconst (3 : Int32) dX12_isTerm_56 (by decide) ?_
          refine r_icmp_lt 70 hf dX12_isTerm_57 (by decide) (fun c11 hf => ?_) (fun c11 hf => ?_)
          · refine r_iconst (b2i true) dX12_isTerm_70 rfl ?_
            refine r_goto 75 dX12_isTerm_71 (by decide) ?_
            exact r_zret rfl dX12_isTerm_75 (by have h1 := (Option.some.inj hf); subst h1; exact hr.symm)
          · refine r_aload_n 0 dX12_isTerm_60 rfl rfl ?_
            refine rr_ldR (c := 27) hB dX12_isTerm_61 fl_RX12_100 rfl rfl (by decide) ?_
            refine r_iconst (2 : Int32) dX12_isTerm_64 (by decide) ?_
            refine rr_raI hf hB dX12_isTerm_65 (by decide) rfl (fun v12 ev12 hf => ?_)
            refine r_iload_n 1 dX12_isTerm_66 rfl rfl ?_
            refine r_icmp_ne 74 hf dX12_isTerm_67 (by decide) (fun c13 hf => ?_) (fun c13 hf => ?_)
            · refine r_iconst (b2i false) dX12_isTerm_74 rfl ?_
              exact r_zret rfl dX12_isTerm_75 (by have h1 := (Option.some.inj hf); subst h1; exact hr.symm)
            · refine r_iconst (b2i true) dX12_isTerm_70 rfl ?_
              refine r_goto 75 dX12_isTerm_71 (by decide) ?_
              exact r_zret rfl dX12_isTerm_75 (by have h1 := (Option.some.inj hf); subst h1; exact hr.symm)
        · refine r_icmp_lt 54 hf dX12_isTerm_41 (by decide) (fun c8 hf => ?_) (fun c8 hf => ?_)
          · refine r_sub (L' := [(0, _), (3, _), (4, _)]) [1, 4, 0] rfl ?_
            exact kq7 _ (Option.some.inj hf).symm
          · refine r_aload_n 1 dX12_isTerm_44 rfl rfl ?_
            refine rr_ldR (c := 27) hB dX12_isTerm_45 fl_RX12_100 rfl rfl (by decide) ?_
            refine r_iconst (1 : Int32) dX12_isTerm_48 (by decide) ?_
            refine rr_raI hf hB dX12_isTerm_49 (by decide) rfl (fun v9 ev9 hf => ?_)
            refine r_iload_n 3 dX12_isTerm_50 rfl rfl ?_
            refine r_icmp_ne 74 hf dX12_isTerm_51 (by decide) (fun c10 hf => ?_) (fun c10 hf => ?_)
            · refine r_iconst (b2i false) dX12_isTerm_74 rfl ?_
              exact r_zret rfl dX12_isTerm_75 (by have h1 := (oq7 _ (Option.some.inj hf).symm); subst h1; exact hr.symm)
            · refine r_sub (L' := [(0, _), (3, _), (4, _)]) [1, 4, 0] rfl ?_
              exact kq7 _ (Option.some.inj hf).symm
  · refine r_if_le 8 hf dX12_isTerm_1 (by decide) (fun c2 hf => ?_) (fun c2 hf => ?_)
    · refine r_iload_n 2 dX12_isTerm_8 rfl rfl ?_
      refine r_if_le 16 hf dX12_isTerm_9 (by decide) (fun c3 hf => ?_) (fun c3 hf => ?_)
      · refine r_iconst (1 : Int32) dX12_isTerm_16 (by decide) ?_
        refine r_sub (L' := [(0, _), (1, _), (2, _), (3, _)]) [0, 1, 2, 3] rfl ?_
        cases (Option.some.inj hf)
        exact kq1
      · refine r_iconst (2 : Int32) dX12_isTerm_12 (by decide) ?_
        refine r_goto 17 dX12_isTerm_13 (by decide) ?_
        refine r_sub (L' := [(0, _), (1, _), (2, _), (3, _)]) [0, 1, 2, 3] rfl ?_
        cases (Option.some.inj hf)
        exact kq1
    · refine r_iconst (3 : Int32) dX12_isTerm_4 (by decide) ?_
      refine r_goto 17 dX12_isTerm_5 (by decide) ?_
      refine r_sub (L' := [(0, _), (1, _), (2, _), (3, _)]) [0, 1, 2, 3] rfl ?_
      cases (Option.some.inj hf)
      exact kq1
/-! SearchEngineModel.makeTerm -/
noncomputable def M_makeTerm (R : RS) (x1 : Int32) (x2 : Int32) : Option RS :=
  (M_small R x1 x2).bind fun v1 =>
  Option.bind (
    if (v1.2.2 0 0) = true then
      if (v1.1 0 38) < (4 : Int32) then
        some v1
      else
        (rdI v1 27 12 ((v1.1 0 38) - (1 : Int32))).bind fun v5 =>
        if ¬ v5 = (115 : Int32) then
          some v1
        else
          (rdI v1 27 12 ((v1.1 0 38) - (2 : Int32))).bind fun v7 =>
          if v7 = (115 : Int32) then
            some v1
          else
            (some (pI v1 38 ((v1.1 0 38) - (1 : Int32)))).bind fun R9 =>
            some R9
    else
      some v1) fun q2 =>
  if (q2.2.2 0 1) = true then
    (M_isTerm q2 (97 : Int32) (0 : Int32) (0 : Int32)).bind fun v11 =>
    Option.bind (
      if v11 = true then
        some (1 : Int32)
      else
        (M_isTerm q2 (97 : Int32) (110 : Int32) (0 : Int32)).bind fun v14 =>
        if v14 = true then
          some (1 : Int32)
        else
          (M_isTerm q2 (97 : Int32) (110 : Int32) (100 : Int32)).bind fun v16 =>
          if v16 = true then
            some (1 : Int32)
          else
            (M_isTerm q2 (105 : Int32) (110 : Int32) (0 : Int32)).bind fun v18 =>
            if v18 = true then
              some (1 : Int32)
            else
              (M_isTerm q2 (105 : Int32) (115 : Int32) (0 : Int32)).bind fun v20 =>
              if v20 = true then
                some (1 : Int32)
              else
                (M_isTerm q2 (105 : Int32) (116 : Int32) (0 : Int32)).bind fun v22 =>
                if v22 = true then
                  some (1 : Int32)
                else
                  some (0 : Int32)) fun q12 =>
    Option.bind (
      if ¬ q12 = 0 then
        some (1 : Int32)
      else
        (M_isTerm q2 (111 : Int32) (102 : Int32) (0 : Int32)).bind fun v26 =>
        if v26 = true then
          some (1 : Int32)
        else
          (M_isTerm q2 (111 : Int32) (110 : Int32) (0 : Int32)).bind fun v28 =>
          if v28 = true then
            some (1 : Int32)
          else
            (M_isTerm q2 (111 : Int32) (114 : Int32) (0 : Int32)).bind fun v30 =>
            if v30 = true then
              some (1 : Int32)
            else
              (M_isTerm q2 (116 : Int32) (104 : Int32) (101 : Int32)).bind fun v32 =>
              if v32 = true then
                some (1 : Int32)
              else
                (M_isTerm q2 (116 : Int32) (111 : Int32) (0 : Int32)).bind fun v34 =>
                if v34 = true then
                  some (1 : Int32)
                else
                  some (0 : Int32)) fun q24 =>
    if q24 = 0 then
      some q2
    else
      (some (pI q2 38 (0 : Int32))).bind fun R37 =>
      some R37
  else
    some q2
set_option maxRecDepth 100000 in
set_option maxHeartbeats 4000000 in
theorem t_M_makeTerm {Γ : W0} {τ : Mem} {B : Nat} {R : RS} {x1 : Int32} {x2 : Int32} {R' : RS} (hB : RB τ B) (hf : M_makeTerm R x1 x2 = some R') : CT Γ MD_M_makeTerm yX12_makeTerm [va_rf (some B), .int x1, .int x2] (emb τ B R) (none, (emb τ B R')) := by
  refine CT.of (L := [(0, va_rf (some B)), (1, .int x1), (2, .int x2)]) rfl (by decide) (fun h => Bool.noConfusion (show false = true from h)) (Nat.le_of_ble_eq_true rfl) rfl ?_
  unfold M_makeTerm at hf
  generalize hr : mkR Γ (emb τ B R) (none) (emb τ B R') = r
  refine r_aload_n 0 dX12_makeTerm_0 rfl rfl ?_
  refine r_iload_n 1 dX12_makeTerm_1 rfl rfl ?_
  refine r_iload_n 2 dX12_makeTerm_2 rfl rfl ?_
  refine bnd hf (fun v1 ev1 hf => ?_)
  refine r_callVv (ci := 12) rfl dX12_makeTerm_3 cs_RX12_178 ww_1284 ww_41 (by decide) (hB.t0 _) (by decide) rfl (rest := []) rfl (Or.inl (Nat.le_of_ble_eq_true rfl)) (t_M_small hB ev1) ?_
  refine r_aload_n 0 dX12_makeTerm_6 rfl rfl ?_
  refine rr_ldB (k := 0) hB dX12_makeTerm_7 fl_RX12_157 rfl ?_
  refine r_bd (fun (q2 : RS) => V Γ MD_M_makeTerm (emb τ B R) r (emb τ B q2) 63 [(0, va_rf (some B))] []) hf (fun q2 hf => ?_) (fun yq2 hf kq2 => ?_)
  · refine r_aload_n 0 dX12_makeTerm_63 rfl rfl ?_
    refine rr_ldB (k := 1) hB dX12_makeTerm_64 fl_RX12_161 rfl ?_
    refine r_ifneZ 71 hf dX12_makeTerm_67 (by decide) (fun c10 hf => ?_) (fun c10 hf => ?_)
    · refine r_aload_n 0 dX12_makeTerm_71 rfl rfl ?_
      refine r_bipush (97 : Int32) dX12_makeTerm_72 (by decide) ?_
      refine r_iconst (0 : Int32) dX12_makeTerm_74 (by decide) ?_
      refine r_iconst (0 : Int32) dX12_makeTerm_75 (by decide) ?_
      refine bnd hf (fun v11 ev11 hf => ?_)
      refine r_callVr (ci := 12) rfl dX12_makeTerm_76 cs_RX12_182 ww_1291 ww_42 (by decide) (hB.t0 _) (by decide) rfl (rest := []) rfl (Or.inl (Nat.le_of_ble_eq_true rfl)) (t_M_isTerm hB ev11) ?_
      refine r_bd (fun (q12 : Int32) => V Γ MD_M_makeTerm (emb τ B R) r (emb τ B q2) 148 [(0, va_rf (some B))] [.int q12]) hf (fun q12 hf => ?_) (fun yq12 hf kq12 => ?_)
      · refine r_istore_n (L' := [(3, _), (0, _)]) dX12_makeTerm_148 rfl (show 3 < 4 by decide) rfl ?_
        refine r_iload_n 0 dX12_makeTerm_149 rfl rfl ?_
        refine r_bd (fun (q24 : Int32) => V Γ MD_M_makeTerm (emb τ B R) r (emb τ B q2) 219 [(0, va_rf (some B))] [.int q24]) hf (fun q24 hf => ?_) (fun yq24 hf kq24 => ?_)
        · refine r_istore_n (L' := [(3, _), (0, _)]) dX12_makeTerm_219 rfl (show 3 < 4 by decide) rfl ?_
          refine r_iload_n 0 dX12_makeTerm_220 rfl rfl ?_
          refine r_if_eq 229 hf dX12_makeTerm_221 (by decide) (fun c36 hf => ?_) (fun c36 hf => ?_)
          · exact r_vret rfl dX12_makeTerm_229 (by have h1 := (Option.some.inj hf); subst h1; exact hr.symm)
          · refine r_aload_n 1 dX12_makeTerm_224 rfl rfl ?_
            refine r_iconst (0 : Int32) dX12_makeTerm_225 (by decide) ?_
            refine rr_stI hf hB dX12_makeTerm_226 fl_RX12_171 rfl rfl rfl (fun R37 eR37 hf => ?_)
            exact r_vret rfl dX12_makeTerm_229 (by have h1 := (Option.some.inj hf); subst h1; exact hr.symm)
        · refine r_if_ne 214 hf dX12_makeTerm_150 (by decide) (fun c25 hf => ?_) (fun c25 hf => ?_)
          · refine r_iconst (1 : Int32) dX12_makeTerm_214 (by decide) ?_
            refine r_goto 219 dX12_makeTerm_215 (by decide) ?_
            refine r_sub (L' := [(0, _)]) [1] rfl ?_
            cases (Option.some.inj hf)
            exact kq24
          · refine r_aload_n 1 dX12_makeTerm_153 rfl rfl ?_
            refine r_bipush (111 : Int32) dX12_makeTerm_154 (by decide) ?_
            refine r_bipush (102 : Int32) dX12_makeTerm_156 (by decide) ?_
            refine r_iconst (0 : Int32) dX12_makeTerm_158 (by decide) ?_
            refine bnd hf (fun v26 ev26 hf => ?_)
            refine r_callVr (ci := 12) rfl dX12_makeTerm_159 cs_RX12_182 ww_1291 ww_42 (by decide) (hB.t0 _) (by decide) rfl (rest := []) rfl (Or.inl (Nat.le_of_ble_eq_true rfl)) (t_M_isTerm hB ev26) ?_
            refine r_ifneZ 214 hf dX12_makeTerm_162 (by decide) (fun c27 hf => ?_) (fun c27 hf => ?_)
            · refine r_iconst (1 : Int32) dX12_makeTerm_214 (by decide) ?_
              refine r_goto 219 dX12_makeTerm_215 (by decide) ?_
              refine r_sub (L' := [(0, _)]) [1] rfl ?_
              cases (Option.some.inj hf)
              exact kq24
            · refine r_aload_n 1 dX12_makeTerm_165 rfl rfl ?_
              refine r_bipush (111 : Int32) dX12_makeTerm_166 (by decide) ?_
              refine r_bipush (110 : Int32) dX12_makeTerm_168 (by decide) ?_
              refine r_iconst (0 : Int32) dX12_makeTerm_170 (by decide) ?_
              refine bnd hf (fun v28 ev28 hf => ?_)
              refine r_callVr (ci := 12) rfl dX12_makeTerm_171 cs_RX12_182 ww_1291 ww_42 (by decide) (hB.t0 _) (by decide) rfl (rest := []) rfl (Or.inl (Nat.le_of_ble_eq_true rfl)) (t_M_isTerm hB ev28) ?_
              refine r_ifneZ 214 hf dX12_makeTerm_174 (by decide) (fun c29 hf => ?_) (fun c29 hf => ?_)
              · refine r_iconst (1 : Int32) dX12_makeTerm_214 (by decide) ?_
                refine r_goto 219 dX12_makeTerm_215 (by decide) ?_
                refine r_sub (L' := [(0, _)]) [1] rfl ?_
                cases (Option.some.inj hf)
                exact kq24
              · refine r_aload_n 1 dX12_makeTerm_177 rfl rfl ?_
                refine r_bipush (111 : Int32) dX12_makeTerm_178 (by decide) ?_
                refine r_bipush (114 : Int32) dX12_makeTerm_180 (by decide) ?_
                refine r_iconst (0 : Int32) dX12_makeTerm_182 (by decide) ?_
                refine bnd hf (fun v30 ev30 hf => ?_)
                refine r_callVr (ci := 12) rfl dX12_makeTerm_183 cs_RX12_182 ww_1291 ww_42 (by decide) (hB.t0 _) (by decide) rfl (rest := []) rfl (Or.inl (Nat.le_of_ble_eq_true rfl)) (t_M_isTerm hB ev30) ?_
                refine r_ifneZ 214 hf dX12_makeTerm_186 (by decide) (fun c31 hf => ?_) (fun c31 hf => ?_)
                · refine r_iconst (1 : Int32) dX12_makeTerm_214 (by decide) ?_
                  refine r_goto 219 dX12_makeTerm_215 (by decide) ?_
                  refine r_sub (L' := [(0, _)]) [1] rfl ?_
                  cases (Option.some.inj hf)
                  exact kq24
                · refine r_aload_n 1 dX12_makeTerm_189 rfl rfl ?_
                  refine r_bipush (116 : Int32) dX12_makeTerm_190 (by decide) ?_
                  refine r_bipush (104 : Int32) dX12_makeTerm_192 (by decide) ?_
                  refine r_bipush (101 : Int32) dX12_makeTerm_194 (by decide) ?_
                  refine bnd hf (fun v32 ev32 hf => ?_)
                  refine r_callVr (ci := 12) rfl dX12_makeTerm_196 cs_RX12_182 ww_1291 ww_42 (by decide) (hB.t0 _) (by decide) rfl (rest := []) rfl (Or.inl (Nat.le_of_ble_eq_true rfl)) (t_M_isTerm hB ev32) ?_
                  refine r_ifneZ 214 hf dX12_makeTerm_199 (by decide) (fun c33 hf => ?_) (fun c33 hf => ?_)
                  · refine r_iconst (1 : Int32) dX12_makeTerm_214 (by decide) ?_
                    refine r_goto 219 dX12_makeTerm_215 (by decide) ?_
                    refine r_sub (L' := [(0, _)]) [1] rfl ?_
                    cases (Option.some.inj hf)
                    exact kq24
                  · refine r_aload_n 1 dX12_makeTerm_202 rfl rfl ?_
                    refine r_bipush (116 : Int32) dX12_makeTerm_203 (by decide) ?_
                    refine r_bipush (111 : Int32) dX12_makeTerm_205 (by decide) ?_
                    refine r_iconst (0 : Int32) dX12_makeTerm_207 (by decide) ?_
                    refine bnd hf (fun v34 ev34 hf => ?_)
                    refine r_callVr (ci := 12) rfl dX12_makeTerm_208 cs_RX12_182 ww_1291 ww_42 (by decide) (hB.t0 _) (by decide) rfl (rest := []) rfl (Or.inl (Nat.le_of_ble_eq_true rfl)) (t_M_isTerm hB ev34) ?_
                    refine r_ifeqZ 218 hf dX12_makeTerm_211 (by decide) (fun c35 hf => ?_) (fun c35 hf => ?_)
                    · refine r_iconst (1 : Int32) dX12_makeTerm_214 (by decide) ?_
                      refine r_goto 219 dX12_makeTerm_215 (by decide) ?_
                      refine r_sub (L' := [(0, _)]) [1] rfl ?_
                      cases (Option.some.inj hf)
                      exact kq24
                    · refine r_iconst (0 : Int32) dX12_makeTerm_218 (by decide) ?_
                      refine r_sub (L' := [(0, _)]) [1] rfl ?_
                      cases (Option.some.inj hf)
                      exact kq24
      · refine r_ifneZ 143 hf dX12_makeTerm_79 (by decide) (fun c13 hf => ?_) (fun c13 hf => ?_)
        · refine r_iconst (1 : Int32) dX12_makeTerm_143 (by decide) ?_
          refine r_goto 148 dX12_makeTerm_144 (by decide) ?_
          refine r_sub (L' := [(0, _)]) [0] rfl ?_
          cases (Option.some.inj hf)
          exact kq12
        · refine r_aload_n 0 dX12_makeTerm_82 rfl rfl ?_
          refine r_bipush (97 : Int32) dX12_makeTerm_83 (by decide) ?_
          refine r_bipush (110 : Int32) dX12_makeTerm_85 (by decide) ?_
          refine r_iconst (0 : Int32) dX12_makeTerm_87 (by decide) ?_
          refine bnd hf (fun v14 ev14 hf => ?_)
          refine r_callVr (ci := 12) rfl dX12_makeTerm_88 cs_RX12_182 ww_1291 ww_42 (by decide) (hB.t0 _) (by decide) rfl (rest := []) rfl (Or.inl (Nat.le_of_ble_eq_true rfl)) (t_M_isTerm hB ev14) ?_
          refine r_ifneZ 143 hf dX12_makeTerm_91 (by decide) (fun c15 hf => ?_) (fun c15 hf => ?_)
          · refine r_iconst (1 : Int32) dX12_makeTerm_143 (by decide) ?_
            refine r_goto 148 dX12_makeTerm_144 (by decide) ?_
            refine r_sub (L' := [(0, _)]) [0] rfl ?_
            cases (Option.some.inj hf)
            exact kq12
          · refine r_aload_n 0 dX12_makeTerm_94 rfl rfl ?_
            refine r_bipush (97 : Int32) dX12_makeTerm_95 (by decide) ?_
            refine r_bipush (110 : Int32) dX12_makeTerm_97 (by decide) ?_
            refine r_bipush (100 : Int32) dX12_makeTerm_99 (by decide) ?_
            refine bnd hf (fun v16 ev16 hf => ?_)
            refine r_callVr (ci := 12) rfl dX12_makeTerm_101 cs_RX12_182 ww_1291 ww_42 (by decide) (hB.t0 _) (by decide) rfl (rest := []) rfl (Or.inl (Nat.le_of_ble_eq_true rfl)) (t_M_isTerm hB ev16) ?_
            refine r_ifneZ 143 hf dX12_makeTerm_104 (by decide) (fun c17 hf => ?_) (fun c17 hf => ?_)
            · refine r_iconst (1 : Int32) dX12_makeTerm_143 (by decide) ?_
              refine r_goto 148 dX12_makeTerm_144 (by decide) ?_
              refine r_sub (L' := [(0, _)]) [0] rfl ?_
              cases (Option.some.inj hf)
              exact kq12
            · refine r_aload_n 0 dX12_makeTerm_107 rfl rfl ?_
              refine r_bipush (105 : Int32) dX12_makeTerm_108 (by decide) ?_
              refine r_bipush (110 : Int32) dX12_makeTerm_110 (by decide) ?_
              refine r_iconst (0 : Int32) dX12_makeTerm_112 (by decide) ?_
              refine bnd hf (fun v18 ev18 hf => ?_)
              refine r_callVr (ci := 12) rfl dX12_makeTerm_113 cs_RX12_182 ww_1291 ww_42 (by decide) (hB.t0 _) (by decide) rfl (rest := []) rfl (Or.inl (Nat.le_of_ble_eq_true rfl)) (t_M_isTerm hB ev18) ?_
              refine r_ifneZ 143 hf dX12_makeTerm_116 (by decide) (fun c19 hf => ?_) (fun c19 hf => ?_)
              · refine r_iconst (1 : Int32) dX12_makeTerm_143 (by decide) ?_
                refine r_goto 148 dX12_makeTerm_144 (by decide) ?_
                refine r_sub (L' := [(0, _)]) [0] rfl ?_
                cases (Option.some.inj hf)
                exact kq12
              · refine r_aload_n 0 dX12_makeTerm_119 rfl rfl ?_
                refine r_bipush (105 : Int32) dX12_makeTerm_120 (by decide) ?_
                refine r_bipush (115 : Int32) dX12_makeTerm_122 (by decide) ?_
                refine r_iconst (0 : Int32) dX12_makeTerm_124 (by decide) ?_
                refine bnd hf (fun v20 ev20 hf => ?_)
                refine r_callVr (ci := 12) rfl dX12_makeTerm_125 cs_RX12_182 ww_1291 ww_42 (by decide) (hB.t0 _) (by decide) rfl (rest := []) rfl (Or.inl (Nat.le_of_ble_eq_true rfl)) (t_M_isTerm hB ev20) ?_
                refine r_ifneZ 143 hf dX12_makeTerm_128 (by decide) (fun c21 hf => ?_) (fun c21 hf => ?_)
                · refine r_iconst (1 : Int32) dX12_makeTerm_143 (by decide) ?_
                  refine r_goto 148 dX12_makeTerm_144 (by decide) ?_
                  refine r_sub (L' := [(0, _)]) [0] rfl ?_
                  cases (Option.some.inj hf)
                  exact kq12
                · refine r_aload_n 0 dX12_makeTerm_131 rfl rfl ?_
                  refine r_bipush (105 : Int32) dX12_makeTerm_132 (by decide) ?_
                  refine r_bipush (116 : Int32) dX12_makeTerm_134 (by decide) ?_
                  refine r_iconst (0 : Int32) dX12_makeTerm_136 (by decide) ?_
                  refine bnd hf (fun v22 ev22 hf => ?_)
                  refine r_callVr (ci := 12) rfl dX12_makeTerm_137 cs_RX12_182 ww_1291 ww_42 (by decide) (hB.t0 _) (by decide) rfl (rest := []) rfl (Or.inl (Nat.le_of_ble_eq_true rfl)) (t_M_isTerm hB ev22) ?_
                  refine r_ifeqZ 147 hf dX12_makeTerm_140 (by decide) (fun c23 hf => ?_) (fun c23 hf => ?_)
                  · refine r_iconst (1 : Int32) dX12_makeTerm_143 (by decide) ?_
                    refine r_goto 148 dX12_makeTerm_144 (by decide) ?_
                    refine r_sub (L' := [(0, _)]) [0] rfl ?_
                    cases (Option.some.inj hf)
                    exact kq12
                  · refine r_iconst (0 : Int32) dX12_makeTerm_147 (by decide) ?_
                    refine r_sub (L' := [(0, _)]) [0] rfl ?_
                    cases (Option.some.inj hf)
                    exact kq12
    · exact r_vret rfl dX12_makeTerm_70 (by have h1 := (Option.some.inj hf); subst h1; exact hr.symm)
  · refine r_ifeqZ 63 hf dX12_makeTerm_10 (by decide) (fun c3 hf => ?_) (fun c3 hf => ?_)
    · refine r_aload_n 0 dX12_makeTerm_13 rfl rfl ?_
      refine rr_ldI (k := 38) hB dX12_makeTerm_14 fl_RX12_171 rfl ?_
      refine r_iconst (4 : Int32) dX12_makeTerm_17 (by decide) ?_
      refine r_icmp_lt 63 hf dX12_makeTerm_18 (by decide) (fun c4 hf => ?_) (fun c4 hf => ?_)
      · refine r_sub (L' := [(0, _)]) [0] rfl ?_
        cases (Option.some.inj hf)
        exact kq2
      · refine r_aload_n 0 dX12_makeTerm_21 rfl rfl ?_
        refine rr_ldR (c := 27) hB dX12_makeTerm_22 fl_RX12_100 rfl rfl (by decide) ?_
        refine r_aload_n 0 dX12_makeTerm_25 rfl rfl ?_
        refine rr_ldI (k := 38) hB dX12_makeTerm_26 fl_RX12_171 rfl ?_
        refine r_iconst (1 : Int32) dX12_makeTerm_29 (by decide) ?_
        refine r_isub dX12_makeTerm_30 ?_
        refine rr_raI hf hB dX12_makeTerm_31 (by decide) rfl (fun v5 ev5 hf => ?_)
        refine r_bipush (115 : Int32) dX12_makeTerm_32 (by decide) ?_
        refine r_icmp_ne 63 hf dX12_makeTerm_34 (by decide) (fun c6 hf => ?_) (fun c6 hf => ?_)
        · refine r_sub (L' := [(0, _)]) [0] rfl ?_
          cases (Option.some.inj hf)
          exact kq2
        · refine r_aload_n 0 dX12_makeTerm_37 rfl rfl ?_
          refine rr_ldR (c := 27) hB dX12_makeTerm_38 fl_RX12_100 rfl rfl (by decide) ?_
          refine r_aload_n 0 dX12_makeTerm_41 rfl rfl ?_
          refine rr_ldI (k := 38) hB dX12_makeTerm_42 fl_RX12_171 rfl ?_
          refine r_iconst (2 : Int32) dX12_makeTerm_45 (by decide) ?_
          refine r_isub dX12_makeTerm_46 ?_
          refine rr_raI hf hB dX12_makeTerm_47 (by decide) rfl (fun v7 ev7 hf => ?_)
          refine r_bipush (115 : Int32) dX12_makeTerm_48 (by decide) ?_
          refine r_icmp_eq 63 hf dX12_makeTerm_50 (by decide) (fun c8 hf => ?_) (fun c8 hf => ?_)
          · refine r_sub (L' := [(0, _)]) [0] rfl ?_
            cases (Option.some.inj hf)
            exact kq2
          · refine r_aload_n 0 dX12_makeTerm_53 rfl rfl ?_
            refine r_dup dX12_makeTerm_54 (cat_rf _) ?_
            refine rr_ldI (k := 38) hB dX12_makeTerm_55 fl_RX12_171 rfl ?_
            refine r_iconst (1 : Int32) dX12_makeTerm_58 (by decide) ?_
            refine r_isub dX12_makeTerm_59 ?_
            refine rr_stI hf hB dX12_makeTerm_60 fl_RX12_171 rfl rfl rfl (fun R9 eR9 hf => ?_)
            refine r_sub (L' := [(0, _)]) [0] rfl ?_
            cases (Option.some.inj hf)
            exact kq2
    · refine r_sub (L' := [(0, _)]) [0] rfl ?_
      cases (Option.some.inj hf)
      exact kq2
/-! SearchEngineModel.base -/
noncomputable def M_base (x0 : Int32) (x1 : Int32) : Option Int32 :=
  some (((250 : Int32) * x0) + ((50 : Int32) * x1))
set_option maxRecDepth 100000 in
set_option maxHeartbeats 4000000 in
theorem t_M_base {Γ : W0} {σ : Mem} {x0 : Int32} {x1 : Int32} {v : Int32} (hf : M_base x0 x1 = some v) : CT Γ MD_M_base yX12_base [.int x0, .int x1] σ (some (.int v), σ) := by
  refine CT.of (L := [(0, .int x0), (1, .int x1)]) rfl (by decide) (fun h => Bool.noConfusion (show false = true from h)) (Nat.le_of_ble_eq_true rfl) rfl ?_
  unfold M_base at hf
  generalize hr : mkR Γ σ (some (.int v)) σ = r
  refine r_sipush (250 : Int32) dX12_base_0 (by decide) ?_
  refine r_iload_n 0 dX12_base_3 rfl rfl ?_
  refine r_imul dX12_base_4 ?_
  refine r_bipush (50 : Int32) dX12_base_5 (by decide) ?_
  refine r_iload_n 1 dX12_base_7 rfl rfl ?_
  refine r_imul dX12_base_8 ?_
  refine r_iadd dX12_base_9 ?_
  exact r_iret rfl dX12_base_10 (by have h1 := (Option.some.inj hf); subst h1; exact hr.symm)
/-! SearchEngineModel.tokens -/
noncomputable def M_tokens_l17 (R : RS) (x1 : Int32) (x2 : Int32) (x3 : Int32) (x4 : Int32) (x5 : Int32) (x6 : Int32) (x7 : Int32) : Option (Int32 ⊕ Int32) :=
  if x4 ≤ x7 then
    some (Sum.inr x7)
  else
    (rdI R 1 600 x7).bind fun v3 =>
    (M_isLetter v3).bind fun v4 =>
    if v4 = true then
      some (Sum.inl (x7 + (1 : Int32)))
    else
      some (Sum.inr x7)
noncomputable def M_tokens_l108 (R : RS) (x1 : Int32) (x2 : Int32) (x3 : Int32) (x4 : Int32) (x5 : Int32) (x6 : Int32) (x7 : Int32) (x8 : Int32) (x9 : Int32) : Option ((Int32 × RS) ⊕ RS) :=
  if (R.1 0 38) ≤ x9 then
    some (Sum.inr R)
  else
    (rdI R 27 12 x9).bind fun v16 =>
    (wrI R 10 1200000 (((12 : Int32) * x8) + x9) v16).bind fun R17 =>
    some (Sum.inl ((x9 + (1 : Int32)), R17))
noncomputable def M_tokens_l6 (R : RS) (x1 : Int32) (x2 : Int32) (x3 : Int32) (x4 : Int32) (x5 : Int32) (x6 : Int32) : Option ((Int32 × Int32 × RS) ⊕ (Int32 × RS)) :=
  if x4 ≤ x6 then
    some (Sum.inr (x5, R))
  else
    (lp (fun q => M_tokens_l17 R x1 x2 x3 x4 x5 x6 q) x6).bind fun z7 =>
    Option.bind (
      if z7 ≤ x6 then
        some (x5, R)
      else
        (M_base x1 x2).bind fun v10 =>
        (M_makeTerm R x6 (z7 - x6)).bind fun v11 =>
        (wrI v11 7 100000 (v10 + x5) (x6 - x3)).bind fun R12 =>
        (wrI R12 8 100000 (v10 + x5) (z7 - x6)).bind fun R13 =>
        (wrI R13 9 100000 (v10 + x5) (R13.1 0 38)).bind fun R14 =>
        (lp (fun q => M_tokens_l108 q.2 x1 x2 x3 x4 x5 x6 z7 (v10 + x5) q.1) ((0 : Int32), R14)).bind fun z19 =>
        some ((x5 + (1 : Int32)), z19)) fun q8 =>
    Option.bind (
      if z7 ≤ x6 then
        some (x6 + (1 : Int32))
      else
        some z7) fun q20 =>
    some (Sum.inl (q8.1, q20, q8.2))
noncomputable def M_tokens (R : RS) (x1 : Int32) (x2 : Int32) (x3 : Int32) (x4 : Int32) : Option RS :=
  (lp (fun q => M_tokens_l6 q.2.2 x1 x2 x3 x4 q.1 q.2.1) ((0 : Int32), x3, R)).bind fun z23 =>
  (wrI z23.2 6 800 (((2 : Int32) * x1) + x2) z23.1).bind fun R24 =>
  some R24
set_option maxRecDepth 100000 in
set_option maxHeartbeats 4000000 in
theorem x_M_tokens_l17 {Γ : W0} {σ0 : Mem} {r : RT} {τ : Mem} {B : Nat} {R : RS} {x1 : Int32} {x2 : Int32} {x3 : Int32} {x4 : Int32} {x5 : Int32} {x6 : Int32} {t : Int32} (hB : RB τ B) (hk0 : ∀ z : Int32, z = t → V Γ MD_M_tokens σ0 r (emb τ B R) 43 [(0, va_rf (some B)), (1, .int x1), (2, .int x2), (3, .int x3), (4, .int x4), (5, .int x5), (6, .int x6), (7, .int z)] []) : ∀ q : Int32, lp (fun q => M_tokens_l17 R x1 x2 x3 x4 x5 x6 q) q = some t → V Γ MD_M_tokens σ0 r (emb τ B R) 17 [(0, va_rf (some B)), (1, .int x1), (2, .int x2), (3, .int x3), (4, .int x4), (5, .int x5), (6, .int x6), (7, .int q)] [] := by
  refine lp_ind (fun (q : Int32) => V Γ MD_M_tokens σ0 r (emb τ B R) 17 [(0, va_rf (some B)), (1, .int x1), (2, .int x2), (3, .int x3), (4, .int x4), (5, .int x5), (6, .int x6), (7, .int q)] []) (fun q x hf ih ho => ?_)
  revert hf ih
  generalize q = x7
  intro hf ih
  show V Γ MD_M_tokens σ0 r (emb τ B R) 17 [(0, va_rf (some B)), (1, .int x1), (2, .int x2), (3, .int x3), (4, .int x4), (5, .int x5), (6, .int x6), (7, .int x7)] []
  replace hf : M_tokens_l17 R x1 x2 x3 x4 x5 x6 x7 = some x := hf
  unfold M_tokens_l17 at hf
  refine r_iload 7 dX12_tokens_17 rfl ?_
  refine r_iload 4 dX12_tokens_19 rfl ?_
  refine r_icmp_ge 43 hf dX12_tokens_21 (by decide) (fun c2 hf => ?_) (fun c2 hf => ?_)
  · refine r_sub (L' := [(0, _), (1, _), (2, _), (3, _), (4, _), (5, _), (6, _), (7, _)]) [0, 1, 2, 3, 4, 5, 6, 7] rfl ?_
    exact hk0 _ (ho _ (Option.some.inj hf).symm)
  · refine r_aload_n 0 dX12_tokens_24 rfl rfl ?_
    refine rr_ldR (c := 1) hB dX12_tokens_25 fl_RX12_7 rfl rfl (by decide) ?_
    refine r_iload 7 dX12_tokens_28 rfl ?_
    refine rr_raI hf hB dX12_tokens_30 (by decide) rfl (fun v3 ev3 hf => ?_)
    refine bnd hf (fun v4 ev4 hf => ?_)
    refine r_callSr dX12_tokens_31 cs_RX12_185 ww_1273 (by decide) rfl (rest := []) rfl (Or.inl (Nat.le_of_ble_eq_true rfl)) (t_M_isLetter ev4) ?_
    refine r_ifeqZ 43 hf dX12_tokens_34 (by decide) (fun c5 hf => ?_) (fun c5 hf => ?_)
    · refine r_iinc (1 : Int32) (L' := [(7, _), (0, _), (1, _), (2, _), (3, _), (4, _), (5, _), (6, _)]) 7 dX12_tokens_37 rfl (by decide) (show 7 < 10 by decide) rfl ?_
      refine r_goto 17 dX12_tokens_40 (by decide) ?_
      refine r_sub (L' := [(0, _), (1, _), (2, _), (3, _), (4, _), (5, _), (6, _), (7, _)]) [1, 2, 3, 4, 5, 6, 7, 0] rfl ?_
      exact ih _ (Option.some.inj hf).symm
    · refine r_sub (L' := [(0, _), (1, _), (2, _), (3, _), (4, _), (5, _), (6, _), (7, _)]) [0, 1, 2, 3, 4, 5, 6, 7] rfl ?_
      exact hk0 _ (ho _ (Option.some.inj hf).symm)
set_option maxRecDepth 100000 in
set_option maxHeartbeats 4000000 in
theorem x_M_tokens_l108 {Γ : W0} {σ0 : Mem} {r : RT} {τ : Mem} {B : Nat} {x1 : Int32} {x2 : Int32} {x3 : Int32} {x4 : Int32} {x5 : Int32} {x6 : Int32} {x7 : Int32} {x8 : Int32} {t : RS} (hB : RB τ B) (hk0 : ∀ z : RS, z = t → V Γ MD_M_tokens σ0 r (emb τ B z) 143 [(0, va_rf (some B)), (1, .int x1), (2, .int x2), (3, .int x3), (4, .int x4), (5, .int x5), (6, .int x6), (7, .int x7)] []) : ∀ q : Int32 × RS, lp (fun q => M_tokens_l108 q.2 x1 x2 x3 x4 x5 x6 x7 x8 q.1) q = some t → V Γ MD_M_tokens σ0 r (emb τ B q.2) 108 [(0, va_rf (some B)), (1, .int x1), (2, .int x2), (3, .int x3), (4, .int x4), (5, .int x5), (6, .int x6), (7, .int x7), (8, .int x8), (9, .int q.1)] [] := by
  refine lp_ind (fun (q : Int32 × RS) => V Γ MD_M_tokens σ0 r (emb τ B q.2) 108 [(0, va_rf (some B)), (1, .int x1), (2, .int x2), (3, .int x3), (4, .int x4), (5, .int x5), (6, .int x6), (7, .int x7), (8, .int x8), (9, .int q.1)] []) (fun q x hf ih ho => ?_)
  obtain ⟨x9, R⟩ := q
  show V Γ MD_M_tokens σ0 r (emb τ B R) 108 [(0, va_rf (some B)), (1, .int x1), (2, .int x2), (3, .int x3), (4, .int x4), (5, .int x5), (6, .int x6), (7, .int x7), (8, .int x8), (9, .int x9)] []
  replace hf : M_tokens_l108 R x1 x2 x3 x4 x5 x6 x7 x8 x9 = some x := hf
  unfold M_tokens_l108 at hf
  refine r_iload 9 dX12_tokens_108 rfl ?_
  refine r_aload_n 0 dX12_tokens_110 rfl rfl ?_
  refine rr_ldI (k := 38) hB dX12_tokens_111 fl_RX12_171 rfl ?_
  refine r_icmp_ge 143 hf dX12_tokens_114 (by decide) (fun c15 hf => ?_) (fun c15 hf => ?_)
  · refine r_sub (L' := [(0, _), (1, _), (2, _), (3, _), (4, _), (5, _), (6, _), (7, _)]) [0, 1, 2, 3, 4, 5, 6, 7] rfl ?_
    exact hk0 _ (ho _ (Option.some.inj hf).symm)
  · refine r_aload_n 0 dX12_tokens_117 rfl rfl ?_
    refine rr_ldR (c := 10) hB dX12_tokens_118 fl_RX12_41 rfl rfl (by decide) ?_
    refine r_bipush (12 : Int32) dX12_tokens_121 (by decide) ?_
    refine r_iload 8 dX12_tokens_123 rfl ?_
    refine r_imul dX12_tokens_125 ?_
    refine r_iload 9 dX12_tokens_126 rfl ?_
    refine r_iadd dX12_tokens_128 ?_
    refine r_aload_n 0 dX12_tokens_129 rfl rfl ?_
    refine rr_ldR (c := 27) hB dX12_tokens_130 fl_RX12_100 rfl rfl (by decide) ?_
    refine r_iload 9 dX12_tokens_133 rfl ?_
    refine rr_raI hf hB dX12_tokens_135 (by decide) rfl (fun v16 ev16 hf => ?_)
    refine rr_waI hf hB dX12_tokens_136 (by decide) rfl (fun R17 eR17 hf => ?_)
    refine r_iinc (1 : Int32) (L' := [(9, _), (0, _), (1, _), (2, _), (3, _), (4, _), (5, _), (6, _), (7, _), (8, _)]) 9 dX12_tokens_137 rfl (by decide) (show 9 < 10 by decide) rfl ?_
    refine r_goto 108 dX12_tokens_140 (by decide) ?_
    refine r_sub (L' := [(0, _), (1, _), (2, _), (3, _), (4, _), (5, _), (6, _), (7, _), (8, _), (9, _)]) [1, 2, 3, 4, 5, 6, 7, 8, 9, 0] rfl ?_
    exact ih _ (Option.some.inj hf).symm
set_option maxRecDepth 100000 in
set_option maxHeartbeats 4000000 in
theorem x_M_tokens_l6 {Γ : W0} {σ0 : Mem} {r : RT} {τ : Mem} {B : Nat} {x1 : Int32} {x2 : Int32} {x3 : Int32} {x4 : Int32} {t : Int32 × RS} (hB : RB τ B) (hk0 : ∀ z : Int32 × RS, z = t → V Γ MD_M_tokens σ0 r (emb τ B z.2) 167 [(0, va_rf (some B)), (1, .int x1), (2, .int x2), (5, .int z.1)] []) : ∀ q : Int32 × Int32 × RS, lp (fun q => M_tokens_l6 q.2.2 x1 x2 x3 x4 q.1 q.2.1) q = some t → V Γ MD_M_tokens σ0 r (emb τ B q.2.2) 6 [(0, va_rf (some B)), (1, .int x1), (2, .int x2), (3, .int x3), (4, .int x4), (5, .int q.1), (6, .int q.2.1)] [] := by
  refine lp_ind (fun (q : Int32 × Int32 × RS) => V Γ MD_M_tokens σ0 r (emb τ B q.2.2) 6 [(0, va_rf (some B)), (1, .int x1), (2, .int x2), (3, .int x3), (4, .int x4), (5, .int q.1), (6, .int q.2.1)] []) (fun q x hf ih ho => ?_)
  obtain ⟨x5, x6, R⟩ := q
  show V Γ MD_M_tokens σ0 r (emb τ B R) 6 [(0, va_rf (some B)), (1, .int x1), (2, .int x2), (3, .int x3), (4, .int x4), (5, .int x5), (6, .int x6)] []
  replace hf : M_tokens_l6 R x1 x2 x3 x4 x5 x6 = some x := hf
  unfold M_tokens_l6 at hf
  refine r_iload 6 dX12_tokens_6 rfl ?_
  refine r_iload 4 dX12_tokens_8 rfl ?_
  refine r_icmp_ge 167 hf dX12_tokens_10 (by decide) (fun c1 hf => ?_) (fun c1 hf => ?_)
  · refine r_sub (L' := [(0, _), (1, _), (2, _), (5, _)]) [0, 1, 2, 5] rfl ?_
    exact hk0 _ (ho _ (Option.some.inj hf).symm)
  · refine r_iload 6 dX12_tokens_13 rfl ?_
    refine r_istore (L' := [(7, _), (0, _), (1, _), (2, _), (3, _), (4, _), (5, _), (6, _)]) dX12_tokens_15 (show 7 < 10 by decide) rfl ?_
    refine bnd hf (fun t6 et6 hf => ?_)
    refine r_sub (L' := [(0, _), (1, _), (2, _), (3, _), (4, _), (5, _), (6, _), (7, _)]) [1, 2, 3, 4, 5, 6, 7, 0] rfl ?_
    refine x_M_tokens_l17 hB ?_ _ et6
    · intro z7 hz7
      subst hz7
      refine r_iload 7 dX12_tokens_43 rfl ?_
      refine r_iload 6 dX12_tokens_45 rfl ?_
      refine r_bd (fun (q8 : Int32 × RS) => V Γ MD_M_tokens σ0 r (emb τ B q8.2) 146 [(0, va_rf (some B)), (1, .int x1), (2, .int x2), (3, .int x3), (4, .int x4), (5, .int q8.1), (6, .int x6), (7, .int z7)] []) hf (fun q8 hf => ?_) (fun yq8 hf kq8 => ?_)
      · refine r_iload 7 dX12_tokens_146 rfl ?_
        refine r_iload 6 dX12_tokens_148 rfl ?_
        refine r_bd (fun (q20 : Int32) => V Γ MD_M_tokens σ0 r (emb τ B q8.2) 162 [(0, va_rf (some B)), (1, .int x1), (2, .int x2), (3, .int x3), (4, .int x4), (5, .int q8.1)] [.int q20]) hf (fun q20 hf => ?_) (fun yq20 hf kq20 => ?_)
        · refine r_istore (L' := [(6, _), (0, _), (1, _), (2, _), (3, _), (4, _), (5, _)]) dX12_tokens_162 (show 6 < 10 by decide) rfl ?_
          refine r_goto 6 dX12_tokens_164 (by decide) ?_
          refine r_sub (L' := [(0, _), (1, _), (2, _), (3, _), (4, _), (5, _), (6, _)]) [1, 2, 3, 4, 5, 6, 0] rfl ?_
          exact ih _ (Option.some.inj hf).symm
        · refine r_icmp_le 158 hf dX12_tokens_150 (by decide) (fun c21 hf => ?_) (fun c21 hf => ?_)
          · refine r_iload 6 dX12_tokens_158 rfl ?_
            refine r_iconst (1 : Int32) dX12_tokens_160 (by decide) ?_
            refine r_iadd dX12_tokens_161 ?_
            refine r_sub (L' := [(0, _), (1, _), (2, _), (3, _), (4, _), (5, _)]) [0, 1, 2, 3, 4, 5] rfl ?_
            cases (Option.some.inj hf)
            exact kq20
          · refine r_iload 7 dX12_tokens_153 rfl ?_
            refine r_goto 162 dX12_tokens_155 (by decide) ?_
            refine r_sub (L' := [(0, _), (1, _), (2, _), (3, _), (4, _), (5, _)]) [0, 1, 2, 3, 4, 5] rfl ?_
            cases (Option.some.inj hf)
            exact kq20
      · refine r_icmp_le 146 hf dX12_tokens_47 (by decide) (fun c9 hf => ?_) (fun c9 hf => ?_)
        · refine r_sub (L' := [(0, _), (1, _), (2, _), (3, _), (4, _), (5, _), (6, _), (7, _)]) [0, 1, 2, 3, 4, 5, 6, 7] rfl ?_
          cases (Option.some.inj hf)
          exact kq8
        · refine r_iload_n 1 dX12_tokens_50 rfl rfl ?_
          refine r_iload_n 2 dX12_tokens_51 rfl rfl ?_
          refine bnd hf (fun v10 ev10 hf => ?_)
          refine r_callSr dX12_tokens_52 cs_RX12_189 ww_1276 (by decide) rfl (rest := []) rfl (Or.inl (Nat.le_of_ble_eq_true rfl)) (t_M_base ev10) ?_
          refine r_iload 5 dX12_tokens_55 rfl ?_
          refine r_iadd dX12_tokens_57 ?_
          refine r_istore (L' := [(8, _), (0, _), (1, _), (2, _), (3, _), (4, _), (5, _), (6, _), (7, _)]) dX12_tokens_58 (show 8 < 10 by decide) rfl ?_
          refine r_aload_n 1 dX12_tokens_60 rfl rfl ?_
          refine r_iload 7 dX12_tokens_61 rfl ?_
          refine r_iload 8 dX12_tokens_63 rfl ?_
          refine r_iload 7 dX12_tokens_65 rfl ?_
          refine r_isub dX12_tokens_67 ?_
          refine bnd hf (fun v11 ev11 hf => ?_)
          refine r_callVv (ci := 12) rfl dX12_tokens_68 cs_RX12_193 ww_1280 ww_40 (by decide) (hB.t0 _) (by decide) rfl (rest := []) rfl (Or.inl (Nat.le_of_ble_eq_true rfl)) (t_M_makeTerm hB ev11) ?_
          refine r_aload_n 1 dX12_tokens_71 rfl rfl ?_
          refine rr_ldR (c := 7) hB dX12_tokens_72 fl_RX12_31 rfl rfl (by decide) ?_
          refine r_iload 0 dX12_tokens_75 rfl ?_
          refine r_iload 7 dX12_tokens_77 rfl ?_
          refine r_iload_n 4 dX12_tokens_79 rfl rfl ?_
          refine r_isub dX12_tokens_80 ?_
          refine rr_waI hf hB dX12_tokens_81 (by decide) rfl (fun R12 eR12 hf => ?_)
          refine r_aload_n 1 dX12_tokens_82 rfl rfl ?_
          refine rr_ldR (c := 8) hB dX12_tokens_83 fl_RX12_34 rfl rfl (by decide) ?_
          refine r_iload 0 dX12_tokens_86 rfl ?_
          refine r_iload 8 dX12_tokens_88 rfl ?_
          refine r_iload 7 dX12_tokens_90 rfl ?_
          refine r_isub dX12_tokens_92 ?_
          refine rr_waI hf hB dX12_tokens_93 (by decide) rfl (fun R13 eR13 hf => ?_)
          refine r_aload_n 1 dX12_tokens_94 rfl rfl ?_
          refine rr_ldR (c := 9) hB dX12_tokens_95 fl_RX12_37 rfl rfl (by decide) ?_
          refine r_iload 0 dX12_tokens_98 rfl ?_
          refine r_aload_n 1 dX12_tokens_100 rfl rfl ?_
          refine rr_ldI (k := 38) hB dX12_tokens_101 fl_RX12_171 rfl ?_
          refine rr_waI hf hB dX12_tokens_104 (by decide) rfl (fun R14 eR14 hf => ?_)
          refine r_iconst (0 : Int32) dX12_tokens_105 (by decide) ?_
          refine r_istore (L' := [(9, _), (8, _), (0, _), (1, _), (2, _), (3, _), (4, _), (5, _), (6, _), (7, _)]) dX12_tokens_106 (show 9 < 10 by decide) rfl ?_
          refine bnd hf (fun t18 et18 hf => ?_)
          refine r_sub (L' := [(0, _), (1, _), (2, _), (3, _), (4, _), (5, _), (6, _), (7, _), (8, _), (9, _)]) [2, 3, 4, 5, 6, 7, 8, 9, 1, 0] rfl ?_
          refine x_M_tokens_l108 hB ?_ _ et18
          · intro z19 hz19
            subst hz19
            refine r_iinc (1 : Int32) (L' := [(5, _), (0, _), (1, _), (2, _), (3, _), (4, _), (6, _), (7, _)]) 5 dX12_tokens_143 rfl (by decide) (show 5 < 10 by decide) rfl ?_
            refine r_sub (L' := [(0, _), (1, _), (2, _), (3, _), (4, _), (5, _), (6, _), (7, _)]) [1, 2, 3, 4, 5, 0, 6, 7] rfl ?_
            cases (Option.some.inj hf)
            exact kq8
set_option maxRecDepth 100000 in
set_option maxHeartbeats 4000000 in
theorem t_M_tokens {Γ : W0} {τ : Mem} {B : Nat} {R : RS} {x1 : Int32} {x2 : Int32} {x3 : Int32} {x4 : Int32} {R' : RS} (hB : RB τ B) (hf : M_tokens R x1 x2 x3 x4 = some R') : CT Γ MD_M_tokens yX12_tokens [va_rf (some B), .int x1, .int x2, .int x3, .int x4] (emb τ B R) (none, (emb τ B R')) := by
  refine CT.of (L := [(0, va_rf (some B)), (1, .int x1), (2, .int x2), (3, .int x3), (4, .int x4)]) rfl (by decide) (fun h => Bool.noConfusion (show false = true from h)) (Nat.le_of_ble_eq_true rfl) rfl ?_
  unfold M_tokens at hf
  generalize hr : mkR Γ (emb τ B R) (none) (emb τ B R') = r
  refine r_iconst (0 : Int32) dX12_tokens_0 (by decide) ?_
  refine r_istore (L' := [(5, _), (0, _), (1, _), (2, _), (3, _), (4, _)]) dX12_tokens_1 (show 5 < 10 by decide) rfl ?_
  refine r_iload_n 4 dX12_tokens_3 rfl rfl ?_
  refine r_istore (L' := [(6, _), (5, _), (0, _), (1, _), (2, _), (3, _), (4, _)]) dX12_tokens_4 (show 6 < 10 by decide) rfl ?_
  refine bnd hf (fun t22 et22 hf => ?_)
  refine r_sub (L' := [(0, _), (1, _), (2, _), (3, _), (4, _), (5, _), (6, _)]) [2, 3, 4, 5, 6, 1, 0] rfl ?_
  refine x_M_tokens_l6 hB ?_ _ et22
  · intro z23 hz23
    subst hz23
    refine r_aload_n 0 dX12_tokens_167 rfl rfl ?_
    refine rr_ldR (c := 6) hB dX12_tokens_168 fl_RX12_27 rfl rfl (by decide) ?_
    refine r_iconst (2 : Int32) dX12_tokens_171 (by decide) ?_
    refine r_iload_n 1 dX12_tokens_172 rfl rfl ?_
    refine r_imul dX12_tokens_173 ?_
    refine r_iload_n 2 dX12_tokens_174 rfl rfl ?_
    refine r_iadd dX12_tokens_175 ?_
    refine r_iload 3 dX12_tokens_176 rfl ?_
    refine rr_waI hf hB dX12_tokens_178 (by decide) rfl (fun R24 eR24 hf => ?_)
    exact r_vret rfl dX12_tokens_179 (by have h1 := (Option.some.inj hf); subst h1; exact hr.symm)
/-! SearchEngineModel.find -/
noncomputable def M_find_l5 (R : RS) (x1 : Int64) (x3 : Int32) (x4 : Int32) : Option ((Int32 × Int32) ⊕ Int32) :=
  if (R.1 0 4) ≤ x4 then
    some (Sum.inr x3)
  else
    (rdL R 2 400 x4).bind fun v2 =>
    Option.bind (
      if ¬ v2 = x1 then
        some x3
      else
        (rdB R 5 400 x4).bind fun v5 =>
        if v5 = true then
          some x3
        else
          some x4) fun q3 =>
    some (Sum.inl (q3, (x4 + (1 : Int32))))
noncomputable def M_find (R : RS) (x1 : Int64) : Option Int32 :=
  (lp (fun q => M_find_l5 R x1 q.1 q.2) ((-1 : Int32), (0 : Int32))).bind fun z8 =>
  some z8
set_option maxRecDepth 100000 in
set_option maxHeartbeats 4000000 in
theorem x_M_find_l5 {Γ : W0} {σ0 : Mem} {r : RT} {τ : Mem} {B : Nat} {R : RS} {x1 : Int64} {t : Int32} (hB : RB τ B) (hk0 : ∀ z : Int32, z = t → V Γ MD_M_find σ0 r (emb τ B R) 45 [(3, .int z)] []) : ∀ q : Int32 × Int32, lp (fun q => M_find_l5 R x1 q.1 q.2) q = some t → V Γ MD_M_find σ0 r (emb τ B R) 5 [(0, va_rf (some B)), (1, .long x1), (3, .int q.1), (4, .int q.2)] [] := by
  refine lp_ind (fun (q : Int32 × Int32) => V Γ MD_M_find σ0 r (emb τ B R) 5 [(0, va_rf (some B)), (1, .long x1), (3, .int q.1), (4, .int q.2)] []) (fun q x hf ih ho => ?_)
  obtain ⟨x3, x4⟩ := q
  show V Γ MD_M_find σ0 r (emb τ B R) 5 [(0, va_rf (some B)), (1, .long x1), (3, .int x3), (4, .int x4)] []
  replace hf : M_find_l5 R x1 x3 x4 = some x := hf
  unfold M_find_l5 at hf
  refine r_iload 3 dX12_find_5 rfl ?_
  refine r_aload_n 0 dX12_find_7 rfl rfl ?_
  refine rr_ldI (k := 4) hB dX12_find_8 fl_RX12_196 rfl ?_
  refine r_icmp_ge 45 hf dX12_find_11 (by decide) (fun c1 hf => ?_) (fun c1 hf => ?_)
  · refine r_sub (L' := [(3, _)]) [2] rfl ?_
    exact hk0 _ (ho _ (Option.some.inj hf).symm)
  · refine r_aload_n 0 dX12_find_14 rfl rfl ?_
    refine rr_ldR (c := 2) hB dX12_find_15 fl_RX12_13 rfl rfl (by decide) ?_
    refine r_iload 3 dX12_find_18 rfl ?_
    refine rr_raL hf hB dX12_find_20 (by decide) rfl (fun v2 ev2 hf => ?_)
    refine r_lload_n 1 dX12_find_21 rfl rfl ?_
    refine r_bd (fun (q3 : Int32) => V Γ MD_M_find σ0 r (emb τ B R) 39 [(0, va_rf (some B)), (1, .long x1), (3, .int q3), (4, .int x4)] []) hf (fun q3 hf => ?_) (fun yq3 hf kq3 => ?_)
    · refine r_iinc (1 : Int32) (L' := [(4, _), (0, _), (1, _), (3, _)]) 3 dX12_find_39 rfl (by decide) (show 4 < 5 by decide) rfl ?_
      refine r_goto 5 dX12_find_42 (by decide) ?_
      refine r_sub (L' := [(0, _), (1, _), (3, _), (4, _)]) [1, 2, 3, 0] rfl ?_
      exact ih _ (Option.some.inj hf).symm
    · refine r_lcmp_ne 39 hf dX12_find_22 dX12_find_23 (by decide) (fun c4 hf => ?_) (fun c4 hf => ?_)
      · refine r_sub (L' := [(0, _), (1, _), (3, _), (4, _)]) [0, 1, 2, 3] rfl ?_
        cases (Option.some.inj hf)
        exact kq3
      · refine r_aload_n 0 dX12_find_26 rfl rfl ?_
        refine rr_ldR (c := 5) hB dX12_find_27 fl_RX12_23 rfl rfl (by decide) ?_
        refine r_iload 3 dX12_find_30 rfl ?_
        refine rr_raB hf hB dX12_find_32 (by decide) rfl (fun v5 ev5 hf => ?_)
        refine r_ifneZ 39 hf dX12_find_33 (by decide) (fun c6 hf => ?_) (fun c6 hf => ?_)
        · refine r_sub (L' := [(0, _), (1, _), (3, _), (4, _)]) [0, 1, 2, 3] rfl ?_
          cases (Option.some.inj hf)
          exact kq3
        · refine r_iload 3 dX12_find_36 rfl ?_
          refine r_istore_n (L' := [(3, _), (0, _), (1, _), (4, _)]) dX12_find_38 rfl (show 3 < 5 by decide) rfl ?_
          refine r_sub (L' := [(0, _), (1, _), (3, _), (4, _)]) [1, 2, 0, 3] rfl ?_
          cases (Option.some.inj hf)
          exact kq3
set_option maxRecDepth 100000 in
set_option maxHeartbeats 4000000 in
theorem t_M_find {Γ : W0} {τ : Mem} {B : Nat} {R : RS} {x1 : Int64} {v : Int32} (hB : RB τ B) (hf : M_find R x1 = some v) : CT Γ MD_M_find yX12_find [va_rf (some B), .long x1] (emb τ B R) (some (.int v), (emb τ B R)) := by
  refine CT.of (L := [(0, va_rf (some B)), (1, .long x1)]) rfl (by decide) (fun h => Bool.noConfusion (show false = true from h)) (Nat.le_of_ble_eq_true rfl) rfl ?_
  unfold M_find at hf
  generalize hr : mkR Γ (emb τ B R) (some (.int v)) (emb τ B R) = r
  refine r_iconst (-1 : Int32) dX12_find_0 (by decide) ?_
  refine r_istore_n (L' := [(3, _), (0, _), (1, _)]) dX12_find_1 rfl (show 3 < 5 by decide) rfl ?_
  refine r_iconst (0 : Int32) dX12_find_2 (by decide) ?_
  refine r_istore (L' := [(4, _), (3, _), (0, _), (1, _)]) dX12_find_3 (show 4 < 5 by decide) rfl ?_
  refine bnd hf (fun t7 et7 hf => ?_)
  refine r_sub (L' := [(0, _), (1, _), (3, _), (4, _)]) [2, 3, 1, 0] rfl ?_
  refine x_M_find_l5 hB ?_ _ et7
  · intro z8 hz8
    subst hz8
    refine r_iload_n 0 dX12_find_45 rfl rfl ?_
    exact r_iret rfl dX12_find_46 (by have h1 := (Option.some.inj hf); subst h1; exact hr.symm)
/-! SearchEngineModel.inBuffer -/
noncomputable def M_inBuffer_l4 (R : RS) (x1 : Int32) (x2 : Int32) : Option ((Int32 × Int32) ⊕ Int32) :=
  if (R.1 0 15) ≤ x2 then
    some (Sum.inr x1)
  else
    (rdI R 11 400 x2).bind fun v2 =>
    (rdB R 5 400 v2).bind fun v3 =>
    Option.bind (
      if v3 = true then
        some (0 : Int32)
      else
        some (1 : Int32)) fun q4 =>
    some (Sum.inl ((x1 + q4), (x2 + (1 : Int32))))
noncomputable def M_inBuffer (R : RS) : Option Int32 :=
  (lp (fun q => M_inBuffer_l4 R q.1 q.2) ((0 : Int32), (0 : Int32))).bind fun z7 =>
  some z7
set_option maxRecDepth 100000 in
set_option maxHeartbeats 4000000 in
theorem x_M_inBuffer_l4 {Γ : W0} {σ0 : Mem} {r : RT} {τ : Mem} {B : Nat} {R : RS} {t : Int32} (hB : RB τ B) (hk0 : ∀ z : Int32, z = t → V Γ MD_M_inBuffer σ0 r (emb τ B R) 40 [(1, .int z)] []) : ∀ q : Int32 × Int32, lp (fun q => M_inBuffer_l4 R q.1 q.2) q = some t → V Γ MD_M_inBuffer σ0 r (emb τ B R) 4 [(0, va_rf (some B)), (1, .int q.1), (2, .int q.2)] [] := by
  refine lp_ind (fun (q : Int32 × Int32) => V Γ MD_M_inBuffer σ0 r (emb τ B R) 4 [(0, va_rf (some B)), (1, .int q.1), (2, .int q.2)] []) (fun q x hf ih ho => ?_)
  obtain ⟨x1, x2⟩ := q
  show V Γ MD_M_inBuffer σ0 r (emb τ B R) 4 [(0, va_rf (some B)), (1, .int x1), (2, .int x2)] []
  replace hf : M_inBuffer_l4 R x1 x2 = some x := hf
  unfold M_inBuffer_l4 at hf
  refine r_iload_n 2 dX12_inBuffer_4 rfl rfl ?_
  refine r_aload_n 0 dX12_inBuffer_5 rfl rfl ?_
  refine rr_ldI (k := 15) hB dX12_inBuffer_6 fl_RX12_207 rfl ?_
  refine r_icmp_ge 40 hf dX12_inBuffer_9 (by decide) (fun c1 hf => ?_) (fun c1 hf => ?_)
  · refine r_sub (L' := [(1, _)]) [1] rfl ?_
    exact hk0 _ (ho _ (Option.some.inj hf).symm)
  · refine r_iload_n 1 dX12_inBuffer_12 rfl rfl ?_
    refine r_aload_n 0 dX12_inBuffer_13 rfl rfl ?_
    refine rr_ldR (c := 5) hB dX12_inBuffer_14 fl_RX12_23 rfl rfl (by decide) ?_
    refine r_aload_n 0 dX12_inBuffer_17 rfl rfl ?_
    refine rr_ldR (c := 11) hB dX12_inBuffer_18 fl_RX12_44 rfl rfl (by decide) ?_
    refine r_iload_n 2 dX12_inBuffer_21 rfl rfl ?_
    refine rr_raI hf hB dX12_inBuffer_22 (by decide) rfl (fun v2 ev2 hf => ?_)
    refine rr_raB hf hB dX12_inBuffer_23 (by decide) rfl (fun v3 ev3 hf => ?_)
    refine r_bd (fun (q4 : Int32) => V Γ MD_M_inBuffer σ0 r (emb τ B R) 32 [(0, va_rf (some B)), (2, .int x2)] [.int q4, .int x1]) hf (fun q4 hf => ?_) (fun yq4 hf kq4 => ?_)
    · refine r_iadd dX12_inBuffer_32 ?_
      refine r_istore_n (L' := [(1, _), (0, _), (2, _)]) dX12_inBuffer_33 rfl (show 1 < 3 by decide) rfl ?_
      refine r_iinc (1 : Int32) (L' := [(2, _), (1, _), (0, _)]) 2 dX12_inBuffer_34 rfl (by decide) (show 2 < 3 by decide) rfl ?_
      refine r_goto 4 dX12_inBuffer_37 (by decide) ?_
      refine r_sub (L' := [(0, _), (1, _), (2, _)]) [2, 1, 0] rfl ?_
      exact ih _ (Option.some.inj hf).symm
    · refine r_ifeqZ 31 hf dX12_inBuffer_24 (by decide) (fun c5 hf => ?_) (fun c5 hf => ?_)
      · refine r_iconst (0 : Int32) dX12_inBuffer_27 (by decide) ?_
        refine r_goto 32 dX12_inBuffer_28 (by decide) ?_
        refine r_sub (L' := [(0, _), (2, _)]) [0, 2] rfl ?_
        cases (Option.some.inj hf)
        exact kq4
      · refine r_iconst (1 : Int32) dX12_inBuffer_31 (by decide) ?_
        refine r_sub (L' := [(0, _), (2, _)]) [0, 2] rfl ?_
        cases (Option.some.inj hf)
        exact kq4
set_option maxRecDepth 100000 in
set_option maxHeartbeats 4000000 in
theorem t_M_inBuffer {Γ : W0} {τ : Mem} {B : Nat} {R : RS} {v : Int32} (hB : RB τ B) (hf : M_inBuffer R = some v) : CT Γ MD_M_inBuffer yX12_inBuffer [va_rf (some B)] (emb τ B R) (some (.int v), (emb τ B R)) := by
  refine CT.of (L := [(0, va_rf (some B))]) rfl (by decide) (fun h => Bool.noConfusion (show false = true from h)) (Nat.le_of_ble_eq_true rfl) rfl ?_
  unfold M_inBuffer at hf
  generalize hr : mkR Γ (emb τ B R) (some (.int v)) (emb τ B R) = r
  refine r_iconst (0 : Int32) dX12_inBuffer_0 (by decide) ?_
  refine r_istore_n (L' := [(1, _), (0, _)]) dX12_inBuffer_1 rfl (show 1 < 3 by decide) rfl ?_
  refine r_iconst (0 : Int32) dX12_inBuffer_2 (by decide) ?_
  refine r_istore_n (L' := [(2, _), (1, _), (0, _)]) dX12_inBuffer_3 rfl (show 2 < 3 by decide) rfl ?_
  refine bnd hf (fun t6 et6 hf => ?_)
  refine r_sub (L' := [(0, _), (1, _), (2, _)]) [2, 1, 0] rfl ?_
  refine x_M_inBuffer_l4 hB ?_ _ et6
  · intro z7 hz7
    subst hz7
    refine r_iload_n 0 dX12_inBuffer_40 rfl rfl ?_
    exact r_iret rfl dX12_inBuffer_41 (by have h1 := (Option.some.inj hf); subst h1; exact hr.symm)
/-! SearchEngineModel.put -/
noncomputable def M_put (R : RS) (x1 : Int32) (x2 : Int32) : Option RS :=
  (rdI R 13 420 x1).bind fun v1 =>
  (wrI R 14 168000 (((400 : Int32) * x1) + v1) x2).bind fun R2 =>
  (rdI R2 13 420 x1).bind fun v3 =>
  (wrI R2 13 420 x1 (v3 + (1 : Int32))).bind fun R4 =>
  some R4
set_option maxRecDepth 100000 in
set_option maxHeartbeats 4000000 in
theorem t_M_put {Γ : W0} {τ : Mem} {B : Nat} {R : RS} {x1 : Int32} {x2 : Int32} {R' : RS} (hB : RB τ B) (hf : M_put R x1 x2 = some R') : CT Γ MD_M_put yX12_put [va_rf (some B), .int x1, .int x2] (emb τ B R) (none, (emb τ B R')) := by
  refine CT.of (L := [(0, va_rf (some B)), (1, .int x1), (2, .int x2)]) rfl (by decide) (fun h => Bool.noConfusion (show false = true from h)) (Nat.le_of_ble_eq_true rfl) rfl ?_
  unfold M_put at hf
  generalize hr : mkR Γ (emb τ B R) (none) (emb τ B R') = r
  refine r_aload_n 0 dX12_put_0 rfl rfl ?_
  refine rr_ldR (c := 14) hB dX12_put_1 fl_RX12_54 rfl rfl (by decide) ?_
  refine r_sipush (400 : Int32) dX12_put_4 (by decide) ?_
  refine r_iload_n 1 dX12_put_7 rfl rfl ?_
  refine r_imul dX12_put_8 ?_
  refine r_aload_n 0 dX12_put_9 rfl rfl ?_
  refine rr_ldR (c := 13) hB dX12_put_10 fl_RX12_50 rfl rfl (by decide) ?_
  refine r_iload_n 1 dX12_put_13 rfl rfl ?_
  refine rr_raI hf hB dX12_put_14 (by decide) rfl (fun v1 ev1 hf => ?_)
  refine r_iadd dX12_put_15 ?_
  refine r_iload_n 2 dX12_put_16 rfl rfl ?_
  refine rr_waI hf hB dX12_put_17 (by decide) rfl (fun R2 eR2 hf => ?_)
  refine r_aload_n 0 dX12_put_18 rfl rfl ?_
  refine rr_ldR (c := 13) hB dX12_put_19 fl_RX12_50 rfl rfl (by decide) ?_
  refine r_iload_n 1 dX12_put_22 rfl rfl ?_
  refine r_dup2 dX12_put_23 rfl (cat_rf _) ?_
  refine rr_raI hf hB dX12_put_24 (by decide) rfl (fun v3 ev3 hf => ?_)
  refine r_iconst (1 : Int32) dX12_put_25 (by decide) ?_
  refine r_iadd dX12_put_26 ?_
  refine rr_waI hf hB dX12_put_27 (by decide) rfl (fun R4 eR4 hf => ?_)
  exact r_vret rfl dX12_put_28 (by have h1 := (Option.some.inj hf); subst h1; exact hr.symm)
/-! SearchEngineModel.fourOf -/
noncomputable def M_fourOf_l17 (R : RS) (x1 : Int32) (x2 : Int32) (x3 : Int32) (x4 : Int32) : Option ((Int32 × Int32) ⊕ Int32) :=
  if (R.1 0 16) ≤ x4 then
    some (Sum.inr x3)
  else
    (rdI R 12 420 x4).bind fun v3 =>
    (rdI R 12 420 x2).bind fun v4 =>
    Option.bind (
      if ¬ v3 = v4 then
        some (0 : Int32)
      else
        some (1 : Int32)) fun q5 =>
    some (Sum.inl ((x3 + q5), (x4 + (1 : Int32))))
noncomputable def M_fourOf_l4 (R : RS) (x1 : Int32) (x2 : Int32) : Option ((Int32 × Int32) ⊕ Int32) :=
  if (R.1 0 16) ≤ x2 then
    some (Sum.inr x1)
  else
    (lp (fun q => M_fourOf_l17 R x1 x2 q.1 q.2) ((0 : Int32), (0 : Int32))).bind fun z8 =>
    Option.bind (
      if z8 < (4 : Int32) then
        some x1
      else
        jn (
          if x1 = (-1 : Int32) then
            some (Sum.inr ())
          else
            (rdI R 12 420 x2).bind fun v13 =>
            if x1 ≤ v13 then
              some (Sum.inl x1)
            else
              some (Sum.inr ())) fun q11 =>
        (rdI R 12 420 x2).bind fun v15 =>
        some v15) fun q9 =>
    some (Sum.inl (q9, (x2 + (1 : Int32))))
noncomputable def M_fourOf (R : RS) : Option Int32 :=
  (lp (fun q => M_fourOf_l4 R q.1 q.2) ((-1 : Int32), (0 : Int32))).bind fun z17 =>
  some z17
set_option maxRecDepth 100000 in
set_option maxHeartbeats 4000000 in
theorem x_M_fourOf_l17 {Γ : W0} {σ0 : Mem} {r : RT} {τ : Mem} {B : Nat} {R : RS} {x1 : Int32} {x2 : Int32} {t : Int32} (hB : RB τ B) (hk0 : ∀ z : Int32, z = t → V Γ MD_M_fourOf σ0 r (emb τ B R) 56 [(0, va_rf (some B)), (1, .int x1), (2, .int x2), (3, .int z)] []) : ∀ q : Int32 × Int32, lp (fun q => M_fourOf_l17 R x1 x2 q.1 q.2) q = some t → V Γ MD_M_fourOf σ0 r (emb τ B R) 17 [(0, va_rf (some B)), (1, .int x1), (2, .int x2), (3, .int q.1), (4, .int q.2)] [] := by
  refine lp_ind (fun (q : Int32 × Int32) => V Γ MD_M_fourOf σ0 r (emb τ B R) 17 [(0, va_rf (some B)), (1, .int x1), (2, .int x2), (3, .int q.1), (4, .int q.2)] []) (fun q x hf ih ho => ?_)
  obtain ⟨x3, x4⟩ := q
  show V Γ MD_M_fourOf σ0 r (emb τ B R) 17 [(0, va_rf (some B)), (1, .int x1), (2, .int x2), (3, .int x3), (4, .int x4)] []
  replace hf : M_fourOf_l17 R x1 x2 x3 x4 = some x := hf
  unfold M_fourOf_l17 at hf
  refine r_iload 4 dX12_fourOf_17 rfl ?_
  refine r_aload_n 0 dX12_fourOf_19 rfl rfl ?_
  refine rr_ldI (k := 16) hB dX12_fourOf_20 fl_RX12_217 rfl ?_
  refine r_icmp_ge 56 hf dX12_fourOf_23 (by decide) (fun c2 hf => ?_) (fun c2 hf => ?_)
  · refine r_sub (L' := [(0, _), (1, _), (2, _), (3, _)]) [0, 1, 2, 3] rfl ?_
    exact hk0 _ (ho _ (Option.some.inj hf).symm)
  · refine r_iload_n 3 dX12_fourOf_26 rfl rfl ?_
    refine r_aload_n 0 dX12_fourOf_27 rfl rfl ?_
    refine rr_ldR (c := 12) hB dX12_fourOf_28 fl_RX12_47 rfl rfl (by decide) ?_
    refine r_iload 4 dX12_fourOf_31 rfl ?_
    refine rr_raI hf hB dX12_fourOf_33 (by decide) rfl (fun v3 ev3 hf => ?_)
    refine r_aload_n 0 dX12_fourOf_34 rfl rfl ?_
    refine rr_ldR (c := 12) hB dX12_fourOf_35 fl_RX12_47 rfl rfl (by decide) ?_
    refine r_iload_n 2 dX12_fourOf_38 rfl rfl ?_
    refine rr_raI hf hB dX12_fourOf_39 (by decide) rfl (fun v4 ev4 hf => ?_)
    refine r_bd (fun (q5 : Int32) => V Γ MD_M_fourOf σ0 r (emb τ B R) 48 [(0, va_rf (some B)), (1, .int x1), (2, .int x2), (4, .int x4)] [.int q5, .int x3]) hf (fun q5 hf => ?_) (fun yq5 hf kq5 => ?_)
    · refine r_iadd dX12_fourOf_48 ?_
      refine r_istore_n (L' := [(3, _), (0, _), (1, _), (2, _), (4, _)]) dX12_fourOf_49 rfl (show 3 < 5 by decide) rfl ?_
      refine r_iinc (1 : Int32) (L' := [(4, _), (3, _), (0, _), (1, _), (2, _)]) 4 dX12_fourOf_50 rfl (by decide) (show 4 < 5 by decide) rfl ?_
      refine r_goto 17 dX12_fourOf_53 (by decide) ?_
      refine r_sub (L' := [(0, _), (1, _), (2, _), (3, _), (4, _)]) [2, 3, 4, 1, 0] rfl ?_
      exact ih _ (Option.some.inj hf).symm
    · refine r_icmp_ne 47 hf dX12_fourOf_40 (by decide) (fun c6 hf => ?_) (fun c6 hf => ?_)
      · refine r_iconst (0 : Int32) dX12_fourOf_47 (by decide) ?_
        refine r_sub (L' := [(0, _), (1, _), (2, _), (4, _)]) [0, 1, 2, 4] rfl ?_
        cases (Option.some.inj hf)
        exact kq5
      · refine r_iconst (1 : Int32) dX12_fourOf_43 (by decide) ?_
        refine r_goto 48 dX12_fourOf_44 (by decide) ?_
        refine r_sub (L' := [(0, _), (1, _), (2, _), (4, _)]) [0, 1, 2, 4] rfl ?_
        cases (Option.some.inj hf)
        exact kq5
set_option maxRecDepth 100000 in
set_option maxHeartbeats 4000000 in
theorem x_M_fourOf_l4 {Γ : W0} {σ0 : Mem} {r : RT} {τ : Mem} {B : Nat} {R : RS} {t : Int32} (hB : RB τ B) (hk0 : ∀ z : Int32, z = t → V Γ MD_M_fourOf σ0 r (emb τ B R) 89 [(1, .int z)] []) : ∀ q : Int32 × Int32, lp (fun q => M_fourOf_l4 R q.1 q.2) q = some t → V Γ MD_M_fourOf σ0 r (emb τ B R) 4 [(0, va_rf (some B)), (1, .int q.1), (2, .int q.2)] [] := by
  refine lp_ind (fun (q : Int32 × Int32) => V Γ MD_M_fourOf σ0 r (emb τ B R) 4 [(0, va_rf (some B)), (1, .int q.1), (2, .int q.2)] []) (fun q x hf ih ho => ?_)
  obtain ⟨x1, x2⟩ := q
  show V Γ MD_M_fourOf σ0 r (emb τ B R) 4 [(0, va_rf (some B)), (1, .int x1), (2, .int x2)] []
  replace hf : M_fourOf_l4 R x1 x2 = some x := hf
  unfold M_fourOf_l4 at hf
  refine r_iload_n 2 dX12_fourOf_4 rfl rfl ?_
  refine r_aload_n 0 dX12_fourOf_5 rfl rfl ?_
  refine rr_ldI (k := 16) hB dX12_fourOf_6 fl_RX12_217 rfl ?_
  refine r_icmp_ge 89 hf dX12_fourOf_9 (by decide) (fun c1 hf => ?_) (fun c1 hf => ?_)
  · refine r_sub (L' := [(1, _)]) [1] rfl ?_
    exact hk0 _ (ho _ (Option.some.inj hf).symm)
  · refine r_iconst (0 : Int32) dX12_fourOf_12 (by decide) ?_
    refine r_istore_n (L' := [(3, _), (0, _), (1, _), (2, _)]) dX12_fourOf_13 rfl (show 3 < 5 by decide) rfl ?_
    refine r_iconst (0 : Int32) dX12_fourOf_14 (by decide) ?_
    refine r_istore (L' := [(4, _), (3, _), (0, _), (1, _), (2, _)]) dX12_fourOf_15 (show 4 < 5 by decide) rfl ?_
    refine bnd hf (fun t7 et7 hf => ?_)
    refine r_sub (L' := [(0, _), (1, _), (2, _), (3, _), (4, _)]) [2, 3, 4, 1, 0] rfl ?_
    refine x_M_fourOf_l17 hB ?_ _ et7
    · intro z8 hz8
      subst hz8
      refine r_iload_n 3 dX12_fourOf_56 rfl rfl ?_
      refine r_iconst (4 : Int32) dX12_fourOf_57 (by decide) ?_
      refine r_bd (fun (q9 : Int32) => V Γ MD_M_fourOf σ0 r (emb τ B R) 83 [(0, va_rf (some B)), (1, .int q9), (2, .int x2)] []) hf (fun q9 hf => ?_) (fun yq9 hf kq9 => ?_)
      · refine r_iinc (1 : Int32) (L' := [(2, _), (0, _), (1, _)]) 2 dX12_fourOf_83 rfl (by decide) (show 2 < 5 by decide) rfl ?_
        refine r_goto 4 dX12_fourOf_86 (by decide) ?_
        refine r_sub (L' := [(0, _), (1, _), (2, _)]) [1, 2, 0] rfl ?_
        exact ih _ (Option.some.inj hf).symm
      · refine r_icmp_lt 83 hf dX12_fourOf_58 (by decide) (fun c10 hf => ?_) (fun c10 hf => ?_)
        · refine r_sub (L' := [(0, _), (1, _), (2, _)]) [0, 1, 2] rfl ?_
          cases (Option.some.inj hf)
          exact kq9
        · refine r_iload_n 1 dX12_fourOf_61 rfl rfl ?_
          refine r_iconst (-1 : Int32) dX12_fourOf_62 (by decide) ?_
          refine r_jn (fun (q11 : Unit) => V Γ MD_M_fourOf σ0 r (emb τ B R) 76 [(0, va_rf (some B)), (2, .int x2)] []) hf (fun q11 hf => ?_) (fun yq11 hf oq11 kq11 => ?_)
          · refine r_aload_n 0 dX12_fourOf_76 rfl rfl ?_
            refine rr_ldR (c := 12) hB dX12_fourOf_77 fl_RX12_47 rfl rfl (by decide) ?_
            refine r_iload_n 1 dX12_fourOf_80 rfl rfl ?_
            refine rr_raI hf hB dX12_fourOf_81 (by decide) rfl (fun v15 ev15 hf => ?_)
            refine r_istore_n (L' := [(1, _), (0, _), (2, _)]) dX12_fourOf_82 rfl (show 1 < 5 by decide) rfl ?_
            refine r_sub (L' := [(0, _), (1, _), (2, _)]) [1, 0, 2] rfl ?_
            cases (Option.some.inj hf)
            exact kq9
          · refine r_icmp_eq 76 hf dX12_fourOf_63 (by decide) (fun c12 hf => ?_) (fun c12 hf => ?_)
            · refine r_sub (L' := [(0, _), (2, _)]) [0, 2] rfl ?_
              exact kq11 _ (Option.some.inj hf).symm
            · refine r_aload_n 0 dX12_fourOf_66 rfl rfl ?_
              refine rr_ldR (c := 12) hB dX12_fourOf_67 fl_RX12_47 rfl rfl (by decide) ?_
              refine r_iload_n 2 dX12_fourOf_70 rfl rfl ?_
              refine rr_raI hf hB dX12_fourOf_71 (by decide) rfl (fun v13 ev13 hf => ?_)
              refine r_iload_n 1 dX12_fourOf_72 rfl rfl ?_
              refine r_icmp_ge 83 hf dX12_fourOf_73 (by decide) (fun c14 hf => ?_) (fun c14 hf => ?_)
              · refine r_sub (L' := [(0, _), (1, _), (2, _)]) [0, 1, 2] rfl ?_
                cases (oq11 _ (Option.some.inj hf).symm)
                exact kq9
              · refine r_sub (L' := [(0, _), (2, _)]) [0, 2] rfl ?_
                exact kq11 _ (Option.some.inj hf).symm
set_option maxRecDepth 100000 in
set_option maxHeartbeats 4000000 in
theorem t_M_fourOf {Γ : W0} {τ : Mem} {B : Nat} {R : RS} {v : Int32} (hB : RB τ B) (hf : M_fourOf R = some v) : CT Γ MD_M_fourOf yX12_fourOf [va_rf (some B)] (emb τ B R) (some (.int v), (emb τ B R)) := by
  refine CT.of (L := [(0, va_rf (some B))]) rfl (by decide) (fun h => Bool.noConfusion (show false = true from h)) (Nat.le_of_ble_eq_true rfl) rfl ?_
  unfold M_fourOf at hf
  generalize hr : mkR Γ (emb τ B R) (some (.int v)) (emb τ B R) = r
  refine r_iconst (-1 : Int32) dX12_fourOf_0 (by decide) ?_
  refine r_istore_n (L' := [(1, _), (0, _)]) dX12_fourOf_1 rfl (show 1 < 5 by decide) rfl ?_
  refine r_iconst (0 : Int32) dX12_fourOf_2 (by decide) ?_
  refine r_istore_n (L' := [(2, _), (1, _), (0, _)]) dX12_fourOf_3 rfl (show 2 < 5 by decide) rfl ?_
  refine bnd hf (fun t16 et16 hf => ?_)
  refine r_sub (L' := [(0, _), (1, _), (2, _)]) [2, 1, 0] rfl ?_
  refine x_M_fourOf_l4 hB ?_ _ et16
  · intro z17 hz17
    subst hz17
    refine r_iload_n 0 dX12_fourOf_89 rfl rfl ?_
    exact r_iret rfl dX12_fourOf_90 (by have h1 := (Option.some.inj hf); subst h1; exact hr.symm)
/-! SearchEngineModel.move -/
noncomputable def M_move_l32 (R : RS) (x1 : Int32) (x2 : Int32) (x3 : Int32) : Option ((Int32 × RS) ⊕ RS) :=
  (rdI R 13 420 x1).bind fun v6 =>
  if v6 ≤ x3 then
    some (Sum.inr R)
  else
    (rdI R 14 168000 (((400 : Int32) * x1) + x3)).bind fun v8 =>
    (wrI R 14 168000 (((400 : Int32) * x2) + x3) v8).bind fun R9 =>
    some (Sum.inl ((x3 + (1 : Int32)), R9))
noncomputable def M_move (R : RS) (x1 : Int32) (x2 : Int32) : Option RS :=
  if ¬ x1 = x2 then
    (rdI R 12 420 x1).bind fun v2 =>
    (wrI R 12 420 x2 v2).bind fun R3 =>
    (rdI R3 13 420 x1).bind fun v4 =>
    (wrI R3 13 420 x2 v4).bind fun R5 =>
    (lp (fun q => M_move_l32 q.2 x1 x2 q.1) ((0 : Int32), R5)).bind fun z11 =>
    some z11
  else
    some R
set_option maxRecDepth 100000 in
set_option maxHeartbeats 4000000 in
theorem x_M_move_l32 {Γ : W0} {σ0 : Mem} {r : RT} {τ : Mem} {B : Nat} {x1 : Int32} {x2 : Int32} {t : RS} (hB : RB τ B) (hk0 : ∀ z : RS, z = t → V Γ MD_M_move σ0 r (emb τ B z) 72 [] []) : ∀ q : Int32 × RS, lp (fun q => M_move_l32 q.2 x1 x2 q.1) q = some t → V Γ MD_M_move σ0 r (emb τ B q.2) 32 [(0, va_rf (some B)), (1, .int x1), (2, .int x2), (3, .int q.1)] [] := by
  refine lp_ind (fun (q : Int32 × RS) => V Γ MD_M_move σ0 r (emb τ B q.2) 32 [(0, va_rf (some B)), (1, .int x1), (2, .int x2), (3, .int q.1)] []) (fun q x hf ih ho => ?_)
  obtain ⟨x3, R⟩ := q
  show V Γ MD_M_move σ0 r (emb τ B R) 32 [(0, va_rf (some B)), (1, .int x1), (2, .int x2), (3, .int x3)] []
  replace hf : M_move_l32 R x1 x2 x3 = some x := hf
  unfold M_move_l32 at hf
  refine r_iload_n 3 dX12_move_32 rfl rfl ?_
  refine r_aload_n 0 dX12_move_33 rfl rfl ?_
  refine rr_ldR (c := 13) hB dX12_move_34 fl_RX12_50 rfl rfl (by decide) ?_
  refine r_iload_n 1 dX12_move_37 rfl rfl ?_
  refine rr_raI hf hB dX12_move_38 (by decide) rfl (fun v6 ev6 hf => ?_)
  refine r_icmp_ge 72 hf dX12_move_39 (by decide) (fun c7 hf => ?_) (fun c7 hf => ?_)
  · refine r_sub (L' := []) [] rfl ?_
    exact hk0 _ (ho _ (Option.some.inj hf).symm)
  · refine r_aload_n 0 dX12_move_42 rfl rfl ?_
    refine rr_ldR (c := 14) hB dX12_move_43 fl_RX12_54 rfl rfl (by decide) ?_
    refine r_sipush (400 : Int32) dX12_move_46 (by decide) ?_
    refine r_iload_n 2 dX12_move_49 rfl rfl ?_
    refine r_imul dX12_move_50 ?_
    refine r_iload_n 3 dX12_move_51 rfl rfl ?_
    refine r_iadd dX12_move_52 ?_
    refine r_aload_n 0 dX12_move_53 rfl rfl ?_
    refine rr_ldR (c := 14) hB dX12_move_54 fl_RX12_54 rfl rfl (by decide) ?_
    refine r_sipush (400 : Int32) dX12_move_57 (by decide) ?_
    refine r_iload_n 1 dX12_move_60 rfl rfl ?_
    refine r_imul dX12_move_61 ?_
    refine r_iload_n 3 dX12_move_62 rfl rfl ?_
    refine r_iadd dX12_move_63 ?_
    refine rr_raI hf hB dX12_move_64 (by decide) rfl (fun v8 ev8 hf => ?_)
    refine rr_waI hf hB dX12_move_65 (by decide) rfl (fun R9 eR9 hf => ?_)
    refine r_iinc (1 : Int32) (L' := [(3, _), (0, _), (1, _), (2, _)]) 3 dX12_move_66 rfl (by decide) (show 3 < 4 by decide) rfl ?_
    refine r_goto 32 dX12_move_69 (by decide) ?_
    refine r_sub (L' := [(0, _), (1, _), (2, _), (3, _)]) [1, 2, 3, 0] rfl ?_
    exact ih _ (Option.some.inj hf).symm
set_option maxRecDepth 100000 in
set_option maxHeartbeats 4000000 in
theorem t_M_move {Γ : W0} {τ : Mem} {B : Nat} {R : RS} {x1 : Int32} {x2 : Int32} {R' : RS} (hB : RB τ B) (hf : M_move R x1 x2 = some R') : CT Γ MD_M_move yX12_move [va_rf (some B), .int x1, .int x2] (emb τ B R) (none, (emb τ B R')) := by
  refine CT.of (L := [(0, va_rf (some B)), (1, .int x1), (2, .int x2)]) rfl (by decide) (fun h => Bool.noConfusion (show false = true from h)) (Nat.le_of_ble_eq_true rfl) rfl ?_
  unfold M_move at hf
  generalize hr : mkR Γ (emb τ B R) (none) (emb τ B R') = r
  refine r_iload_n 1 dX12_move_0 rfl rfl ?_
  refine r_iload_n 2 dX12_move_1 rfl rfl ?_
  refine r_icmp_ne 6 hf dX12_move_2 (by decide) (fun c1 hf => ?_) (fun c1 hf => ?_)
  · refine r_aload_n 0 dX12_move_6 rfl rfl ?_
    refine rr_ldR (c := 12) hB dX12_move_7 fl_RX12_47 rfl rfl (by decide) ?_
    refine r_iload_n 2 dX12_move_10 rfl rfl ?_
    refine r_aload_n 0 dX12_move_11 rfl rfl ?_
    refine rr_ldR (c := 12) hB dX12_move_12 fl_RX12_47 rfl rfl (by decide) ?_
    refine r_iload_n 1 dX12_move_15 rfl rfl ?_
    refine rr_raI hf hB dX12_move_16 (by decide) rfl (fun v2 ev2 hf => ?_)
    refine rr_waI hf hB dX12_move_17 (by decide) rfl (fun R3 eR3 hf => ?_)
    refine r_aload_n 0 dX12_move_18 rfl rfl ?_
    refine rr_ldR (c := 13) hB dX12_move_19 fl_RX12_50 rfl rfl (by decide) ?_
    refine r_iload_n 2 dX12_move_22 rfl rfl ?_
    refine r_aload_n 0 dX12_move_23 rfl rfl ?_
    refine rr_ldR (c := 13) hB dX12_move_24 fl_RX12_50 rfl rfl (by decide) ?_
    refine r_iload_n 1 dX12_move_27 rfl rfl ?_
    refine rr_raI hf hB dX12_move_28 (by decide) rfl (fun v4 ev4 hf => ?_)
    refine rr_waI hf hB dX12_move_29 (by decide) rfl (fun R5 eR5 hf => ?_)
    refine r_iconst (0 : Int32) dX12_move_30 (by decide) ?_
    refine r_istore_n (L' := [(3, _), (0, _), (1, _), (2, _)]) dX12_move_31 rfl (show 3 < 4 by decide) rfl ?_
    refine bnd hf (fun t10 et10 hf => ?_)
    refine r_sub (L' := [(0, _), (1, _), (2, _), (3, _)]) [1, 2, 3, 0] rfl ?_
    refine x_M_move_l32 hB ?_ _ et10
    · intro z11 hz11
      subst hz11
      exact r_vret rfl dX12_move_72 (by have h1 := (Option.some.inj hf); subst h1; exact hr.symm)
  · exact r_vret rfl dX12_move_5 (by have h1 := (Option.some.inj hf); subst h1; exact hr.symm)
