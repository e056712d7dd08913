/-! methods as functions, with their walks (by program) -/
/-! SearchEngine.hit -/
noncomputable def E_hit (σ : Mem) (th : Nat) (x1 : Int32) (x2 : Int32) : Option Int32 :=
  if x2 < 0 then
    some (-2 : Int32)
  else
    if x2 ≤ (5 : Int32) then
      (ldR σ 11 12 (some th)).bind fun v3 =>
      (chk σ 0 v3).bind fun a4 =>
      (An_documentAt σ a4 x1).bind fun v5 =>
      if v5 = none then
        some (-1 : Int32)
      else
        if x2 = (0 : Int32) then
          (ldR σ 11 12 (some th)).bind fun v8 =>
          (chk σ 0 v8).bind fun a9 =>
          (An_scoreAt σ a9 x1).bind fun v10 =>
          some v10
        else
        if x2 = (1 : Int32) then
          (ldI σ 1 1 v5).bind fun v12 =>
          some v12
        else
        if x2 = (2 : Int32) then
          (ldI σ 1 2 v5).bind fun v14 =>
          some v14
        else
        if x2 = (3 : Int32) then
          (ldR σ 1 4 v5).bind fun v16 =>
          (chk σ 8 v16).bind fun a17 =>
          (Te_tokens σ a17).bind fun v18 =>
          some v18
        else
        if x2 = (4 : Int32) then
          (ldR σ 1 5 v5).bind fun v20 =>
          (chk σ 8 v20).bind fun a21 =>
          (Te_tokens σ a21).bind fun v22 =>
          some v22
        else
        (ldI σ 1 3 v5).bind fun v23 =>
        some v23
    else
      some (-2 : Int32)
set_option maxRecDepth 100000 in
set_option maxHeartbeats 4000000 in
theorem t_E_hit {Γ : W0} {σ : Mem} {th : Nat} {x1 : Int32} {x2 : Int32} {v : Int32} (hf : E_hit σ th x1 x2 = some v) : CT Γ MD_E_hit yX11_hit [va_rf (some th), .int x1, .int x2] σ (some (.int v), σ) := by
  refine CT.of (L := [(0, va_rf (some th)), (1, .int x1), (2, .int x2)]) rfl (by decide) (fun h => Bool.noConfusion (show false = true from h)) (Nat.le_of_ble_eq_true rfl) rfl ?_
  unfold E_hit at hf
  generalize hr : mkR Γ σ (some (.int v)) σ = r
  refine r_iload_n 2 dX11_hit_0 rfl rfl ?_
  refine r_if_lt 9 hf dX11_hit_1 (by decide) (fun c1 hf => ?_) (fun c1 hf => ?_)
  · refine r_bipush (-2 : Int32) dX11_hit_9 (by decide) ?_
    exact r_iret rfl dX11_hit_11 (by have h1 := (Option.some.inj hf); subst h1; exact hr.symm)
  · refine r_iload_n 2 dX11_hit_4 rfl rfl ?_
    refine r_iconst (5 : Int32) dX11_hit_5 (by decide) ?_
    refine r_icmp_le 12 hf dX11_hit_6 (by decide) (fun c2 hf => ?_) (fun c2 hf => ?_)
    · refine r_aload_n 0 dX11_hit_12 rfl rfl ?_
      refine r_ldR hf dX11_hit_13 fl_RX11_47 rfl (fun v3 ev3 hf => ?_)
      refine r_iload_n 1 dX11_hit_16 rfl rfl ?_
      refine r_chk hf (fun a4 xa4 ta4 hf => ?_)
      refine bnd hf (fun v5 ev5 hf => ?_)
      refine r_callVr (ci := 0) xa4 dX11_hit_17 cs_RX11_157 ww_908 ww_909 (by decide) ta4 (by decide) rfl (rest := []) rfl (Or.inl (Nat.le_of_ble_eq_true rfl)) (t_An_documentAt ev5) ?_
      refine r_astore_n (L' := [(3, _), (0, _), (1, _), (2, _)]) dX11_hit_20 rfl (show 3 < 4 by decide) rfl ?_
      refine r_aload_n 0 dX11_hit_21 rfl rfl ?_
      refine r_ifnonnull 27 hf dX11_hit_22 (by decide) (fun c6 hf => ?_) (fun c6 hf => ?_)
      · refine r_iconst (-1 : Int32) dX11_hit_25 (by decide) ?_
        exact r_iret rfl dX11_hit_26 (by have h1 := (Option.some.inj hf); subst h1; exact hr.symm)
      · refine r_iload_n 3 dX11_hit_27 rfl rfl ?_
        refine sw_pos hf (fun c7 hf => ?_) (fun c7 hf => ?_)
        · refine r_tableIn 64 dX11_hit_28 (by rw [c7]; decide) (by rw [c7]; decide) (by rw [c7] <;> rfl) (by decide) ?_
          refine r_aload_n 1 dX11_hit_64 rfl rfl ?_
          refine r_ldR hf dX11_hit_65 fl_RX11_47 rfl (fun v8 ev8 hf => ?_)
          refine r_iload_n 2 dX11_hit_68 rfl rfl ?_
          refine r_chk hf (fun a9 xa9 ta9 hf => ?_)
          refine bnd hf (fun v10 ev10 hf => ?_)
          refine r_callVr (ci := 0) xa9 dX11_hit_69 cs_RX11_164 ww_916 ww_917 (by decide) ta9 (by decide) rfl (rest := []) rfl (Or.inl (Nat.le_of_ble_eq_true rfl)) (t_An_scoreAt ev10) ?_
          exact r_iret rfl dX11_hit_72 (by have h1 := (Option.some.inj hf); subst h1; exact hr.symm)
        refine sw_pos hf (fun c11 hf => ?_) (fun c11 hf => ?_)
        · refine r_tableIn 73 dX11_hit_28 (by rw [c11]; decide) (by rw [c11]; decide) (by rw [c11] <;> rfl) (by decide) ?_
          refine r_aload_n 0 dX11_hit_73 rfl rfl ?_
          refine r_ldI hf dX11_hit_74 fl_RX11_167 rfl (fun v12 ev12 hf => ?_)
          exact r_iret rfl dX11_hit_77 (by have h1 := (Option.some.inj hf); subst h1; exact hr.symm)
        refine sw_pos hf (fun c13 hf => ?_) (fun c13 hf => ?_)
        · refine r_tableIn 78 dX11_hit_28 (by rw [c13]; decide) (by rw [c13]; decide) (by rw [c13] <;> rfl) (by decide) ?_
          refine r_aload_n 0 dX11_hit_78 rfl rfl ?_
          refine r_ldI hf dX11_hit_79 fl_RX11_170 rfl (fun v14 ev14 hf => ?_)
          exact r_iret rfl dX11_hit_82 (by have h1 := (Option.some.inj hf); subst h1; exact hr.symm)
        refine sw_pos hf (fun c15 hf => ?_) (fun c15 hf => ?_)
        · refine r_tableIn 83 dX11_hit_28 (by rw [c15]; decide) (by rw [c15]; decide) (by rw [c15] <;> rfl) (by decide) ?_
          refine r_aload_n 0 dX11_hit_83 rfl rfl ?_
          refine r_ldR hf dX11_hit_84 fl_RX11_173 rfl (fun v16 ev16 hf => ?_)
          refine r_chk hf (fun a17 xa17 ta17 hf => ?_)
          refine bnd hf (fun v18 ev18 hf => ?_)
          refine r_callVr (ci := 8) xa17 dX11_hit_87 cs_RX11_177 ww_859 ww_860 (by decide) ta17 (by decide) rfl (rest := []) rfl (Or.inl (Nat.le_of_ble_eq_true rfl)) (t_Te_tokens ev18) ?_
          exact r_iret rfl dX11_hit_90 (by have h1 := (Option.some.inj hf); subst h1; exact hr.symm)
        refine sw_pos hf (fun c19 hf => ?_) (fun c19 hf => ?_)
        · refine r_tableIn 91 dX11_hit_28 (by rw [c19]; decide) (by rw [c19]; decide) (by rw [c19] <;> rfl) (by decide) ?_
          refine r_aload_n 0 dX11_hit_91 rfl rfl ?_
          refine r_ldR hf dX11_hit_92 fl_RX11_180 rfl (fun v20 ev20 hf => ?_)
          refine r_chk hf (fun a21 xa21 ta21 hf => ?_)
          refine bnd hf (fun v22 ev22 hf => ?_)
          refine r_callVr (ci := 8) xa21 dX11_hit_95 cs_RX11_177 ww_859 ww_860 (by decide) ta21 (by decide) rfl (rest := []) rfl (Or.inl (Nat.le_of_ble_eq_true rfl)) (t_Te_tokens ev22) ?_
          exact r_iret rfl dX11_hit_98 (by have h1 := (Option.some.inj hf); subst h1; exact hr.symm)
        refine r_tableOut 99 dX11_hit_28 (by have nc7 := sw_ne (n := 0) c7 rfl; have nc11 := sw_ne (n := 1) c11 rfl; have nc13 := sw_ne (n := 2) c13 rfl; have nc15 := sw_ne (n := 3) c15 rfl; have nc19 := sw_ne (n := 4) c19 rfl; omega) (by decide) ?_
        refine r_aload_n 0 dX11_hit_99 rfl rfl ?_
        refine r_ldI hf dX11_hit_100 fl_RX11_183 rfl (fun v23 ev23 hf => ?_)
        exact r_iret rfl dX11_hit_103 (by have h1 := (Option.some.inj hf); subst h1; exact hr.symm)
    · refine r_bipush (-2 : Int32) dX11_hit_9 (by decide) ?_
      exact r_iret rfl dX11_hit_11 (by have h1 := (Option.some.inj hf); subst h1; exact hr.symm)
/-! SearchEngine.bucket -/
noncomputable def E_bucket_l32 (σ : Mem) (th : Nat) (x1 : Int32) (x2 : Int32) (x4 : Int64) (x6 : Int32) (x7 : Int32) : Option ((Int32 × Int32) ⊕ Int32) :=
  (ldR σ 11 12 (some th)).bind fun v4 =>
  (ldI σ 0 4 v4).bind fun v5 =>
  if v5 ≤ x7 then
    some (Sum.inr x6)
  else
    (ldR σ 11 12 (some th)).bind fun v7 =>
    (chk σ 0 v7).bind fun a8 =>
    (An_documentAt σ a8 x7).bind fun v9 =>
    Option.bind (
      if v9 = none then
        some x6
      else
        (chk σ 1 v9).bind fun a12 =>
        (Do_isBetween σ a12 x1 x2.toInt64 x4).bind fun v13 =>
        if v13 = true then
          some (x6 + (1 : Int32))
        else
          some x6) fun q10 =>
    some (Sum.inl (q10, (x7 + (1 : Int32))))
noncomputable def E_bucket (σ : Mem) (th : Nat) (x1 : Int32) (x2 : Int32) (x3 : Int32) : Option Int32 :=
  if x1 < 0 then
    some (-2 : Int32)
  else
    if (2 : Int32) ≤ x1 then
      some (-2 : Int32)
    else
      if (1 : Int32) ≤ x3 then
        (lp (fun q => E_bucket_l32 σ th x1 x2 ((x2.toInt64 + x3.toInt64) - (1 : Int64)) q.1 q.2) ((0 : Int32), (0 : Int32))).bind fun z16 =>
        some z16
      else
        some (-2 : Int32)
set_option maxRecDepth 100000 in
set_option maxHeartbeats 4000000 in
theorem x_E_bucket_l32 {Γ : W0} {σ0 : Mem} {r : RT} {σ : Mem} {th : Nat} {x1 : Int32} {x2 : Int32} {x4 : Int64} {t : Int32} (hk0 : ∀ z : Int32, z = t → V Γ MD_E_bucket σ0 r σ 82 [(6, .int z)] []) : ∀ q : Int32 × Int32, lp (fun q => E_bucket_l32 σ th x1 x2 x4 q.1 q.2) q = some t → V Γ MD_E_bucket σ0 r σ 32 [(0, va_rf (some th)), (1, .int x1), (2, .int x2), (4, .long x4), (6, .int q.1), (7, .int q.2)] [] := by
  refine lp_ind (fun (q : Int32 × Int32) => V Γ MD_E_bucket σ0 r σ 32 [(0, va_rf (some th)), (1, .int x1), (2, .int x2), (4, .long x4), (6, .int q.1), (7, .int q.2)] []) (fun q x hf ih ho => ?_)
  obtain ⟨x6, x7⟩ := q
  show V Γ MD_E_bucket σ0 r σ 32 [(0, va_rf (some th)), (1, .int x1), (2, .int x2), (4, .long x4), (6, .int x6), (7, .int x7)] []
  replace hf : E_bucket_l32 σ th x1 x2 x4 x6 x7 = some x := hf
  unfold E_bucket_l32 at hf
  refine r_iload 5 dX11_bucket_32 rfl ?_
  refine r_aload_n 0 dX11_bucket_34 rfl rfl ?_
  refine r_ldR hf dX11_bucket_35 fl_RX11_47 rfl (fun v4 ev4 hf => ?_)
  refine r_ldI hf dX11_bucket_38 fl_RX11_156 rfl (fun v5 ev5 hf => ?_)
  refine r_icmp_ge 82 hf dX11_bucket_41 (by decide) (fun c6 hf => ?_) (fun c6 hf => ?_)
  · refine r_sub (L' := [(6, _)]) [4] rfl ?_
    exact hk0 _ (ho _ (Option.some.inj hf).symm)
  · refine r_aload_n 0 dX11_bucket_44 rfl rfl ?_
    refine r_ldR hf dX11_bucket_45 fl_RX11_47 rfl (fun v7 ev7 hf => ?_)
    refine r_iload 5 dX11_bucket_48 rfl ?_
    refine r_chk hf (fun a8 xa8 ta8 hf => ?_)
    refine bnd hf (fun v9 ev9 hf => ?_)
    refine r_callVr (ci := 0) xa8 dX11_bucket_50 cs_RX11_157 ww_908 ww_909 (by decide) ta8 (by decide) rfl (rest := []) rfl (Or.inl (Nat.le_of_ble_eq_true rfl)) (t_An_documentAt ev9) ?_
    refine r_astore (L' := [(8, _), (0, _), (1, _), (2, _), (4, _), (6, _), (7, _)]) dX11_bucket_53 (show 8 < 9 by decide) rfl ?_
    refine r_aload 0 dX11_bucket_55 rfl ?_
    refine r_bd (fun (q10 : Int32) => V Γ MD_E_bucket σ0 r σ 76 [(0, va_rf (some th)), (1, .int x1), (2, .int x2), (4, .long x4), (6, .int q10), (7, .int x7)] []) hf (fun q10 hf => ?_) (fun yq10 hf kq10 => ?_)
    · refine r_iinc (1 : Int32) (L' := [(7, _), (0, _), (1, _), (2, _), (4, _), (6, _)]) 5 dX11_bucket_76 rfl (by decide) (show 7 < 9 by decide) rfl ?_
      refine r_goto 32 dX11_bucket_79 (by decide) ?_
      refine r_sub (L' := [(0, _), (1, _), (2, _), (4, _), (6, _), (7, _)]) [1, 2, 3, 4, 5, 0] rfl ?_
      exact ih _ (Option.some.inj hf).symm
    · refine r_ifnull 76 hf dX11_bucket_57 (by decide) (fun c11 hf => ?_) (fun c11 hf => ?_)
      · refine r_sub (L' := [(0, _), (1, _), (2, _), (4, _), (6, _), (7, _)]) [1, 2, 3, 4, 5, 6] rfl ?_
        cases (Option.some.inj hf)
        exact kq10
      · refine r_aload 0 dX11_bucket_60 rfl ?_
        refine r_iload_n 2 dX11_bucket_62 rfl rfl ?_
        refine r_iload_n 3 dX11_bucket_63 rfl rfl ?_
        refine r_i2l dX11_bucket_64 ?_
        refine r_lload 4 dX11_bucket_65 rfl ?_
        refine r_chk hf (fun a12 xa12 ta12 hf => ?_)
        refine bnd hf (fun v13 ev13 hf => ?_)
        refine r_callVr (ci := 1) xa12 dX11_bucket_67 cs_RX11_186 ww_837 ww_838 (by decide) ta12 (by decide) rfl (rest := []) rfl (Or.inl (Nat.le_of_ble_eq_true rfl)) (t_Do_isBetween ev13) ?_
        refine r_ifeqZ 76 hf dX11_bucket_70 (by decide) (fun c14 hf => ?_) (fun c14 hf => ?_)
        · refine r_iinc (1 : Int32) (L' := [(6, _), (8, _), (0, _), (1, _), (2, _), (4, _), (7, _)]) 5 dX11_bucket_73 rfl (by decide) (show 6 < 9 by decide) rfl ?_
          refine r_sub (L' := [(0, _), (1, _), (2, _), (4, _), (6, _), (7, _)]) [2, 3, 4, 5, 0, 6] rfl ?_
          cases (Option.some.inj hf)
          exact kq10
        · refine r_sub (L' := [(0, _), (1, _), (2, _), (4, _), (6, _), (7, _)]) [1, 2, 3, 4, 5, 6] rfl ?_
          cases (Option.some.inj hf)
          exact kq10
set_option maxRecDepth 100000 in
set_option maxHeartbeats 4000000 in
theorem t_E_bucket {Γ : W0} {σ : Mem} {th : Nat} {x1 : Int32} {x2 : Int32} {x3 : Int32} {v : Int32} (hf : E_bucket σ th x1 x2 x3 = some v) : CT Γ MD_E_bucket yX11_bucket [va_rf (some th), .int x1, .int x2, .int x3] σ (some (.int v), σ) := by
  refine CT.of (L := [(0, va_rf (some th)), (1, .int x1), (2, .int x2), (3, .int x3)]) rfl (by decide) (fun h => Bool.noConfusion (show false = true from h)) (Nat.le_of_ble_eq_true rfl) rfl ?_
  unfold E_bucket at hf
  generalize hr : mkR Γ σ (some (.int v)) σ = r
  refine r_iload_n 1 dX11_bucket_0 rfl rfl ?_
  refine r_if_lt 14 hf dX11_bucket_1 (by decide) (fun c1 hf => ?_) (fun c1 hf => ?_)
  · refine r_bipush (-2 : Int32) dX11_bucket_14 (by decide) ?_
    exact r_iret rfl dX11_bucket_16 (by have h1 := (Option.some.inj hf); subst h1; exact hr.symm)
  · refine r_iload_n 1 dX11_bucket_4 rfl rfl ?_
    refine r_iconst (2 : Int32) dX11_bucket_5 (by decide) ?_
    refine r_icmp_ge 14 hf dX11_bucket_6 (by decide) (fun c2 hf => ?_) (fun c2 hf => ?_)
    · refine r_bipush (-2 : Int32) dX11_bucket_14 (by decide) ?_
      exact r_iret rfl dX11_bucket_16 (by have h1 := (Option.some.inj hf); subst h1; exact hr.symm)
    · refine r_iload_n 3 dX11_bucket_9 rfl rfl ?_
      refine r_iconst (1 : Int32) dX11_bucket_10 (by decide) ?_
      refine r_icmp_ge 17 hf dX11_bucket_11 (by decide) (fun c3 hf => ?_) (fun c3 hf => ?_)
      · refine r_iload_n 2 dX11_bucket_17 rfl rfl ?_
        refine r_i2l dX11_bucket_18 ?_
        refine r_iload_n 3 dX11_bucket_19 rfl rfl ?_
        refine r_i2l dX11_bucket_20 ?_
        refine r_ladd dX11_bucket_21 ?_
        refine r_lconst (1 : Int64) dX11_bucket_22 (by decide) ?_
        refine r_lsub dX11_bucket_23 ?_
        refine r_lstore (L' := [(4, _), (0, _), (1, _), (2, _), (3, _)]) dX11_bucket_24 (show 5 < 9 by decide) rfl ?_
        refine r_iconst (0 : Int32) dX11_bucket_26 (by decide) ?_
        refine r_istore (L' := [(6, _), (4, _), (0, _), (1, _), (2, _), (3, _)]) dX11_bucket_27 (show 6 < 9 by decide) rfl ?_
        refine r_iconst (0 : Int32) dX11_bucket_29 (by decide) ?_
        refine r_istore (L' := [(7, _), (6, _), (4, _), (0, _), (1, _), (2, _), (3, _)]) dX11_bucket_30 (show 7 < 9 by decide) rfl ?_
        refine bnd hf (fun t15 et15 hf => ?_)
        refine r_sub (L' := [(0, _), (1, _), (2, _), (4, _), (6, _), (7, _)]) [3, 4, 5, 2, 1, 0] rfl ?_
        refine x_E_bucket_l32 ?_ _ et15
        · intro z16 hz16
          subst hz16
          refine r_iload 0 dX11_bucket_82 rfl ?_
          exact r_iret rfl dX11_bucket_84 (by have h1 := (Option.some.inj hf); subst h1; exact hr.symm)
      · refine r_bipush (-2 : Int32) dX11_bucket_14 (by decide) ?_
        exact r_iret rfl dX11_bucket_16 (by have h1 := (Option.some.inj hf); subst h1; exact hr.symm)
/-! SearchEngine.over -/
noncomputable def E_over_l33 (σ : Mem) (th : Nat) (x1 : Int32) (x2 : Int32) (x3 : Int64) (x5 : Int64) (x7 : Int64) (x9 : Int32) : Option ((Int64 × Int64 × Int64 × Int32) ⊕ (Int64 × Int64 × Int64)) :=
  (ldR σ 11 12 (some th)).bind fun v6 =>
  (ldI σ 0 4 v6).bind fun v7 =>
  if v7 ≤ x9 then
    some (Sum.inr (x3, x5, x7))
  else
    (ldR σ 11 12 (some th)).bind fun v9 =>
    (chk σ 0 v9).bind fun a10 =>
    (An_documentAt σ a10 x9).bind fun v11 =>
    Option.bind (
      if v11 = none then
        some (x3, x5, x7)
      else
        (chk σ 1 v11).bind fun a14 =>
        (Do_valueOf σ a14 x1).bind fun v15 =>
        Option.bind (
          if ¬ x9 = 0 then
            some (minL x5 v15.toInt64)
          else
            some v15.toInt64) fun q16 =>
        Option.bind (
          if ¬ x9 = 0 then
            some (maxL x7 v15.toInt64)
          else
            some v15.toInt64) fun q18 =>
        some ((x3 + v15.toInt64), q16, q18)) fun q12 =>
    some (Sum.inl (q12.1, q12.2.1, q12.2.2, (x9 + (1 : Int32))))
noncomputable def E_over (σ : Mem) (th : Nat) (x1 : Int32) (x2 : Int32) : Option Int64 :=
  jn (
    if x1 < 0 then
      some (Sum.inr ())
    else
      if (2 : Int32) ≤ x1 then
        some (Sum.inr ())
      else
        if x2 < 0 then
          some (Sum.inr ())
        else
          if x2 ≤ (2 : Int32) then
            (lp (fun q => E_over_l33 σ th x1 x2 q.1 q.2.1 q.2.2.1 q.2.2.2) ((0 : Int64), (0 : Int64), (0 : Int64), (0 : Int32))).bind fun z21 =>
            if ¬ x2 = 0 then
              if ¬ x2 = (1 : Int32) then
                some (Sum.inl z21.2.2)
              else
                some (Sum.inl z21.2.1)
            else
              some (Sum.inl z21.1)
          else
            some (Sum.inr ())) fun q1 =>
  some (-2 : Int64)
set_option maxRecDepth 100000 in
set_option maxHeartbeats 4000000 in
theorem x_E_over_l33 {Γ : W0} {σ0 : Mem} {r : RT} {σ : Mem} {th : Nat} {x1 : Int32} {x2 : Int32} {t : Int64 × Int64 × Int64} (hk0 : ∀ z : Int64 × Int64 × Int64, z = t → V Γ MD_E_over σ0 r σ 119 [(2, .int x2), (3, .long z.1), (5, .long z.2.1), (7, .long z.2.2)] []) : ∀ q : Int64 × Int64 × Int64 × Int32, lp (fun q => E_over_l33 σ th x1 x2 q.1 q.2.1 q.2.2.1 q.2.2.2) q = some t → V Γ MD_E_over σ0 r σ 33 [(0, va_rf (some th)), (1, .int x1), (2, .int x2), (3, .long q.1), (5, .long q.2.1), (7, .long q.2.2.1), (9, .int q.2.2.2)] [] := by
  refine lp_ind (fun (q : Int64 × Int64 × Int64 × Int32) => V Γ MD_E_over σ0 r σ 33 [(0, va_rf (some th)), (1, .int x1), (2, .int x2), (3, .long q.1), (5, .long q.2.1), (7, .long q.2.2.1), (9, .int q.2.2.2)] []) (fun q x hf ih ho => ?_)
  obtain ⟨x3, x5, x7, x9⟩ := q
  show V Γ MD_E_over σ0 r σ 33 [(0, va_rf (some th)), (1, .int x1), (2, .int x2), (3, .long x3), (5, .long x5), (7, .long x7), (9, .int x9)] []
  replace hf : E_over_l33 σ th x1 x2 x3 x5 x7 x9 = some x := hf
  unfold E_over_l33 at hf
  refine r_iload 6 dX11_over_33 rfl ?_
  refine r_aload_n 0 dX11_over_35 rfl rfl ?_
  refine r_ldR hf dX11_over_36 fl_RX11_47 rfl (fun v6 ev6 hf => ?_)
  refine r_ldI hf dX11_over_39 fl_RX11_156 rfl (fun v7 ev7 hf => ?_)
  refine r_icmp_ge 119 hf dX11_over_42 (by decide) (fun c8 hf => ?_) (fun c8 hf => ?_)
  · refine r_sub (L' := [(2, _), (3, _), (5, _), (7, _)]) [2, 3, 4, 5] rfl ?_
    exact hk0 _ (ho _ (Option.some.inj hf).symm)
  · refine r_aload_n 0 dX11_over_45 rfl rfl ?_
    refine r_ldR hf dX11_over_46 fl_RX11_47 rfl (fun v9 ev9 hf => ?_)
    refine r_iload 6 dX11_over_49 rfl ?_
    refine r_chk hf (fun a10 xa10 ta10 hf => ?_)
    refine bnd hf (fun v11 ev11 hf => ?_)
    refine r_callVr (ci := 0) xa10 dX11_over_51 cs_RX11_157 ww_908 ww_909 (by decide) ta10 (by decide) rfl (rest := []) rfl (Or.inl (Nat.le_of_ble_eq_true rfl)) (t_An_documentAt ev11) ?_
    refine r_astore (L' := [(10, _), (0, _), (1, _), (2, _), (3, _), (5, _), (7, _), (9, _)]) dX11_over_54 (show 10 < 13 by decide) rfl ?_
    refine r_aload 0 dX11_over_56 rfl ?_
    refine r_bd (fun (q12 : Int64 × Int64 × Int64) => V Γ MD_E_over σ0 r σ 113 [(0, va_rf (some th)), (1, .int x1), (2, .int x2), (3, .long q12.1), (5, .long q12.2.1), (7, .long q12.2.2), (9, .int x9)] []) hf (fun q12 hf => ?_) (fun yq12 hf kq12 => ?_)
    · refine r_iinc (1 : Int32) (L' := [(9, _), (0, _), (1, _), (2, _), (3, _), (5, _), (7, _)]) 6 dX11_over_113 rfl (by decide) (show 9 < 13 by decide) rfl ?_
      refine r_goto 33 dX11_over_116 (by decide) ?_
      refine r_sub (L' := [(0, _), (1, _), (2, _), (3, _), (5, _), (7, _), (9, _)]) [1, 2, 3, 4, 5, 6, 0] rfl ?_
      exact ih _ (Option.some.inj hf).symm
    · refine r_ifnull 113 hf dX11_over_58 (by decide) (fun c13 hf => ?_) (fun c13 hf => ?_)
      · refine r_sub (L' := [(0, _), (1, _), (2, _), (3, _), (5, _), (7, _), (9, _)]) [1, 2, 3, 4, 5, 6, 7] rfl ?_
        cases (Option.some.inj hf)
        exact kq12
      · refine r_aload 0 dX11_over_61 rfl ?_
        refine r_iload_n 2 dX11_over_63 rfl rfl ?_
        refine r_chk hf (fun a14 xa14 ta14 hf => ?_)
        refine bnd hf (fun v15 ev15 hf => ?_)
        refine r_callVr (ci := 1) xa14 dX11_over_64 cs_RX11_192 ww_841 ww_842 (by decide) ta14 (by decide) rfl (rest := []) rfl (Or.inl (Nat.le_of_ble_eq_true rfl)) (t_Do_valueOf ev15) ?_
        refine r_i2l dX11_over_67 ?_
        refine r_lstore (i := 11) (L' := [(11, .long v15.toInt64), (10, va_rf v11), (0, va_rf (some th)), (1, .int x1), (2, .int x2), (3, .long x3), (5, .long x5), (7, .long x7), (9, .int x9)]) dX11_over_68 (show 12 < 13 by decide) (by simp [List.filter, cat_rf, cat_i, cat_l]) ?_
        refine r_lload_n 5 dX11_over_70 rfl rfl ?_
        refine r_lload 0 dX11_over_71 rfl ?_
        refine r_ladd dX11_over_73 ?_
        refine r_lstore_n (L' := [(3, _), (11, _), (10, _), (0, _), (1, _), (2, _), (5, _), (7, _), (9, _)]) dX11_over_74 rfl (show 4 < 13 by decide) rfl ?_
        refine r_iload 8 dX11_over_75 rfl ?_
        refine r_bd (fun (q16 : Int64) => V Γ MD_E_over σ0 r σ 92 [(0, va_rf (some th)), (1, .int x1), (2, .int x2), (3, .long (x3 + v15.toInt64)), (7, .long x7), (9, .int x9), (11, .long v15.toInt64)] [.long q16]) hf (fun q16 hf => ?_) (fun yq16 hf kq16 => ?_)
        · refine r_lstore (L' := [(5, _), (0, _), (1, _), (2, _), (3, _), (7, _), (9, _), (11, _)]) dX11_over_92 (show 6 < 13 by decide) rfl ?_
          refine r_iload 6 dX11_over_94 rfl ?_
          refine r_bd (fun (q18 : Int64) => V Γ MD_E_over σ0 r σ 111 [(0, va_rf (some th)), (1, .int x1), (2, .int x2), (3, .long (x3 + v15.toInt64)), (5, .long q16), (9, .int x9)] [.long q18]) hf (fun q18 hf => ?_) (fun yq18 hf kq18 => ?_)
          · refine r_lstore (L' := [(7, _), (0, _), (1, _), (2, _), (3, _), (5, _), (9, _)]) dX11_over_111 (show 8 < 13 by decide) rfl ?_
            refine r_sub (L' := [(0, _), (1, _), (2, _), (3, _), (5, _), (7, _), (9, _)]) [1, 2, 3, 4, 5, 0, 6] rfl ?_
            cases (Option.some.inj hf)
            exact kq12
          · refine r_if_ne 104 hf dX11_over_96 (by decide) (fun c19 hf => ?_) (fun c19 hf => ?_)
            · refine r_lload 5 dX11_over_104 rfl ?_
              refine r_lload 7 dX11_over_106 rfl ?_
              refine r_mmaxL dX11_over_108 ww_931 ww_932 ww_103 ww_933 (by decide) (Nat.le_of_ble_eq_true rfl) ?_
              refine r_sub (L' := [(0, _), (1, _), (2, _), (3, _), (5, _), (9, _)]) [1, 2, 3, 4, 0, 6] rfl ?_
              cases (Option.some.inj hf)
              exact kq18
            · refine r_lload 7 dX11_over_99 rfl ?_
              refine r_goto 111 dX11_over_101 (by decide) ?_
              refine r_sub (L' := [(0, _), (1, _), (2, _), (3, _), (5, _), (9, _)]) [1, 2, 3, 4, 0, 6] rfl ?_
              cases (Option.some.inj hf)
              exact kq18
        · refine r_if_ne 85 hf dX11_over_77 (by decide) (fun c17 hf => ?_) (fun c17 hf => ?_)
          · refine r_lload 6 dX11_over_85 rfl ?_
            refine r_lload 1 dX11_over_87 rfl ?_
            refine r_mminL dX11_over_89 ww_879 ww_880 ww_103 ww_881 (by decide) (Nat.le_of_ble_eq_true rfl) ?_
            refine r_sub (L' := [(0, _), (1, _), (2, _), (3, _), (7, _), (9, _), (11, _)]) [3, 4, 5, 0, 7, 8, 1] rfl ?_
            cases (Option.some.inj hf)
            exact kq16
          · refine r_lload 1 dX11_over_80 rfl ?_
            refine r_goto 92 dX11_over_82 (by decide) ?_
            refine r_sub (L' := [(0, _), (1, _), (2, _), (3, _), (7, _), (9, _), (11, _)]) [3, 4, 5, 0, 7, 8, 1] rfl ?_
            cases (Option.some.inj hf)
            exact kq16
set_option maxRecDepth 100000 in
set_option maxHeartbeats 4000000 in
theorem t_E_over {Γ : W0} {σ : Mem} {th : Nat} {x1 : Int32} {x2 : Int32} {v : Int64} (hf : E_over σ th x1 x2 = some v) : CT Γ MD_E_over yX11_over [va_rf (some th), .int x1, .int x2] σ (some (.long v), σ) := by
  refine CT.of (L := [(0, va_rf (some th)), (1, .int x1), (2, .int x2)]) rfl (by decide) (fun h => Bool.noConfusion (show false = true from h)) (Nat.le_of_ble_eq_true rfl) rfl ?_
  unfold E_over at hf
  generalize hr : mkR Γ σ (some (.long v)) σ = r
  refine r_iload_n 1 dX11_over_0 rfl rfl ?_
  refine r_jn (fun (q1 : Unit) => V Γ MD_E_over σ r σ 18 [] []) hf (fun q1 hf => ?_) (fun yq1 hf oq1 kq1 => ?_)
  · refine r_ldc2 (-2 : Int64) dX11_over_18 ww_929 ?_
    exact r_lret rfl dX11_over_21 (by have h1 := (Option.some.inj hf); subst h1; exact hr.symm)
  · refine r_if_lt 18 hf dX11_over_1 (by decide) (fun c2 hf => ?_) (fun c2 hf => ?_)
    · refine r_sub (L' := []) [] rfl ?_
      exact kq1 _ (Option.some.inj hf).symm
    · refine r_iload_n 1 dX11_over_4 rfl rfl ?_
      refine r_iconst (2 : Int32) dX11_over_5 (by decide) ?_
      refine r_icmp_ge 18 hf dX11_over_6 (by decide) (fun c3 hf => ?_) (fun c3 hf => ?_)
      · refine r_sub (L' := []) [] rfl ?_
        exact kq1 _ (Option.some.inj hf).symm
      · refine r_iload_n 2 dX11_over_9 rfl rfl ?_
        refine r_if_lt 18 hf dX11_over_10 (by decide) (fun c4 hf => ?_) (fun c4 hf => ?_)
        · refine r_sub (L' := []) [] rfl ?_
          exact kq1 _ (Option.some.inj hf).symm
        · refine r_iload_n 2 dX11_over_13 rfl rfl ?_
          refine r_iconst (2 : Int32) dX11_over_14 (by decide) ?_
          refine r_icmp_le 22 hf dX11_over_15 (by decide) (fun c5 hf => ?_) (fun c5 hf => ?_)
          · refine r_lconst (0 : Int64) dX11_over_22 (by decide) ?_
            refine r_lstore_n (L' := [(3, _), (0, _), (1, _), (2, _)]) dX11_over_23 rfl (show 4 < 13 by decide) rfl ?_
            refine r_lconst (0 : Int64) dX11_over_24 (by decide) ?_
            refine r_lstore (L' := [(5, _), (3, _), (0, _), (1, _), (2, _)]) dX11_over_25 (show 6 < 13 by decide) rfl ?_
            refine r_lconst (0 : Int64) dX11_over_27 (by decide) ?_
            refine r_lstore (L' := [(7, _), (5, _), (3, _), (0, _), (1, _), (2, _)]) dX11_over_28 (show 8 < 13 by decide) rfl ?_
            refine r_iconst (0 : Int32) dX11_over_30 (by decide) ?_
            refine r_istore (L' := [(9, _), (7, _), (5, _), (3, _), (0, _), (1, _), (2, _)]) dX11_over_31 (show 9 < 13 by decide) rfl ?_
            refine bnd hf (fun t20 et20 hf => ?_)
            refine r_sub (L' := [(0, _), (1, _), (2, _), (3, _), (5, _), (7, _), (9, _)]) [4, 5, 6, 3, 2, 1, 0] rfl ?_
            refine x_E_over_l33 ?_ _ et20
            · intro z21 hz21
              subst hz21
              refine r_iload_n 0 dX11_over_119 rfl rfl ?_
              refine r_if_ne 125 hf dX11_over_120 (by decide) (fun c22 hf => ?_) (fun c22 hf => ?_)
              · refine r_iload_n 0 dX11_over_125 rfl rfl ?_
                refine r_iconst (1 : Int32) dX11_over_126 (by decide) ?_
                refine r_icmp_ne 135 hf dX11_over_127 (by decide) (fun c23 hf => ?_) (fun c23 hf => ?_)
                · refine r_lload 3 dX11_over_135 rfl ?_
                  exact r_lret rfl dX11_over_137 (by have h1 := (oq1 _ (Option.some.inj hf).symm); subst h1; exact hr.symm)
                · refine r_lload 2 dX11_over_130 rfl ?_
                  refine r_goto 137 dX11_over_132 (by decide) ?_
                  exact r_lret rfl dX11_over_137 (by have h1 := (oq1 _ (Option.some.inj hf).symm); subst h1; exact hr.symm)
              · refine r_lload_n 1 dX11_over_123 rfl rfl ?_
                exact r_lret rfl dX11_over_124 (by have h1 := (oq1 _ (Option.some.inj hf).symm); subst h1; exact hr.symm)
          · refine r_sub (L' := []) [] rfl ?_
            exact kq1 _ (Option.some.inj hf).symm
/-! SearchEngine.mark -/
noncomputable def E_mark_l40 (σ : Mem) (th : Nat) (x2 : Int32) (x3 : Bool) (x5 : Option Nat) (x6 : Int32) : Option (Int32 ⊕ (Int32 ⊕ Unit)) :=
  (chk σ 8 x5).bind fun a10 =>
  (Te_tokens σ a10).bind fun v11 =>
  if v11 ≤ x6 then
    some (Sum.inr (Sum.inr ()))
  else
    (ldR σ 11 12 (some th)).bind fun v13 =>
    (ldR σ 0 0 v13).bind fun v14 =>
    (chk σ 8 x5).bind fun a15 =>
    (Te_termAt σ a15 x6).bind fun v16 =>
    (chk σ 5 v14).bind fun a17 =>
    (Qu_names σ a17 v16 x2).bind fun v18 =>
    if v18 = true then
      some (Sum.inr (Sum.inl x6))
    else
      some (Sum.inl (x6 + (1 : Int32)))
noncomputable def E_mark (σ : Mem) (th : Nat) (x1 : Int32) (x2 : Int32) (x3 : Bool) : Option Int32 :=
  jn (
    if x2 = 0 then
      some (Sum.inr ())
    else
      if x2 = (1 : Int32) then
        some (Sum.inr ())
      else
        some (Sum.inl (-2 : Int32))) fun q1 =>
  (ldR σ 11 12 (some th)).bind fun v4 =>
  (chk σ 0 v4).bind fun a5 =>
  (An_documentAt σ a5 x1).bind fun v6 =>
  if v6 = none then
    some (-1 : Int32)
  else
    (chk σ 1 v6).bind fun a8 =>
    (Do_textOf σ a8 x2).bind fun v9 =>
    (lp (fun q => E_mark_l40 σ th x2 x3 v9 q) (0 : Int32)).bind 
      (se (fun z21 =>
        if x3 = true then
          (chk σ 8 v9).bind fun a24 =>
          (Te_lengthAt σ a24 z21).bind fun v25 =>
          some v25
        else
          (chk σ 8 v9).bind fun a26 =>
          (Te_startAt σ a26 z21).bind fun v27 =>
          some v27)
        (fun z22 =>
          some (-1 : Int32)))
set_option maxRecDepth 100000 in
set_option maxHeartbeats 4000000 in
theorem x_E_mark_l40 {Γ : W0} {σ0 : Mem} {r : RT} {σ : Mem} {th : Nat} {x2 : Int32} {x3 : Bool} {x5 : Option Nat} {t : Int32 ⊕ Unit} (hk0 : ∀ z : Int32, (Sum.inl z) = t → V Γ MD_E_mark σ0 r σ 71 [(3, .int (b2i x3)), (5, va_rf x5), (6, .int z)] []) (hk1 : ∀ z : Unit, (Sum.inr z) = t → V Γ MD_E_mark σ0 r σ 99 [] []) : ∀ q : Int32, lp (fun q => E_mark_l40 σ th x2 x3 x5 q) q = some t → V Γ MD_E_mark σ0 r σ 40 [(0, va_rf (some th)), (2, .int x2), (3, .int (b2i x3)), (5, va_rf x5), (6, .int q)] [] := by
  refine lp_ind (fun (q : Int32) => V Γ MD_E_mark σ0 r σ 40 [(0, va_rf (some th)), (2, .int x2), (3, .int (b2i x3)), (5, va_rf x5), (6, .int q)] []) (fun q x hf ih ho => ?_)
  revert hf ih
  generalize q = x6
  intro hf ih
  show V Γ MD_E_mark σ0 r σ 40 [(0, va_rf (some th)), (2, .int x2), (3, .int (b2i x3)), (5, va_rf x5), (6, .int x6)] []
  replace hf : E_mark_l40 σ th x2 x3 x5 x6 = some x := hf
  unfold E_mark_l40 at hf
  refine r_iload 4 dX11_mark_40 rfl ?_
  refine r_aload 3 dX11_mark_42 rfl ?_
  refine r_chk hf (fun a10 xa10 ta10 hf => ?_)
  refine bnd hf (fun v11 ev11 hf => ?_)
  refine r_callVr (ci := 8) xa10 dX11_mark_44 cs_RX11_177 ww_859 ww_860 (by decide) ta10 (by decide) rfl (rest := [_]) rfl (Or.inl (Nat.le_of_ble_eq_true rfl)) (t_Te_tokens ev11) ?_
  refine r_icmp_ge 99 hf dX11_mark_47 (by decide) (fun c12 hf => ?_) (fun c12 hf => ?_)
  · refine r_sub (L' := []) [] rfl ?_
    exact hk1 _ (ho _ (Option.some.inj hf).symm)
  · refine r_aload_n 0 dX11_mark_50 rfl rfl ?_
    refine r_ldR hf dX11_mark_51 fl_RX11_47 rfl (fun v13 ev13 hf => ?_)
    refine r_ldR hf dX11_mark_54 fl_RX11_127 rfl (fun v14 ev14 hf => ?_)
    refine r_aload 3 dX11_mark_57 rfl ?_
    refine r_iload 4 dX11_mark_59 rfl ?_
    refine r_chk hf (fun a15 xa15 ta15 hf => ?_)
    refine bnd hf (fun v16 ev16 hf => ?_)
    refine r_callVr (ci := 8) xa15 dX11_mark_61 cs_RX11_205 ww_863 ww_864 (by decide) ta15 (by decide) rfl (rest := [_]) rfl (Or.inl (Nat.le_of_ble_eq_true rfl)) (t_Te_termAt ev16) ?_
    refine r_iload_n 1 dX11_mark_64 rfl rfl ?_
    refine r_chk hf (fun a17 xa17 ta17 hf => ?_)
    refine bnd hf (fun v18 ev18 hf => ?_)
    refine r_callVr (ci := 5) xa17 dX11_mark_65 cs_RX11_209 ww_941 ww_942 (by decide) ta17 (by decide) rfl (rest := []) rfl (Or.inl (Nat.le_of_ble_eq_true rfl)) (t_Qu_names ev18) ?_
    refine r_ifeqZ 93 hf dX11_mark_68 (by decide) (fun c19 hf => ?_) (fun c19 hf => ?_)
    · refine r_sub (L' := [(3, _), (5, _), (6, _)]) [2, 3, 4] rfl ?_
      exact hk0 _ (ho _ (Option.some.inj hf).symm)
    · refine r_iinc (1 : Int32) (L' := [(6, .int (x6 + (1 : Int32))), (0, va_rf (some th)), (2, .int x2), (3, .int (b2i x3)), (5, va_rf x5)]) 4 dX11_mark_93 rfl (by decide) (show 6 < 7 by decide) (by simp [List.filter, cat_rf, cat_i, cat_l]) ?_
      refine r_goto 40 dX11_mark_96 (by decide) ?_
      refine r_sub (L' := [(0, _), (2, _), (3, _), (5, _), (6, _)]) [1, 2, 3, 4, 0] rfl ?_
      exact ih _ (Option.some.inj hf).symm
set_option maxRecDepth 100000 in
set_option maxHeartbeats 4000000 in
theorem t_E_mark {Γ : W0} {σ : Mem} {th : Nat} {x1 : Int32} {x2 : Int32} {x3 : Bool} {v : Int32} (hf : E_mark σ th x1 x2 x3 = some v) : CT Γ MD_E_mark yX11_mark [va_rf (some th), .int x1, .int x2, .int (b2i x3)] σ (some (.int v), σ) := by
  refine CT.of (L := [(0, va_rf (some th)), (1, .int x1), (2, .int x2), (3, .int (b2i x3))]) rfl (by decide) (fun h => Bool.noConfusion (show false = true from h)) (Nat.le_of_ble_eq_true rfl) rfl ?_
  unfold E_mark at hf
  generalize hr : mkR Γ σ (some (.int v)) σ = r
  refine r_iload_n 2 dX11_mark_0 rfl rfl ?_
  refine r_jn (fun (q1 : Unit) => V Γ MD_E_mark σ r σ 12 [(0, va_rf (some th)), (1, .int x1), (2, .int x2), (3, .int (b2i x3))] []) hf (fun q1 hf => ?_) (fun yq1 hf oq1 kq1 => ?_)
  · refine r_aload_n 0 dX11_mark_12 rfl rfl ?_
    refine r_ldR hf dX11_mark_13 fl_RX11_47 rfl (fun v4 ev4 hf => ?_)
    refine r_iload_n 1 dX11_mark_16 rfl rfl ?_
    refine r_chk hf (fun a5 xa5 ta5 hf => ?_)
    refine bnd hf (fun v6 ev6 hf => ?_)
    refine r_callVr (ci := 0) xa5 dX11_mark_17 cs_RX11_157 ww_908 ww_909 (by decide) ta5 (by decide) rfl (rest := []) rfl (Or.inl (Nat.le_of_ble_eq_true rfl)) (t_An_documentAt ev6) ?_
    refine r_astore (L' := [(4, _), (0, _), (1, _), (2, _), (3, _)]) dX11_mark_20 (show 4 < 7 by decide) rfl ?_
    refine r_aload 0 dX11_mark_22 rfl ?_
    refine r_ifnonnull 29 hf dX11_mark_24 (by decide) (fun c7 hf => ?_) (fun c7 hf => ?_)
    · refine r_iconst (-1 : Int32) dX11_mark_27 (by decide) ?_
      exact r_iret rfl dX11_mark_28 (by have h1 := (Option.some.inj hf); subst h1; exact hr.symm)
    · refine r_aload 0 dX11_mark_29 rfl ?_
      refine r_iload_n 3 dX11_mark_31 rfl rfl ?_
      refine r_chk hf (fun a8 xa8 ta8 hf => ?_)
      refine bnd hf (fun v9 ev9 hf => ?_)
      refine r_callVr (ci := 1) xa8 dX11_mark_32 cs_RX11_201 ww_587 ww_588 (by decide) ta8 (by decide) rfl (rest := []) rfl (Or.inl (Nat.le_of_ble_eq_true rfl)) (t_Do_textOf ev9) ?_
      refine r_astore (i := 5) (L' := [(5, va_rf v9), (4, va_rf v6), (0, va_rf (some th)), (1, .int x1), (2, .int x2), (3, .int (b2i x3))]) dX11_mark_35 (show 5 < 7 by decide) (by simp [List.filter, cat_rf, cat_i, cat_l]) ?_
      refine r_iconst (0 : Int32) dX11_mark_37 (by decide) ?_
      refine r_istore (i := 6) (L' := [(6, .int (0 : Int32)), (5, va_rf v9), (4, va_rf v6), (0, va_rf (some th)), (1, .int x1), (2, .int x2), (3, .int (b2i x3))]) dX11_mark_38 (show 6 < 7 by decide) (by simp [List.filter, cat_rf, cat_i, cat_l]) ?_
      refine bnd hf (fun t20 et20 hf => ?_)
      refine r_sub (L' := [(0, _), (2, _), (3, _), (5, _), (6, _)]) [3, 5, 6, 1, 0] rfl ?_
      refine x_E_mark_l40 ?_ ?_ _ et20
      · intro z21 hz21
        subst hz21
        simp only [se] at hf
        refine r_iload_n 0 dX11_mark_71 rfl rfl ?_
        refine r_ifeqZ 85 hf dX11_mark_72 (by decide) (fun c23 hf => ?_) (fun c23 hf => ?_)
        · refine r_aload 1 dX11_mark_75 rfl ?_
          refine r_iload 2 dX11_mark_77 rfl ?_
          refine r_chk hf (fun a24 xa24 ta24 hf => ?_)
          refine bnd hf (fun v25 ev25 hf => ?_)
          refine r_callVr (ci := 8) xa24 dX11_mark_79 cs_RX11_213 ww_949 ww_950 (by decide) ta24 (by decide) rfl (rest := []) rfl (Or.inl (Nat.le_of_ble_eq_true rfl)) (t_Te_lengthAt ev25) ?_
          refine r_goto 92 dX11_mark_82 (by decide) ?_
          exact r_iret rfl dX11_mark_92 (by have h1 := (Option.some.inj hf); subst h1; exact hr.symm)
        · refine r_aload 1 dX11_mark_85 rfl ?_
          refine r_iload 2 dX11_mark_87 rfl ?_
          refine r_chk hf (fun a26 xa26 ta26 hf => ?_)
          refine bnd hf (fun v27 ev27 hf => ?_)
          refine r_callVr (ci := 8) xa26 dX11_mark_89 cs_RX11_216 ww_953 ww_954 (by decide) ta26 (by decide) rfl (rest := []) rfl (Or.inl (Nat.le_of_ble_eq_true rfl)) (t_Te_startAt ev27) ?_
          exact r_iret rfl dX11_mark_92 (by have h1 := (Option.some.inj hf); subst h1; exact hr.symm)
      · intro z22 hz22
        subst hz22
        simp only [se] at hf
        refine r_iconst (-1 : Int32) dX11_mark_99 (by decide) ?_
        exact r_iret rfl dX11_mark_100 (by have h1 := (Option.some.inj hf); subst h1; exact hr.symm)
  · refine r_if_eq 12 hf dX11_mark_1 (by decide) (fun c2 hf => ?_) (fun c2 hf => ?_)
    · refine r_sub (L' := [(0, _), (1, _), (2, _), (3, _)]) [0, 1, 2, 3] rfl ?_
      exact kq1 _ (Option.some.inj hf).symm
    · refine r_iload_n 2 dX11_mark_4 rfl rfl ?_
      refine r_iconst (1 : Int32) dX11_mark_5 (by decide) ?_
      refine r_icmp_eq 12 hf dX11_mark_6 (by decide) (fun c3 hf => ?_) (fun c3 hf => ?_)
      · refine r_sub (L' := [(0, _), (1, _), (2, _), (3, _)]) [0, 1, 2, 3] rfl ?_
        exact kq1 _ (Option.some.inj hf).symm
      · refine r_bipush (-2 : Int32) dX11_mark_9 (by decide) ?_
        exact r_iret rfl dX11_mark_11 (by have h1 := (oq1 _ (Option.some.inj hf).symm); subst h1; exact hr.symm)
/-! SearchEngine.near -/
noncomputable def E_near (σ : Mem) (th : Nat) (x1 : Int32) : Option (Int32 × Mem) :=
  (chk σ 11 (some th)).bind fun a1 =>
  (E_takeTape σ a1).bind fun v2 =>
  (chk v2.2 11 (some th)).bind fun a3 =>
  (E_viewAt v2.2 a3 x1).bind fun v4 =>
  if v4 = none then
    some ((-2 : Int32), v2.2)
  else
    (ldR v2.2 11 1 (some th)).bind fun v6 =>
    (Sp_isWord v2.2 v6 v2.1).bind fun v7 =>
    if v7 = true then
      (ldR v2.2 11 14 (some th)).bind fun v9 =>
      (ldR v2.2 11 1 (some th)).bind fun v10 =>
      (chk v2.2 2 v9).bind fun a11 =>
      (Ne_lookIn v2.2 a11 v4 v10 v2.1).bind fun v12 =>
      some (v12.1, v12.2)
    else
      some ((-2 : Int32), v2.2)
set_option maxRecDepth 100000 in
set_option maxHeartbeats 4000000 in
theorem t_E_near {Γ : W0} {σ : Mem} {th : Nat} {x1 : Int32} {v : Int32} {σ' : Mem} (hf : E_near σ th x1 = some (v, σ')) : CT Γ MD_E_near yX11_near [va_rf (some th), .int x1] σ (some (.int v), σ') := by
  refine CT.of (L := [(0, va_rf (some th)), (1, .int x1)]) rfl (by decide) (fun h => Bool.noConfusion (show false = true from h)) (Nat.le_of_ble_eq_true rfl) rfl ?_
  unfold E_near at hf
  generalize hr : mkR Γ σ (some (.int v)) σ' = r
  refine r_aload_n 0 dX11_near_0 rfl rfl ?_
  refine r_chk hf (fun a1 xa1 ta1 hf => ?_)
  refine bnd hf (fun v2 ev2 hf => ?_)
  refine r_callVr (ci := 11) xa1 dX11_near_1 cs_RX11_69 ww_432 ww_0 (by decide) ta1 (by decide) rfl (rest := []) rfl (Or.inl (Nat.le_of_ble_eq_true rfl)) (t_E_takeTape ev2) ?_
  refine r_istore_n (L' := [(2, _), (0, _), (1, _)]) dX11_near_4 rfl (show 2 < 4 by decide) rfl ?_
  refine r_aload_n 1 dX11_near_5 rfl rfl ?_
  refine r_iload_n 2 dX11_near_6 rfl rfl ?_
  refine r_chk hf (fun a3 xa3 ta3 hf => ?_)
  refine bnd hf (fun v4 ev4 hf => ?_)
  refine r_callVr (ci := 11) xa3 dX11_near_7 cs_RX11_115 ww_664 ww_14 (by decide) ta3 (by decide) rfl (rest := []) rfl (Or.inl (Nat.le_of_ble_eq_true rfl)) (t_E_viewAt ev4) ?_
  refine r_astore_n (L' := [(3, _), (2, _), (0, _), (1, _)]) dX11_near_10 rfl (show 3 < 4 by decide) rfl ?_
  refine r_aload_n 0 dX11_near_11 rfl rfl ?_
  refine r_ifnull 26 hf dX11_near_12 (by decide) (fun c5 hf => ?_) (fun c5 hf => ?_)
  · refine r_bipush (-2 : Int32) dX11_near_26 (by decide) ?_
    exact r_iret rfl dX11_near_28 (by obtain ⟨h1, h2⟩ := Prod.mk.inj (Option.some.inj hf); subst h1; subst h2; exact hr.symm)
  · refine r_aload_n 2 dX11_near_15 rfl rfl ?_
    refine r_ldR hf dX11_near_16 fl_RX11_18 rfl (fun v6 ev6 hf => ?_)
    refine r_iload_n 1 dX11_near_19 rfl rfl ?_
    refine bnd hf (fun v7 ev7 hf => ?_)
    refine r_callSr dX11_near_20 cs_RX11_219 ww_961 (by decide) rfl (rest := []) rfl (Or.inl (Nat.le_of_ble_eq_true rfl)) (t_Sp_isWord ev7) ?_
    refine r_ifneZ 29 hf dX11_near_23 (by decide) (fun c8 hf => ?_) (fun c8 hf => ?_)
    · refine r_aload_n 2 dX11_near_29 rfl rfl ?_
      refine r_ldR hf dX11_near_30 fl_RX11_61 rfl (fun v9 ev9 hf => ?_)
      refine r_aload_n 0 dX11_near_33 rfl rfl ?_
      refine r_aload_n 2 dX11_near_34 rfl rfl ?_
      refine r_ldR hf dX11_near_35 fl_RX11_18 rfl (fun v10 ev10 hf => ?_)
      refine r_iload_n 1 dX11_near_38 rfl rfl ?_
      refine r_chk hf (fun a11 xa11 ta11 hf => ?_)
      refine bnd hf (fun v12 ev12 hf => ?_)
      refine r_callVr (ci := 2) xa11 dX11_near_39 cs_RX11_223 ww_965 ww_966 (by decide) ta11 (by decide) rfl (rest := []) rfl (Or.inl (Nat.le_of_ble_eq_true rfl)) (t_Ne_lookIn ev12) ?_
      exact r_iret rfl dX11_near_42 (by obtain ⟨h1, h2⟩ := Prod.mk.inj (Option.some.inj hf); subst h1; subst h2; exact hr.symm)
    · refine r_bipush (-2 : Int32) dX11_near_26 (by decide) ?_
      exact r_iret rfl dX11_near_28 (by obtain ⟨h1, h2⟩ := Prod.mk.inj (Option.some.inj hf); subst h1; subst h2; exact hr.symm)
/-! SearchEngine.nearByte -/
noncomputable def E_nearByte (σ : Mem) (th : Nat) (x1 : Int32) : Option (Int32 × Mem) :=
  (ldR σ 11 14 (some th)).bind fun v1 =>
  (chk σ 2 v1).bind fun a2 =>
  (Ne_byteAt σ a2 x1).bind fun v3 =>
  some (v3.1, v3.2)
set_option maxRecDepth 100000 in
set_option maxHeartbeats 4000000 in
theorem t_E_nearByte {Γ : W0} {σ : Mem} {th : Nat} {x1 : Int32} {v : Int32} {σ' : Mem} (hf : E_nearByte σ th x1 = some (v, σ')) : CT Γ MD_E_nearByte yX11_nearByte [va_rf (some th), .int x1] σ (some (.int v), σ') := by
  refine CT.of (L := [(0, va_rf (some th)), (1, .int x1)]) rfl (by decide) (fun h => Bool.noConfusion (show false = true from h)) (Nat.le_of_ble_eq_true rfl) rfl ?_
  unfold E_nearByte at hf
  generalize hr : mkR Γ σ (some (.int v)) σ' = r
  refine r_aload_n 0 dX11_nearByte_0 rfl rfl ?_
  refine r_ldR hf dX11_nearByte_1 fl_RX11_61 rfl (fun v1 ev1 hf => ?_)
  refine r_iload_n 1 dX11_nearByte_4 rfl rfl ?_
  refine r_chk hf (fun a2 xa2 ta2 hf => ?_)
  refine bnd hf (fun v3 ev3 hf => ?_)
  refine r_callVr (ci := 2) xa2 dX11_nearByte_5 cs_RX11_227 ww_994 ww_995 (by decide) ta2 (by decide) rfl (rest := []) rfl (Or.inl (Nat.le_of_ble_eq_true rfl)) (t_Ne_byteAt ev3) ?_
  exact r_iret rfl dX11_nearByte_8 (by obtain ⟨h1, h2⟩ := Prod.mk.inj (Option.some.inj hf); subst h1; subst h2; exact hr.symm)
/-! SearchEngine.segment -/
noncomputable def E_segment (σ : Mem) (th : Nat) (x1 : Int32) (x2 : Int32) : Option Int32 :=
  if x2 < 0 then
    some (-2 : Int32)
  else
    if x2 ≤ (4 : Int32) then
      (chk σ 11 (some th)).bind fun a3 =>
      (E_segmentAt σ a3 x1).bind fun v4 =>
      if v4 = none then
        some (-1 : Int32)
      else
        if x2 = (0 : Int32) then
          (ldI σ 6 0 v4).bind fun v7 =>
          some v7
        else
        if x2 = (1 : Int32) then
          (ldR σ 6 1 v4).bind fun v9 =>
          (alen σ 4 v9).bind fun v10 =>
          some v10
        else
        if x2 = (2 : Int32) then
          (chk σ 6 v4).bind fun a12 =>
          (Se_deletedDocuments σ a12).bind fun v13 =>
          some v13
        else
        if x2 = (3 : Int32) then
          (ldR σ 6 2 v4).bind fun v15 =>
          (chk σ 10 v15).bind fun a16 =>
          (Vo_size σ a16).bind fun v17 =>
          some v17
        else
        (ldR σ 6 3 v4).bind fun v18 =>
        (chk σ 10 v18).bind fun a19 =>
        (Vo_size σ a19).bind fun v20 =>
        some v20
    else
      some (-2 : Int32)
set_option maxRecDepth 100000 in
set_option maxHeartbeats 4000000 in
theorem t_E_segment {Γ : W0} {σ : Mem} {th : Nat} {x1 : Int32} {x2 : Int32} {v : Int32} (hf : E_segment σ th x1 x2 = some v) : CT Γ MD_E_segment yX11_segment [va_rf (some th), .int x1, .int x2] σ (some (.int v), σ) := by
  refine CT.of (L := [(0, va_rf (some th)), (1, .int x1), (2, .int x2)]) rfl (by decide) (fun h => Bool.noConfusion (show false = true from h)) (Nat.le_of_ble_eq_true rfl) rfl ?_
  unfold E_segment at hf
  generalize hr : mkR Γ σ (some (.int v)) σ = r
  refine r_iload_n 2 dX11_segment_0 rfl rfl ?_
  refine r_if_lt 9 hf dX11_segment_1 (by decide) (fun c1 hf => ?_) (fun c1 hf => ?_)
  · refine r_bipush (-2 : Int32) dX11_segment_9 (by decide) ?_
    exact r_iret rfl dX11_segment_11 (by have h1 := (Option.some.inj hf); subst h1; exact hr.symm)
  · refine r_iload_n 2 dX11_segment_4 rfl rfl ?_
    refine r_iconst (4 : Int32) dX11_segment_5 (by decide) ?_
    refine r_icmp_le 12 hf dX11_segment_6 (by decide) (fun c2 hf => ?_) (fun c2 hf => ?_)
    · refine r_aload_n 0 dX11_segment_12 rfl rfl ?_
      refine r_iload_n 1 dX11_segment_13 rfl rfl ?_
      refine r_chk hf (fun a3 xa3 ta3 hf => ?_)
      refine bnd hf (fun v4 ev4 hf => ?_)
      refine r_callVr (ci := 11) xa3 dX11_segment_14 cs_RX11_230 ww_623 ww_9 (by decide) ta3 (by decide) rfl (rest := []) rfl (Or.inl (Nat.le_of_ble_eq_true rfl)) (t_E_segmentAt ev4) ?_
      refine r_astore_n (L' := [(3, _), (0, _), (1, _), (2, _)]) dX11_segment_17 rfl (show 3 < 4 by decide) rfl ?_
      refine r_aload_n 0 dX11_segment_18 rfl rfl ?_
      refine r_ifnonnull 24 hf dX11_segment_19 (by decide) (fun c5 hf => ?_) (fun c5 hf => ?_)
      · refine r_iconst (-1 : Int32) dX11_segment_22 (by decide) ?_
        exact r_iret rfl dX11_segment_23 (by have h1 := (Option.some.inj hf); subst h1; exact hr.symm)
      · refine r_iload_n 3 dX11_segment_24 rfl rfl ?_
        refine sw_pos hf (fun c6 hf => ?_) (fun c6 hf => ?_)
        · refine r_tableIn 56 dX11_segment_25 (by rw [c6]; decide) (by rw [c6]; decide) (by rw [c6] <;> rfl) (by decide) ?_
          refine r_aload_n 0 dX11_segment_56 rfl rfl ?_
          refine r_ldI hf dX11_segment_57 fl_RX11_234 rfl (fun v7 ev7 hf => ?_)
          exact r_iret rfl dX11_segment_60 (by have h1 := (Option.some.inj hf); subst h1; exact hr.symm)
        refine sw_pos hf (fun c8 hf => ?_) (fun c8 hf => ?_)
        · refine r_tableIn 61 dX11_segment_25 (by rw [c8]; decide) (by rw [c8]; decide) (by rw [c8] <;> rfl) (by decide) ?_
          refine r_aload_n 0 dX11_segment_61 rfl rfl ?_
          refine r_ldR hf dX11_segment_62 fl_RX11_237 rfl (fun v9 ev9 hf => ?_)
          refine r_alen hf dX11_segment_65 (by decide) (fun v10 ev10 hf => ?_)
          exact r_iret rfl dX11_segment_66 (by have h1 := (Option.some.inj hf); subst h1; exact hr.symm)
        refine sw_pos hf (fun c11 hf => ?_) (fun c11 hf => ?_)
        · refine r_tableIn 67 dX11_segment_25 (by rw [c11]; decide) (by rw [c11]; decide) (by rw [c11] <;> rfl) (by decide) ?_
          refine r_aload_n 0 dX11_segment_67 rfl rfl ?_
          refine r_chk hf (fun a12 xa12 ta12 hf => ?_)
          refine bnd hf (fun v13 ev13 hf => ?_)
          refine r_callVr (ci := 6) xa12 dX11_segment_68 cs_RX11_238 ww_1005 ww_1006 (by decide) ta12 (by decide) rfl (rest := []) rfl (Or.inl (Nat.le_of_ble_eq_true rfl)) (t_Se_deletedDocuments ev13) ?_
          exact r_iret rfl dX11_segment_71 (by have h1 := (Option.some.inj hf); subst h1; exact hr.symm)
        refine sw_pos hf (fun c14 hf => ?_) (fun c14 hf => ?_)
        · refine r_tableIn 72 dX11_segment_25 (by rw [c14]; decide) (by rw [c14]; decide) (by rw [c14] <;> rfl) (by decide) ?_
          refine r_aload_n 0 dX11_segment_72 rfl rfl ?_
          refine r_ldR hf dX11_segment_73 fl_RX11_241 rfl (fun v15 ev15 hf => ?_)
          refine r_chk hf (fun a16 xa16 ta16 hf => ?_)
          refine bnd hf (fun v17 ev17 hf => ?_)
          refine r_callVr (ci := 10) xa16 dX11_segment_76 cs_RX11_245 ww_591 ww_592 (by decide) ta16 (by decide) rfl (rest := []) rfl (Or.inl (Nat.le_of_ble_eq_true rfl)) (t_Vo_size ev17) ?_
          exact r_iret rfl dX11_segment_79 (by have h1 := (Option.some.inj hf); subst h1; exact hr.symm)
        refine r_tableOut 80 dX11_segment_25 (by have nc6 := sw_ne (n := 0) c6 rfl; have nc8 := sw_ne (n := 1) c8 rfl; have nc11 := sw_ne (n := 2) c11 rfl; have nc14 := sw_ne (n := 3) c14 rfl; omega) (by decide) ?_
        refine r_aload_n 0 dX11_segment_80 rfl rfl ?_
        refine r_ldR hf dX11_segment_81 fl_RX11_250 rfl (fun v18 ev18 hf => ?_)
        refine r_chk hf (fun a19 xa19 ta19 hf => ?_)
        refine bnd hf (fun v20 ev20 hf => ?_)
        refine r_callVr (ci := 10) xa19 dX11_segment_84 cs_RX11_245 ww_591 ww_592 (by decide) ta19 (by decide) rfl (rest := []) rfl (Or.inl (Nat.le_of_ble_eq_true rfl)) (t_Vo_size ev20) ?_
        exact r_iret rfl dX11_segment_87 (by have h1 := (Option.some.inj hf); subst h1; exact hr.symm)
    · refine r_bipush (-2 : Int32) dX11_segment_9 (by decide) ?_
      exact r_iret rfl dX11_segment_11 (by have h1 := (Option.some.inj hf); subst h1; exact hr.symm)
/-! SearchEngine.view -/
noncomputable def E_view (σ : Mem) (th : Nat) (x1 : Int32) (x2 : Int32) : Option Int32 :=
  (chk σ 11 (some th)).bind fun a1 =>
  (E_viewAt σ a1 x1).bind fun v2 =>
  if v2 = none then
    some (-2 : Int32)
  else
    if x2 = (0 : Int32) then
      (ldI σ 9 2 v2).bind fun v5 =>
      some v5
    else
    if x2 = (1 : Int32) then
      (ldI σ 9 5 v2).bind fun v7 =>
      some v7
    else
    if x2 = (2 : Int32) then
      (ldI σ 9 6 v2).bind fun v9 =>
      some v9
    else
    some (-2 : Int32)
set_option maxRecDepth 100000 in
set_option maxHeartbeats 4000000 in
theorem t_E_view {Γ : W0} {σ : Mem} {th : Nat} {x1 : Int32} {x2 : Int32} {v : Int32} (hf : E_view σ th x1 x2 = some v) : CT Γ MD_E_view yX11_view [va_rf (some th), .int x1, .int x2] σ (some (.int v), σ) := by
  refine CT.of (L := [(0, va_rf (some th)), (1, .int x1), (2, .int x2)]) rfl (by decide) (fun h => Bool.noConfusion (show false = true from h)) (Nat.le_of_ble_eq_true rfl) rfl ?_
  unfold E_view at hf
  generalize hr : mkR Γ σ (some (.int v)) σ = r
  refine r_aload_n 0 dX11_view_0 rfl rfl ?_
  refine r_iload_n 1 dX11_view_1 rfl rfl ?_
  refine r_chk hf (fun a1 xa1 ta1 hf => ?_)
  refine bnd hf (fun v2 ev2 hf => ?_)
  refine r_callVr (ci := 11) xa1 dX11_view_2 cs_RX11_115 ww_664 ww_14 (by decide) ta1 (by decide) rfl (rest := []) rfl (Or.inl (Nat.le_of_ble_eq_true rfl)) (t_E_viewAt ev2) ?_
  refine r_astore_n (L' := [(3, _), (0, _), (1, _), (2, _)]) dX11_view_5 rfl (show 3 < 4 by decide) rfl ?_
  refine r_aload_n 0 dX11_view_6 rfl rfl ?_
  refine r_ifnonnull 13 hf dX11_view_7 (by decide) (fun c3 hf => ?_) (fun c3 hf => ?_)
  · refine r_bipush (-2 : Int32) dX11_view_10 (by decide) ?_
    exact r_iret rfl dX11_view_12 (by have h1 := (Option.some.inj hf); subst h1; exact hr.symm)
  · refine r_iload_n 3 dX11_view_13 rfl rfl ?_
    refine sw_pos hf (fun c4 hf => ?_) (fun c4 hf => ?_)
    · refine r_tableIn 40 dX11_view_14 (by rw [c4]; decide) (by rw [c4]; decide) (by rw [c4] <;> rfl) (by decide) ?_
      refine r_aload_n 0 dX11_view_40 rfl rfl ?_
      refine r_ldI hf dX11_view_41 fl_RX11_253 rfl (fun v5 ev5 hf => ?_)
      exact r_iret rfl dX11_view_44 (by have h1 := (Option.some.inj hf); subst h1; exact hr.symm)
    refine sw_pos hf (fun c6 hf => ?_) (fun c6 hf => ?_)
    · refine r_tableIn 45 dX11_view_14 (by rw [c6]; decide) (by rw [c6]; decide) (by rw [c6] <;> rfl) (by decide) ?_
      refine r_aload_n 0 dX11_view_45 rfl rfl ?_
      refine r_ldI hf dX11_view_46 fl_RX11_138 rfl (fun v7 ev7 hf => ?_)
      exact r_iret rfl dX11_view_49 (by have h1 := (Option.some.inj hf); subst h1; exact hr.symm)
    refine sw_pos hf (fun c8 hf => ?_) (fun c8 hf => ?_)
    · refine r_tableIn 50 dX11_view_14 (by rw [c8]; decide) (by rw [c8]; decide) (by rw [c8] <;> rfl) (by decide) ?_
      refine r_aload_n 0 dX11_view_50 rfl rfl ?_
      refine r_ldI hf dX11_view_51 fl_RX11_254 rfl (fun v9 ev9 hf => ?_)
      exact r_iret rfl dX11_view_54 (by have h1 := (Option.some.inj hf); subst h1; exact hr.symm)
    refine r_tableOut 55 dX11_view_14 (by have nc4 := sw_ne (n := 0) c4 rfl; have nc6 := sw_ne (n := 1) c6 rfl; have nc8 := sw_ne (n := 2) c8 rfl; omega) (by decide) ?_
    refine r_bipush (-2 : Int32) dX11_view_55 (by decide) ?_
    exact r_iret rfl dX11_view_57 (by have h1 := (Option.some.inj hf); subst h1; exact hr.symm)
/-! SearchEngine.frequency -/
noncomputable def E_frequency (σ : Mem) (th : Nat) (x1 : Int32) (x2 : Int32) : Option (Int32 × Mem) :=
  (chk σ 11 (some th)).bind fun a1 =>
  (E_takeTape σ a1).bind fun v2 =>
  (chk v2.2 11 (some th)).bind fun a3 =>
  (E_viewAt v2.2 a3 x1).bind fun v4 =>
  if v4 = none then
    some ((-2 : Int32), v2.2)
  else
    jn (
      if x2 = 0 then
        some (Sum.inr ())
      else
        if ¬ x2 = (1 : Int32) then
          some (Sum.inl ((-2 : Int32), v2.2))
        else
          some (Sum.inr ())) fun q6 =>
    (ldR v2.2 11 1 (some th)).bind fun v9 =>
    (Sp_isWord v2.2 v9 v2.1).bind fun v10 =>
    if v10 = true then
      (ldR v2.2 11 0 (some th)).bind fun v12 =>
      (ldR v2.2 11 1 (some th)).bind fun v13 =>
      (chk v2.2 7 v12).bind fun a14 =>
      (Sp_termOf v2.2 a14 v13 (0 : Int32) v2.1).bind fun v15 =>
      (chk v2.2 9 v4).bind fun a16 =>
      (Vi_holders v2.2 a16 x2 v15).bind fun v17 =>
      some (v17, v2.2)
    else
      some ((-2 : Int32), v2.2)
set_option maxRecDepth 100000 in
set_option maxHeartbeats 4000000 in
theorem t_E_frequency {Γ : W0} {σ : Mem} {th : Nat} {x1 : Int32} {x2 : Int32} {v : Int32} {σ' : Mem} (hf : E_frequency σ th x1 x2 = some (v, σ')) : CT Γ MD_E_frequency yX11_frequency [va_rf (some th), .int x1, .int x2] σ (some (.int v), σ') := by
  refine CT.of (L := [(0, va_rf (some th)), (1, .int x1), (2, .int x2)]) rfl (by decide) (fun h => Bool.noConfusion (show false = true from h)) (Nat.le_of_ble_eq_true rfl) rfl ?_
  unfold E_frequency at hf
  generalize hr : mkR Γ σ (some (.int v)) σ' = r
  refine r_aload_n 0 dX11_frequency_0 rfl rfl ?_
  refine r_chk hf (fun a1 xa1 ta1 hf => ?_)
  refine bnd hf (fun v2 ev2 hf => ?_)
  refine r_callVr (ci := 11) xa1 dX11_frequency_1 cs_RX11_69 ww_432 ww_0 (by decide) ta1 (by decide) rfl (rest := []) rfl (Or.inl (Nat.le_of_ble_eq_true rfl)) (t_E_takeTape ev2) ?_
  refine r_istore_n (L' := [(3, _), (0, _), (1, _), (2, _)]) dX11_frequency_4 rfl (show 3 < 5 by decide) rfl ?_
  refine r_aload_n 1 dX11_frequency_5 rfl rfl ?_
  refine r_iload_n 2 dX11_frequency_6 rfl rfl ?_
  refine r_chk hf (fun a3 xa3 ta3 hf => ?_)
  refine bnd hf (fun v4 ev4 hf => ?_)
  refine r_callVr (ci := 11) xa3 dX11_frequency_7 cs_RX11_115 ww_664 ww_14 (by decide) ta3 (by decide) rfl (rest := []) rfl (Or.inl (Nat.le_of_ble_eq_true rfl)) (t_E_viewAt ev4) ?_
  refine r_astore (L' := [(4, _), (3, _), (0, _), (1, _), (2, _)]) dX11_frequency_10 (show 4 < 5 by decide) rfl ?_
  refine r_aload 0 dX11_frequency_12 rfl ?_
  refine r_ifnull 37 hf dX11_frequency_14 (by decide) (fun c5 hf => ?_) (fun c5 hf => ?_)
  · refine r_bipush (-2 : Int32) dX11_frequency_37 (by decide) ?_
    exact r_iret rfl dX11_frequency_39 (by obtain ⟨h1, h2⟩ := Prod.mk.inj (Option.some.inj hf); subst h1; subst h2; exact hr.symm)
  · refine r_iload_n 4 dX11_frequency_17 rfl rfl ?_
    refine r_jn (fun (q6 : Unit) => V Γ MD_E_frequency σ r v2.2 26 [(0, va_rf (some th)), (2, .int x2), (3, .int v2.1), (4, va_rf v4)] []) hf (fun q6 hf => ?_) (fun yq6 hf oq6 kq6 => ?_)
    · refine r_aload_n 0 dX11_frequency_26 rfl rfl ?_
      refine r_ldR hf dX11_frequency_27 fl_RX11_18 rfl (fun v9 ev9 hf => ?_)
      refine r_iload_n 2 dX11_frequency_30 rfl rfl ?_
      refine bnd hf (fun v10 ev10 hf => ?_)
      refine r_callSr dX11_frequency_31 cs_RX11_219 ww_961 (by decide) rfl (rest := []) rfl (Or.inl (Nat.le_of_ble_eq_true rfl)) (t_Sp_isWord ev10) ?_
      refine r_ifneZ 40 hf dX11_frequency_34 (by decide) (fun c11 hf => ?_) (fun c11 hf => ?_)
      · refine r_aload 3 dX11_frequency_40 rfl ?_
        refine r_iload_n 1 dX11_frequency_42 rfl rfl ?_
        refine r_aload_n 0 dX11_frequency_43 rfl rfl ?_
        refine r_ldR hf dX11_frequency_44 fl_RX11_12 rfl (fun v12 ev12 hf => ?_)
        refine r_aload_n 0 dX11_frequency_47 rfl rfl ?_
        refine r_ldR hf dX11_frequency_48 fl_RX11_18 rfl (fun v13 ev13 hf => ?_)
        refine r_iconst (0 : Int32) dX11_frequency_51 (by decide) ?_
        refine r_iload_n 2 dX11_frequency_52 rfl rfl ?_
        refine r_chk hf (fun a14 xa14 ta14 hf => ?_)
        refine bnd hf (fun v15 ev15 hf => ?_)
        refine r_callVr (ci := 7) xa14 dX11_frequency_53 cs_RX11_257 ww_468 ww_469 (by decide) ta14 (by decide) rfl (rest := [_, _]) rfl (Or.inl (Nat.le_of_ble_eq_true rfl)) (t_Sp_termOf ev15) ?_
        refine r_chk hf (fun a16 xa16 ta16 hf => ?_)
        refine bnd hf (fun v17 ev17 hf => ?_)
        refine r_callVr (ci := 9) xa16 dX11_frequency_56 cs_RX11_261 ww_794 ww_795 (by decide) ta16 (by decide) rfl (rest := []) rfl (Or.inl (Nat.le_of_ble_eq_true rfl)) (t_Vi_holders ev17) ?_
        exact r_iret rfl dX11_frequency_59 (by obtain ⟨h1, h2⟩ := Prod.mk.inj (Option.some.inj hf); subst h1; subst h2; exact hr.symm)
      · refine r_bipush (-2 : Int32) dX11_frequency_37 (by decide) ?_
        exact r_iret rfl dX11_frequency_39 (by obtain ⟨h1, h2⟩ := Prod.mk.inj (Option.some.inj hf); subst h1; subst h2; exact hr.symm)
    · refine r_if_eq 26 hf dX11_frequency_18 (by decide) (fun c7 hf => ?_) (fun c7 hf => ?_)
      · refine r_sub (L' := [(0, _), (2, _), (3, _), (4, _)]) [2, 4, 1, 0] rfl ?_
        exact kq6 _ (Option.some.inj hf).symm
      · refine r_iload_n 4 dX11_frequency_21 rfl rfl ?_
        refine r_iconst (1 : Int32) dX11_frequency_22 (by decide) ?_
        refine r_icmp_ne 37 hf dX11_frequency_23 (by decide) (fun c8 hf => ?_) (fun c8 hf => ?_)
        · refine r_bipush (-2 : Int32) dX11_frequency_37 (by decide) ?_
          exact r_iret rfl dX11_frequency_39 (by obtain ⟨h1, h2⟩ := Prod.mk.inj (oq6 _ (Option.some.inj hf).symm); subst h1; subst h2; exact hr.symm)
        · refine r_sub (L' := [(0, _), (2, _), (3, _), (4, _)]) [2, 4, 1, 0] rfl ?_
          exact kq6 _ (Option.some.inj hf).symm
/-! SearchEngine.openViews -/
noncomputable def E_openViews_l4 (σ : Mem) (th : Nat) (x1 : Int32) (x2 : Int32) : Option ((Int32 × Int32) ⊕ Int32) :=
  if (4 : Int32) ≤ x2 then
    some (Sum.inr x1)
  else
    (ldR σ 11 11 (some th)).bind fun v2 =>
    (raR σ 6 v2 x2).bind fun v3 =>
    (ldB σ 9 0 v3).bind fun v4 =>
    Option.bind (
      if v4 = true then
        some (x1 + (1 : Int32))
      else
        some x1) fun q5 =>
    some (Sum.inl (q5, (x2 + (1 : Int32))))
noncomputable def E_openViews (σ : Mem) (th : Nat) : Option Int32 :=
  (lp (fun q => E_openViews_l4 σ th q.1 q.2) ((0 : Int32), (0 : Int32))).bind fun z8 =>
  some z8
set_option maxRecDepth 100000 in
set_option maxHeartbeats 4000000 in
theorem x_E_openViews_l4 {Γ : W0} {σ0 : Mem} {r : RT} {σ : Mem} {th : Nat} {t : Int32} (hk0 : ∀ z : Int32, z = t → V Γ MD_E_openViews σ0 r σ 30 [(1, .int z)] []) : ∀ q : Int32 × Int32, lp (fun q => E_openViews_l4 σ th q.1 q.2) q = some t → V Γ MD_E_openViews σ0 r σ 4 [(0, va_rf (some th)), (1, .int q.1), (2, .int q.2)] [] := by
  refine lp_ind (fun (q : Int32 × Int32) => V Γ MD_E_openViews σ0 r σ 4 [(0, va_rf (some th)), (1, .int q.1), (2, .int q.2)] []) (fun q x hf ih ho => ?_)
  obtain ⟨x1, x2⟩ := q
  show V Γ MD_E_openViews σ0 r σ 4 [(0, va_rf (some th)), (1, .int x1), (2, .int x2)] []
  replace hf : E_openViews_l4 σ th x1 x2 = some x := hf
  unfold E_openViews_l4 at hf
  refine r_iload_n 2 dX11_openViews_4 rfl rfl ?_
  refine r_iconst (4 : Int32) dX11_openViews_5 (by decide) ?_
  refine r_icmp_ge 30 hf dX11_openViews_6 (by decide) (fun c1 hf => ?_) (fun c1 hf => ?_)
  · refine r_sub (L' := [(1, _)]) [1] rfl ?_
    exact hk0 _ (ho _ (Option.some.inj hf).symm)
  · refine r_aload_n 0 dX11_openViews_9 rfl rfl ?_
    refine r_ldR hf dX11_openViews_10 fl_RX11_39 rfl (fun v2 ev2 hf => ?_)
    refine r_iload_n 2 dX11_openViews_13 rfl rfl ?_
    refine r_raR hf dX11_openViews_14 (by decide) (by decide) (fun v3 ev3 hf => ?_)
    refine r_ldB hf dX11_openViews_15 fl_RX11_107 rfl (fun v4 ev4 hf => ?_)
    refine r_bd (fun (q5 : Int32) => V Γ MD_E_openViews σ0 r σ 24 [(0, va_rf (some th)), (1, .int q5), (2, .int x2)] []) hf (fun q5 hf => ?_) (fun yq5 hf kq5 => ?_)
    · refine r_iinc (1 : Int32) (L' := [(2, _), (0, _), (1, _)]) 2 dX11_openViews_24 rfl (by decide) (show 2 < 3 by decide) rfl ?_
      refine r_goto 4 dX11_openViews_27 (by decide) ?_
      refine r_sub (L' := [(0, _), (1, _), (2, _)]) [1, 2, 0] rfl ?_
      exact ih _ (Option.some.inj hf).symm
    · refine r_ifeqZ 24 hf dX11_openViews_18 (by decide) (fun c6 hf => ?_) (fun c6 hf => ?_)
      · refine r_iinc (1 : Int32) (L' := [(1, _), (0, _), (2, _)]) 1 dX11_openViews_21 rfl (by decide) (show 1 < 3 by decide) rfl ?_
        refine r_sub (L' := [(0, _), (1, _), (2, _)]) [1, 0, 2] rfl ?_
        cases (Option.some.inj hf)
        exact kq5
      · refine r_sub (L' := [(0, _), (1, _), (2, _)]) [0, 1, 2] rfl ?_
        cases (Option.some.inj hf)
        exact kq5
set_option maxRecDepth 100000 in
set_option maxHeartbeats 4000000 in
theorem t_E_openViews {Γ : W0} {σ : Mem} {th : Nat} {v : Int32} (hf : E_openViews σ th = some v) : CT Γ MD_E_openViews yX11_openViews [va_rf (some th)] σ (some (.int v), σ) := by
  refine CT.of (L := [(0, va_rf (some th))]) rfl (by decide) (fun h => Bool.noConfusion (show false = true from h)) (Nat.le_of_ble_eq_true rfl) rfl ?_
  unfold E_openViews at hf
  generalize hr : mkR Γ σ (some (.int v)) σ = r
  refine r_iconst (0 : Int32) dX11_openViews_0 (by decide) ?_
  refine r_istore_n (L' := [(1, _), (0, _)]) dX11_openViews_1 rfl (show 1 < 3 by decide) rfl ?_
  refine r_iconst (0 : Int32) dX11_openViews_2 (by decide) ?_
  refine r_istore_n (L' := [(2, _), (1, _), (0, _)]) dX11_openViews_3 rfl (show 2 < 3 by decide) rfl ?_
  refine bnd hf (fun t7 et7 hf => ?_)
  refine r_sub (L' := [(0, _), (1, _), (2, _)]) [2, 1, 0] rfl ?_
  refine x_E_openViews_l4 ?_ _ et7
  · intro z8 hz8
    subst hz8
    refine r_iload_n 0 dX11_openViews_30 rfl rfl ?_
    exact r_iret rfl dX11_openViews_31 (by have h1 := (Option.some.inj hf); subst h1; exact hr.symm)
/-! SearchEngine.told -/
noncomputable def E_told (σ : Mem) (th : Nat) (x1 : Int32) : Option Int32 :=
  if x1 = (0 : Int32) then
    (ldI σ 11 4 (some th)).bind fun v2 =>
    some v2
  else
  if x1 = (1 : Int32) then
    (chk σ 11 (some th)).bind fun a4 =>
    (E_liveInBuffer σ a4).bind fun v5 =>
    some v5
  else
  if x1 = (2 : Int32) then
    (ldI σ 11 7 (some th)).bind fun v7 =>
    some v7
  else
  if x1 = (3 : Int32) then
    (chk σ 11 (some th)).bind fun a9 =>
    (E_openViews σ a9).bind fun v10 =>
    some v10
  else
  if x1 = (4 : Int32) then
    (ldR σ 11 12 (some th)).bind fun v12 =>
    (ldI σ 0 4 v12).bind fun v13 =>
    some v13
  else
  if x1 = (5 : Int32) then
    (ldR σ 11 12 (some th)).bind fun v15 =>
    (ldI σ 0 1 v15).bind fun v16 =>
    some v16
  else
  if x1 = (6 : Int32) then
    (ldI σ 11 8 (some th)).bind fun v18 =>
    some v18
  else
  some (-2 : Int32)
set_option maxRecDepth 100000 in
set_option maxHeartbeats 4000000 in
theorem t_E_told {Γ : W0} {σ : Mem} {th : Nat} {x1 : Int32} {v : Int32} (hf : E_told σ th x1 = some v) : CT Γ MD_E_told yX11_told [va_rf (some th), .int x1] σ (some (.int v), σ) := by
  refine CT.of (L := [(0, va_rf (some th)), (1, .int x1)]) rfl (by decide) (fun h => Bool.noConfusion (show false = true from h)) (Nat.le_of_ble_eq_true rfl) rfl ?_
  unfold E_told at hf
  generalize hr : mkR Γ σ (some (.int v)) σ = r
  refine r_iload_n 1 dX11_told_0 rfl rfl ?_
  refine sw_pos hf (fun c1 hf => ?_) (fun c1 hf => ?_)
  · refine r_tableIn 44 dX11_told_1 (by rw [c1]; decide) (by rw [c1]; decide) (by rw [c1] <;> rfl) (by decide) ?_
    refine r_aload_n 0 dX11_told_44 rfl rfl ?_
    refine r_ldI hf dX11_told_45 fl_RX11_83 rfl (fun v2 ev2 hf => ?_)
    exact r_iret rfl dX11_told_48 (by have h1 := (Option.some.inj hf); subst h1; exact hr.symm)
  refine sw_pos hf (fun c3 hf => ?_) (fun c3 hf => ?_)
  · refine r_tableIn 49 dX11_told_1 (by rw [c3]; decide) (by rw [c3]; decide) (by rw [c3] <;> rfl) (by decide) ?_
    refine r_aload_n 0 dX11_told_49 rfl rfl ?_
    refine r_chk hf (fun a4 xa4 ta4 hf => ?_)
    refine bnd hf (fun v5 ev5 hf => ?_)
    refine r_callVr (ci := 11) xa4 dX11_told_50 cs_RX11_98 ww_562 ww_5 (by decide) ta4 (by decide) rfl (rest := []) rfl (Or.inl (Nat.le_of_ble_eq_true rfl)) (t_E_liveInBuffer ev5) ?_
    exact r_iret rfl dX11_told_53 (by have h1 := (Option.some.inj hf); subst h1; exact hr.symm)
  refine sw_pos hf (fun c6 hf => ?_) (fun c6 hf => ?_)
  · refine r_tableIn 54 dX11_told_1 (by rw [c6]; decide) (by rw [c6]; decide) (by rw [c6] <;> rfl) (by decide) ?_
    refine r_aload_n 0 dX11_told_54 rfl rfl ?_
    refine r_ldI hf dX11_told_55 fl_RX11_104 rfl (fun v7 ev7 hf => ?_)
    exact r_iret rfl dX11_told_58 (by have h1 := (Option.some.inj hf); subst h1; exact hr.symm)
  refine sw_pos hf (fun c8 hf => ?_) (fun c8 hf => ?_)
  · refine r_tableIn 59 dX11_told_1 (by rw [c8]; decide) (by rw [c8]; decide) (by rw [c8] <;> rfl) (by decide) ?_
    refine r_aload_n 0 dX11_told_59 rfl rfl ?_
    refine r_chk hf (fun a9 xa9 ta9 hf => ?_)
    refine bnd hf (fun v10 ev10 hf => ?_)
    refine r_callVr (ci := 11) xa9 dX11_told_60 cs_RX11_265 ww_1025 ww_37 (by decide) ta9 (by decide) rfl (rest := []) rfl (Or.inl (Nat.le_of_ble_eq_true rfl)) (t_E_openViews ev10) ?_
    exact r_iret rfl dX11_told_63 (by have h1 := (Option.some.inj hf); subst h1; exact hr.symm)
  refine sw_pos hf (fun c11 hf => ?_) (fun c11 hf => ?_)
  · refine r_tableIn 64 dX11_told_1 (by rw [c11]; decide) (by rw [c11]; decide) (by rw [c11] <;> rfl) (by decide) ?_
    refine r_aload_n 0 dX11_told_64 rfl rfl ?_
    refine r_ldR hf dX11_told_65 fl_RX11_47 rfl (fun v12 ev12 hf => ?_)
    refine r_ldI hf dX11_told_68 fl_RX11_156 rfl (fun v13 ev13 hf => ?_)
    exact r_iret rfl dX11_told_71 (by have h1 := (Option.some.inj hf); subst h1; exact hr.symm)
  refine sw_pos hf (fun c14 hf => ?_) (fun c14 hf => ?_)
  · refine r_tableIn 72 dX11_told_1 (by rw [c14]; decide) (by rw [c14]; decide) (by rw [c14] <;> rfl) (by decide) ?_
    refine r_aload_n 0 dX11_told_72 rfl rfl ?_
    refine r_ldR hf dX11_told_73 fl_RX11_47 rfl (fun v15 ev15 hf => ?_)
    refine r_ldI hf dX11_told_76 fl_RX11_268 rfl (fun v16 ev16 hf => ?_)
    exact r_iret rfl dX11_told_79 (by have h1 := (Option.some.inj hf); subst h1; exact hr.symm)
  refine sw_pos hf (fun c17 hf => ?_) (fun c17 hf => ?_)
  · refine r_tableIn 80 dX11_told_1 (by rw [c17]; decide) (by rw [c17]; decide) (by rw [c17] <;> rfl) (by decide) ?_
    refine r_aload_n 0 dX11_told_80 rfl rfl ?_
    refine r_ldI hf dX11_told_81 fl_RX11_271 rfl (fun v18 ev18 hf => ?_)
    exact r_iret rfl dX11_told_84 (by have h1 := (Option.some.inj hf); subst h1; exact hr.symm)
  refine r_tableOut 85 dX11_told_1 (by have nc1 := sw_ne (n := 0) c1 rfl; have nc3 := sw_ne (n := 1) c3 rfl; have nc6 := sw_ne (n := 2) c6 rfl; have nc8 := sw_ne (n := 3) c8 rfl; have nc11 := sw_ne (n := 4) c11 rfl; have nc14 := sw_ne (n := 5) c14 rfl; have nc17 := sw_ne (n := 6) c17 rfl; omega) (by decide) ?_
  refine r_bipush (-2 : Int32) dX11_told_85 (by decide) ?_
  exact r_iret rfl dX11_told_87 (by have h1 := (Option.some.inj hf); subst h1; exact hr.symm)
/-! SearchEngineModel.<init> -/
noncomputable def M_init (σ : Mem) (th : Nat) (x1 : Int32) : Option Mem :=
  (nwA σ 0 (600 : Int32)).bind fun m1 =>
  (stR m1 12 2 (some th) (some (gN σ))).bind fun m2 =>
  (nwA m2 1 (400 : Int32)).bind fun m3 =>
  (stR m3 12 5 (some th) (some (gN m2))).bind fun m4 =>
  (nwA m4 0 (400 : Int32)).bind fun m5 =>
  (stR m5 12 6 (some th) (some (gN m4))).bind fun m6 =>
  (nwA m6 0 (400 : Int32)).bind fun m7 =>
  (stR m7 12 7 (some th) (some (gN m6))).bind fun m8 =>
  (nwA m8 3 (400 : Int32)).bind fun m9 =>
  (stR m9 12 8 (some th) (some (gN m8))).bind fun m10 =>
  (nwA m10 0 (800 : Int32)).bind fun m11 =>
  (stR m11 12 9 (some th) (some (gN m10))).bind fun m12 =>
  (nwA m12 0 (100000 : Int32)).bind fun m13 =>
  (stR m13 12 10 (some th) (some (gN m12))).bind fun m14 =>
  (nwA m14 0 (100000 : Int32)).bind fun m15 =>
  (stR m15 12 11 (some th) (some (gN m14))).bind fun m16 =>
  (nwA m16 0 (100000 : Int32)).bind fun m17 =>
  (stR m17 12 12 (some th) (some (gN m16))).bind fun m18 =>
  (nwA m18 0 (1200000 : Int32)).bind fun m19 =>
  (stR m19 12 13 (some th) (some (gN m18))).bind fun m20 =>
  (nwA m20 0 (400 : Int32)).bind fun m21 =>
  (stR m21 12 14 (some th) (some (gN m20))).bind fun m22 =>
  (nwA m22 0 (420 : Int32)).bind fun m23 =>
  (stR m23 12 17 (some th) (some (gN m22))).bind fun m24 =>
  (nwA m24 0 (420 : Int32)).bind fun m25 =>
  (stR m25 12 18 (some th) (some (gN m24))).bind fun m26 =>
  (nwA m26 0 (168000 : Int32)).bind fun m27 =>
  (stR m27 12 19 (some th) (some (gN m26))).bind fun m28 =>
  (nwA m28 3 (4 : Int32)).bind fun m29 =>
  (stR m29 12 21 (some th) (some (gN m28))).bind fun m30 =>
  (nwA m30 0 (4 : Int32)).bind fun m31 =>
  (stR m31 12 22 (some th) (some (gN m30))).bind fun m32 =>
  (nwA m32 0 (4 : Int32)).bind fun m33 =>
  (stR m33 12 23 (some th) (some (gN m32))).bind fun m34 =>
  (nwA m34 0 (1600 : Int32)).bind fun m35 =>
  (stR m35 12 24 (some th) (some (gN m34))).bind fun m36 =>
  (nwA m36 3 (1600 : Int32)).bind fun m37 =>
  (stR m37 12 25 (some th) (some (gN m36))).bind fun m38 =>
  (stI m38 12 27 (some th) (-1 : Int32)).bind fun m39 =>
  (nwA m39 0 (400 : Int32)).bind fun m40 =>
  (stR m40 12 28 (some th) (some (gN m39))).bind fun m41 =>
  (nwA m41 0 (400 : Int32)).bind fun m42 =>
  (stR m42 12 29 (some th) (some (gN m41))).bind fun m43 =>
  (nwA m43 0 (400 : Int32)).bind fun m44 =>
  (stR m44 12 31 (some th) (some (gN m43))).bind fun m45 =>
  (nwA m45 0 (400 : Int32)).bind fun m46 =>
  (stR m46 12 32 (some th) (some (gN m45))).bind fun m47 =>
  (nwA m47 0 (400 : Int32)).bind fun m48 =>
  (stR m48 12 33 (some th) (some (gN m47))).bind fun m49 =>
  (nwA m49 0 (4800 : Int32)).bind fun m50 =>
  (stR m50 12 34 (some th) (some (gN m49))).bind fun m51 =>
  (stI m51 12 35 (some th) (-1 : Int32)).bind fun m52 =>
  (nwA m52 0 (12 : Int32)).bind fun m53 =>
  (stR m53 12 36 (some th) (some (gN m52))).bind fun m54 =>
  (nwA m54 0 (12 : Int32)).bind fun m55 =>
  (stR m55 12 37 (some th) (some (gN m54))).bind fun m56 =>
  (nwA m56 0 (400 : Int32)).bind fun m57 =>
  (stR m57 12 39 (some th) (some (gN m56))).bind fun m58 =>
  (nwA m58 0 (400 : Int32)).bind fun m59 =>
  (stR m59 12 46 (some th) (some (gN m58))).bind fun m60 =>
  (nwA m60 0 (400 : Int32)).bind fun m61 =>
  (stR m61 12 47 (some th) (some (gN m60))).bind fun m62 =>
  (nwA m62 0 (400 : Int32)).bind fun m63 =>
  (stR m63 12 48 (some th) (some (gN m62))).bind fun m64 =>
  (nwA m64 0 (400 : Int32)).bind fun m65 =>
  (stR m65 12 49 (some th) (some (gN m64))).bind fun m66 =>
  (nwA m66 0 (400 : Int32)).bind fun m67 =>
  (stR m67 12 52 (some th) (some (gN m66))).bind fun m68 =>
  (nwA m68 0 (4800 : Int32)).bind fun m69 =>
  (stR m69 12 53 (some th) (some (gN m68))).bind fun m70 =>
  (nwA m70 0 (400 : Int32)).bind fun m71 =>
  (stR m71 12 54 (some th) (some (gN m70))).bind fun m72 =>
  (nwA m72 0 (10 : Int32)).bind fun m73 =>
  (stR m73 12 55 (some th) (some (gN m72))).bind fun m74 =>
  (nwA m74 0 (10 : Int32)).bind fun m75 =>
  (stR m75 12 56 (some th) (some (gN m74))).bind fun m76 =>
  (nwA m76 3 (10 : Int32)).bind fun m77 =>
  (stR m77 12 57 (some th) (some (gN m76))).bind fun m78 =>
  (nwA m78 0 (400 : Int32)).bind fun m79 =>
  (stR m79 12 60 (some th) (some (gN m78))).bind fun m80 =>
  (nwA m80 0 (400 : Int32)).bind fun m81 =>
  (stR m81 12 61 (some th) (some (gN m80))).bind fun m82 =>
  (nwA m82 0 (400 : Int32)).bind fun m83 =>
  (stR m83 12 62 (some th) (some (gN m82))).bind fun m84 =>
  (nwA m84 3 (420 : Int32)).bind fun m85 =>
  (stR m85 12 66 (some th) (some (gN m84))).bind fun m86 =>
  (nwA m86 0 (420 : Int32)).bind fun m87 =>
  (stR m87 12 67 (some th) (some (gN m86))).bind fun m88 =>
  (nwA m88 0 (14 : Int32)).bind fun m89 =>
  (stR m89 12 69 (some th) (some (gN m88))).bind fun m90 =>
  (nwA m90 0 (14 : Int32)).bind fun m91 =>
  (stR m91 12 70 (some th) (some (gN m90))).bind fun m92 =>
  Option.bind (
    if (x1 &&& (1 : Int32)) ≤ 0 then
      some false
    else
      some true) fun q93 =>
  (stB m92 12 0 (some th) q93).bind fun m95 =>
  Option.bind (
    if (x1 &&& (2 : Int32)) ≤ 0 then
      some false
    else
      some true) fun q96 =>
  (stB m95 12 1 (some th) q96).bind fun m98 =>
  some m98
set_option maxRecDepth 100000 in
set_option maxHeartbeats 4000000 in
theorem t_M_init {Γ : W0} {σ : Mem} {th : Nat} {x1 : Int32} {σ' : Mem} (hf : M_init σ th x1 = some σ') : CT Γ MD_M_init yX12_init [va_rf (some th), .int x1] σ (none, σ') := by
  refine CT.of (L := [(0, va_rf (some th)), (1, .int x1)]) rfl (by decide) (fun _ => rfl) (Nat.le_of_ble_eq_true rfl) rfl ?_
  unfold M_init at hf
  generalize hr : mkR Γ σ (none) σ' = r
  refine r_aload_n 0 dX12_init_0 rfl rfl ?_
  refine r_objInit dX12_init_1 ww_1035 ww_115 ww_116 (by decide) (Nat.le_of_ble_eq_true rfl) ?_
  refine r_aload_n 0 dX12_init_4 rfl rfl ?_
  refine r_sipush (600 : Int32) dX12_init_5 (by decide) ?_
  refine r_newI hf dX12_init_8 ww_313 (fun m1 em1 hf => ?_)
  refine r_stRF hf dX12_init_10 fl_RX12_7 rfl rfl rfl rfl (fun m2 em2 hf => ?_)
  refine r_aload_n 0 dX12_init_13 rfl rfl ?_
  refine r_sipush (400 : Int32) dX12_init_14 (by decide) ?_
  refine r_newL hf dX12_init_17 ww_189 (fun m3 em3 hf => ?_)
  refine r_stRF hf dX12_init_19 fl_RX12_13 rfl rfl rfl rfl (fun m4 em4 hf => ?_)
  refine r_aload_n 0 dX12_init_22 rfl rfl ?_
  refine r_sipush (400 : Int32) dX12_init_23 (by decide) ?_
  refine r_newI hf dX12_init_26 ww_313 (fun m5 em5 hf => ?_)
  refine r_stRF hf dX12_init_28 fl_RX12_17 rfl rfl rfl rfl (fun m6 em6 hf => ?_)
  refine r_aload_n 0 dX12_init_31 rfl rfl ?_
  refine r_sipush (400 : Int32) dX12_init_32 (by decide) ?_
  refine r_newI hf dX12_init_35 ww_313 (fun m7 em7 hf => ?_)
  refine r_stRF hf dX12_init_37 fl_RX12_20 rfl rfl rfl rfl (fun m8 em8 hf => ?_)
  refine r_aload_n 0 dX12_init_40 rfl rfl ?_
  refine r_sipush (400 : Int32) dX12_init_41 (by decide) ?_
  refine r_newB hf dX12_init_44 ww_231 (fun m9 em9 hf => ?_)
  refine r_stRF hf dX12_init_46 fl_RX12_23 rfl rfl rfl rfl (fun m10 em10 hf => ?_)
  refine r_aload_n 0 dX12_init_49 rfl rfl ?_
  refine r_sipush (800 : Int32) dX12_init_50 (by decide) ?_
  refine r_newI hf dX12_init_53 ww_313 (fun m11 em11 hf => ?_)
  refine r_stRF hf dX12_init_55 fl_RX12_27 rfl rfl rfl rfl (fun m12 em12 hf => ?_)
  refine r_aload_n 0 dX12_init_58 rfl rfl ?_
  refine r_ldc (100000 : Int32) dX12_init_59 ww_1036 ?_
  refine r_newI hf dX12_init_61 ww_313 (fun m13 em13 hf => ?_)
  refine r_stRF hf dX12_init_63 fl_RX12_31 rfl rfl rfl rfl (fun m14 em14 hf => ?_)
  refine r_aload_n 0 dX12_init_66 rfl rfl ?_
  refine r_ldc (100000 : Int32) dX12_init_67 ww_1036 ?_
  refine r_newI hf dX12_init_69 ww_313 (fun m15 em15 hf => ?_)
  refine r_stRF hf dX12_init_71 fl_RX12_34 rfl rfl rfl rfl (fun m16 em16 hf => ?_)
  refine r_aload_n 0 dX12_init_74 rfl rfl ?_
  refine r_ldc (100000 : Int32) dX12_init_75 ww_1036 ?_
  refine r_newI hf dX12_init_77 ww_313 (fun m17 em17 hf => ?_)
  refine r_stRF hf dX12_init_79 fl_RX12_37 rfl rfl rfl rfl (fun m18 em18 hf => ?_)
  refine r_aload_n 0 dX12_init_82 rfl rfl ?_
  refine r_ldc (1200000 : Int32) dX12_init_83 ww_1037 ?_
  refine r_newI hf dX12_init_85 ww_313 (fun m19 em19 hf => ?_)
  refine r_stRF hf dX12_init_87 fl_RX12_41 rfl rfl rfl rfl (fun m20 em20 hf => ?_)
  refine r_aload_n 0 dX12_init_90 rfl rfl ?_
  refine r_sipush (400 : Int32) dX12_init_91 (by decide) ?_
  refine r_newI hf dX12_init_94 ww_313 (fun m21 em21 hf => ?_)
  refine r_stRF hf dX12_init_96 fl_RX12_44 rfl rfl rfl rfl (fun m22 em22 hf => ?_)
  refine r_aload_n 0 dX12_init_99 rfl rfl ?_
  refine r_sipush (420 : Int32) dX12_init_100 (by decide) ?_
  refine r_newI hf dX12_init_103 ww_313 (fun m23 em23 hf => ?_)
  refine r_stRF hf dX12_init_105 fl_RX12_47 rfl rfl rfl rfl (fun m24 em24 hf => ?_)
  refine r_aload_n 0 dX12_init_108 rfl rfl ?_
  refine r_sipush (420 : Int32) dX12_init_109 (by decide) ?_
  refine r_newI hf dX12_init_112 ww_313 (fun m25 em25 hf => ?_)
  refine r_stRF hf dX12_init_114 fl_RX12_50 rfl rfl rfl rfl (fun m26 em26 hf => ?_)
  refine r_aload_n 0 dX12_init_117 rfl rfl ?_
  refine r_ldc (168000 : Int32) dX12_init_118 ww_1038 ?_
  refine r_newI hf dX12_init_120 ww_313 (fun m27 em27 hf => ?_)
  refine r_stRF hf dX12_init_122 fl_RX12_54 rfl rfl rfl rfl (fun m28 em28 hf => ?_)
  refine r_aload_n 0 dX12_init_125 rfl rfl ?_
  refine r_iconst (4 : Int32) dX12_init_126 (by decide) ?_
  refine r_newB hf dX12_init_127 ww_231 (fun m29 em29 hf => ?_)
  refine r_stRF hf dX12_init_129 fl_RX12_57 rfl rfl rfl rfl (fun m30 em30 hf => ?_)
  refine r_aload_n 0 dX12_init_132 rfl rfl ?_
  refine r_iconst (4 : Int32) dX12_init_133 (by decide) ?_
  refine r_newI hf dX12_init_134 ww_313 (fun m31 em31 hf => ?_)
  refine r_stRF hf dX12_init_136 fl_RX12_60 rfl rfl rfl rfl (fun m32 em32 hf => ?_)
  refine r_aload_n 0 dX12_init_139 rfl rfl ?_
  refine r_iconst (4 : Int32) dX12_init_140 (by decide) ?_
  refine r_newI hf dX12_init_141 ww_313 (fun m33 em33 hf => ?_)
  refine r_stRF hf dX12_init_143 fl_RX12_63 rfl rfl rfl rfl (fun m34 em34 hf => ?_)
  refine r_aload_n 0 dX12_init_146 rfl rfl ?_
  refine r_sipush (1600 : Int32) dX12_init_147 (by decide) ?_
  refine r_newI hf dX12_init_150 ww_313 (fun m35 em35 hf => ?_)
  refine r_stRF hf dX12_init_152 fl_RX12_66 rfl rfl rfl rfl (fun m36 em36 hf => ?_)
  refine r_aload_n 0 dX12_init_155 rfl rfl ?_
  refine r_sipush (1600 : Int32) dX12_init_156 (by decide) ?_
  refine r_newB hf dX12_init_159 ww_231 (fun m37 em37 hf => ?_)
  refine r_stRF hf dX12_init_161 fl_RX12_69 rfl rfl rfl rfl (fun m38 em38 hf => ?_)
  refine r_aload_n 0 dX12_init_164 rfl rfl ?_
  refine r_iconst (-1 : Int32) dX12_init_165 (by decide) ?_
  refine r_stI hf dX12_init_166 fl_RX12_72 rfl rfl rfl (fun m39 em39 hf => ?_)
  refine r_aload_n 0 dX12_init_169 rfl rfl ?_
  refine r_sipush (400 : Int32) dX12_init_170 (by decide) ?_
  refine r_newI hf dX12_init_173 ww_313 (fun m40 em40 hf => ?_)
  refine r_stRF hf dX12_init_175 fl_RX12_76 rfl rfl rfl rfl (fun m41 em41 hf => ?_)
  refine r_aload_n 0 dX12_init_178 rfl rfl ?_
  refine r_sipush (400 : Int32) dX12_init_179 (by decide) ?_
  refine r_newI hf dX12_init_182 ww_313 (fun m42 em42 hf => ?_)
  refine r_stRF hf dX12_init_184 fl_RX12_79 rfl rfl rfl rfl (fun m43 em43 hf => ?_)
  refine r_aload_n 0 dX12_init_187 rfl rfl ?_
  refine r_sipush (400 : Int32) dX12_init_188 (by decide) ?_
  refine r_newI hf dX12_init_191 ww_313 (fun m44 em44 hf => ?_)
  refine r_stRF hf dX12_init_193 fl_RX12_82 rfl rfl rfl rfl (fun m45 em45 hf => ?_)
  refine r_aload_n 0 dX12_init_196 rfl rfl ?_
  refine r_sipush (400 : Int32) dX12_init_197 (by decide) ?_
  refine r_newI hf dX12_init_200 ww_313 (fun m46 em46 hf => ?_)
  refine r_stRF hf dX12_init_202 fl_RX12_85 rfl rfl rfl rfl (fun m47 em47 hf => ?_)
  refine r_aload_n 0 dX12_init_205 rfl rfl ?_
  refine r_sipush (400 : Int32) dX12_init_206 (by decide) ?_
  refine r_newI hf dX12_init_209 ww_313 (fun m48 em48 hf => ?_)
  refine r_stRF hf dX12_init_211 fl_RX12_88 rfl rfl rfl rfl (fun m49 em49 hf => ?_)
  refine r_aload_n 0 dX12_init_214 rfl rfl ?_
  refine r_sipush (4800 : Int32) dX12_init_215 (by decide) ?_
  refine r_newI hf dX12_init_218 ww_313 (fun m50 em50 hf => ?_)
  refine r_stRF hf dX12_init_220 fl_RX12_91 rfl rfl rfl rfl (fun m51 em51 hf => ?_)
  refine r_aload_n 0 dX12_init_223 rfl rfl ?_
  refine r_iconst (-1 : Int32) dX12_init_224 (by decide) ?_
  refine r_stI hf dX12_init_225 fl_RX12_94 rfl rfl rfl (fun m52 em52 hf => ?_)
  refine r_aload_n 0 dX12_init_228 rfl rfl ?_
  refine r_bipush (12 : Int32) dX12_init_229 (by decide) ?_
  refine r_newI hf dX12_init_231 ww_313 (fun m53 em53 hf => ?_)
  refine r_stRF hf dX12_init_233 fl_RX12_97 rfl rfl rfl rfl (fun m54 em54 hf => ?_)
  refine r_aload_n 0 dX12_init_236 rfl rfl ?_
  refine r_bipush (12 : Int32) dX12_init_237 (by decide) ?_
  refine r_newI hf dX12_init_239 ww_313 (fun m55 em55 hf => ?_)
  refine r_stRF hf dX12_init_241 fl_RX12_100 rfl rfl rfl rfl (fun m56 em56 hf => ?_)
  refine r_aload_n 0 dX12_init_244 rfl rfl ?_
  refine r_sipush (400 : Int32) dX12_init_245 (by decide) ?_
  refine r_newI hf dX12_init_248 ww_313 (fun m57 em57 hf => ?_)
  refine r_stRF hf dX12_init_250 fl_RX12_103 rfl rfl rfl rfl (fun m58 em58 hf => ?_)
  refine r_aload_n 0 dX12_init_253 rfl rfl ?_
  refine r_sipush (400 : Int32) dX12_init_254 (by decide) ?_
  refine r_newI hf dX12_init_257 ww_313 (fun m59 em59 hf => ?_)
  refine r_stRF hf dX12_init_259 fl_RX12_106 rfl rfl rfl rfl (fun m60 em60 hf => ?_)
  refine r_aload_n 0 dX12_init_262 rfl rfl ?_
  refine r_sipush (400 : Int32) dX12_init_263 (by decide) ?_
  refine r_newI hf dX12_init_266 ww_313 (fun m61 em61 hf => ?_)
  refine r_stRF hf dX12_init_268 fl_RX12_109 rfl rfl rfl rfl (fun m62 em62 hf => ?_)
  refine r_aload_n 0 dX12_init_271 rfl rfl ?_
  refine r_sipush (400 : Int32) dX12_init_272 (by decide) ?_
  refine r_newI hf dX12_init_275 ww_313 (fun m63 em63 hf => ?_)
  refine r_stRF hf dX12_init_277 fl_RX12_112 rfl rfl rfl rfl (fun m64 em64 hf => ?_)
  refine r_aload_n 0 dX12_init_280 rfl rfl ?_
  refine r_sipush (400 : Int32) dX12_init_281 (by decide) ?_
  refine r_newI hf dX12_init_284 ww_313 (fun m65 em65 hf => ?_)
  refine r_stRF hf dX12_init_286 fl_RX12_115 rfl rfl rfl rfl (fun m66 em66 hf => ?_)
  refine r_aload_n 0 dX12_init_289 rfl rfl ?_
  refine r_sipush (400 : Int32) dX12_init_290 (by decide) ?_
  refine r_newI hf dX12_init_293 ww_313 (fun m67 em67 hf => ?_)
  refine r_stRF hf dX12_init_295 fl_RX12_118 rfl rfl rfl rfl (fun m68 em68 hf => ?_)
  refine r_aload_n 0 dX12_init_298 rfl rfl ?_
  refine r_sipush (4800 : Int32) dX12_init_299 (by decide) ?_
  refine r_newI hf dX12_init_302 ww_313 (fun m69 em69 hf => ?_)
  refine r_stRF hf dX12_init_304 fl_RX12_121 rfl rfl rfl rfl (fun m70 em70 hf => ?_)
  refine r_aload_n 0 dX12_init_307 rfl rfl ?_
  refine r_sipush (400 : Int32) dX12_init_308 (by decide) ?_
  refine r_newI hf dX12_init_311 ww_313 (fun m71 em71 hf => ?_)
  refine r_stRF hf dX12_init_313 fl_RX12_124 rfl rfl rfl rfl (fun m72 em72 hf => ?_)
  refine r_aload_n 0 dX12_init_316 rfl rfl ?_
  refine r_bipush (10 : Int32) dX12_init_317 (by decide) ?_
  refine r_newI hf dX12_init_319 ww_313 (fun m73 em73 hf => ?_)
  refine r_stRF hf dX12_init_321 fl_RX12_127 rfl rfl rfl rfl (fun m74 em74 hf => ?_)
  refine r_aload_n 0 dX12_init_324 rfl rfl ?_
  refine r_bipush (10 : Int32) dX12_init_325 (by decide) ?_
  refine r_newI hf dX12_init_327 ww_313 (fun m75 em75 hf => ?_)
  refine r_stRF hf dX12_init_329 fl_RX12_130 rfl rfl rfl rfl (fun m76 em76 hf => ?_)
  refine r_aload_n 0 dX12_init_332 rfl rfl ?_
  refine r_bipush (10 : Int32) dX12_init_333 (by decide) ?_
  refine r_newB hf dX12_init_335 ww_231 (fun m77 em77 hf => ?_)
  refine r_stRF hf dX12_init_337 fl_RX12_133 rfl rfl rfl rfl (fun m78 em78 hf => ?_)
  refine r_aload_n 0 dX12_init_340 rfl rfl ?_
  refine r_sipush (400 : Int32) dX12_init_341 (by decide) ?_
  refine r_newI hf dX12_init_344 ww_313 (fun m79 em79 hf => ?_)
  refine r_stRF hf dX12_init_346 fl_RX12_136 rfl rfl rfl rfl (fun m80 em80 hf => ?_)
  refine r_aload_n 0 dX12_init_349 rfl rfl ?_
  refine r_sipush (400 : Int32) dX12_init_350 (by decide) ?_
  refine r_newI hf dX12_init_353 ww_313 (fun m81 em81 hf => ?_)
  refine r_stRF hf dX12_init_355 fl_RX12_139 rfl rfl rfl rfl (fun m82 em82 hf => ?_)
  refine r_aload_n 0 dX12_init_358 rfl rfl ?_
  refine r_sipush (400 : Int32) dX12_init_359 (by decide) ?_
  refine r_newI hf dX12_init_362 ww_313 (fun m83 em83 hf => ?_)
  refine r_stRF hf dX12_init_364 fl_RX12_142 rfl rfl rfl rfl (fun m84 em84 hf => ?_)
  refine r_aload_n 0 dX12_init_367 rfl rfl ?_
  refine r_sipush (420 : Int32) dX12_init_368 (by decide) ?_
  refine r_newB hf dX12_init_371 ww_231 (fun m85 em85 hf => ?_)
  refine r_stRF hf dX12_init_373 fl_RX12_145 rfl rfl rfl rfl (fun m86 em86 hf => ?_)
  refine r_aload_n 0 dX12_init_376 rfl rfl ?_
  refine r_sipush (420 : Int32) dX12_init_377 (by decide) ?_
  refine r_newI hf dX12_init_380 ww_313 (fun m87 em87 hf => ?_)
  refine r_stRF hf dX12_init_382 fl_RX12_148 rfl rfl rfl rfl (fun m88 em88 hf => ?_)
  refine r_aload_n 0 dX12_init_385 rfl rfl ?_
  refine r_bipush (14 : Int32) dX12_init_386 (by decide) ?_
  refine r_newI hf dX12_init_388 ww_313 (fun m89 em89 hf => ?_)
  refine r_stRF hf dX12_init_390 fl_RX12_151 rfl rfl rfl rfl (fun m90 em90 hf => ?_)
  refine r_aload_n 0 dX12_init_393 rfl rfl ?_
  refine r_bipush (14 : Int32) dX12_init_394 (by decide) ?_
  refine r_newI hf dX12_init_396 ww_313 (fun m91 em91 hf => ?_)
  refine r_stRF hf dX12_init_398 fl_RX12_154 rfl rfl rfl rfl (fun m92 em92 hf => ?_)
  refine r_aload_n 0 dX12_init_401 rfl rfl ?_
  refine r_iload_n 1 dX12_init_402 rfl rfl ?_
  refine r_iconst (1 : Int32) dX12_init_403 (by decide) ?_
  refine r_iand dX12_init_404 ?_
  refine r_bd (fun (q93 : Bool) => V Γ MD_M_init σ r m92 413 [(0, va_rf (some th)), (1, .int x1)] [.int (b2i q93), va_rf (some th)]) hf (fun q93 hf => ?_) (fun yq93 hf kq93 => ?_)
  · refine r_stBF hf dX12_init_413 fl_RX12_157 rfl rfl rfl rfl (fun m95 em95 hf => ?_)
    refine r_aload_n 0 dX12_init_416 rfl rfl ?_
    refine r_iload_n 1 dX12_init_417 rfl rfl ?_
    refine r_iconst (2 : Int32) dX12_init_418 (by decide) ?_
    refine r_iand dX12_init_419 ?_
    refine r_bd (fun (q96 : Bool) => V Γ MD_M_init σ r m95 428 [] [.int (b2i q96), va_rf (some th)]) hf (fun q96 hf => ?_) (fun yq96 hf kq96 => ?_)
    · refine r_stBF hf dX12_init_428 fl_RX12_161 rfl rfl rfl rfl (fun m98 em98 hf => ?_)
      exact r_vret rfl dX12_init_431 (by have h1 := (Option.some.inj hf); subst h1; exact hr.symm)
    · refine r_if_le 427 hf dX12_init_420 (by decide) (fun c97 hf => ?_) (fun c97 hf => ?_)
      · refine r_iconst (b2i false) dX12_init_427 rfl ?_
        refine r_sub (L' := []) [] rfl ?_
        cases (Option.some.inj hf)
        exact kq96
      · refine r_iconst (b2i true) dX12_init_423 rfl ?_
        refine r_goto 428 dX12_init_424 (by decide) ?_
        refine r_sub (L' := []) [] rfl ?_
        cases (Option.some.inj hf)
        exact kq96
  · refine r_if_le 412 hf dX12_init_405 (by decide) (fun c94 hf => ?_) (fun c94 hf => ?_)
    · refine r_iconst (b2i false) dX12_init_412 rfl ?_
      refine r_sub (L' := [(0, _), (1, _)]) [0, 1] rfl ?_
      cases (Option.some.inj hf)
      exact kq93
    · refine r_iconst (b2i true) dX12_init_408 rfl ?_
      refine r_goto 413 dX12_init_409 (by decide) ?_
      refine r_sub (L' := [(0, _), (1, _)]) [0, 1] rfl ?_
      cases (Option.some.inj hf)
      exact kq93
