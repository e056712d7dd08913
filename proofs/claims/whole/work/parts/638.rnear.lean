/-! NEAR of the reference -/
def tkA (R : RS) (u : Nat) (t : List Nat) : Prop := R.1 9 u = nI t.length ∧ ∀ k, k < t.length → R.1 10 (12 * u + k) = nI (t.getD k 0)
def wEdR : Nat → Nat → Nat → Prop := fun t c _ => t = 0 ∧ (c = 44 ∨ c = 45)
theorem tkA.rp {R R' : RS} {u : Nat} {t : List Nat} {W : Nat → Nat → Nat → Prop} (h : tkA R u t) (hk : Rp W R R') (h1 : ∀ k, ¬ W 0 9 k ∧ ¬ W 0 10 k) : tkA R' u t :=
  ⟨by rw [hk.I (by decide) (h1 _).1]; exact h.1, fun k hk' => by rw [hk.I (by decide) (h1 _).2]; exact h.2 k hk'⟩
theorem rDocs.tk {R : RS} {D : List DocT} {dl : Nat → Bool} (hD : rDocs R D dl) {d f k : Nat} (hd : d < D.length) (hf : f < 2) (hk : k < tkN D f d) : tkA R (250 * d + 50 * f + k) (tmA D f d k) := by
  obtain ⟨-, -, u3, u4⟩ := (hD.2.2.2 d f hd hf).2 k hk
  exact ⟨u3, u4⟩
theorem min3 {a b c g : Nat} (ha : a < 100) (hb : b < 100) (hc : c < 100) (hg : g < 2) : ((if c ≤ b then some (nI c) else some (nI b)).bind fun q17 => if nI 1 + q17 ≤ nI a + nI g then some (nI 1 + q17) else some (nI a + nI g)) = some (nI (min (a + g) (1 + min b c))) := by
  by_cases d : c ≤ b
  · rw [if_pos d, Nat.min_eq_right d]
    simp only [Option.bind_some, nI_add, iLe (show 1 + c < 2147483648 by omega) (show a + g < 2147483648 by omega)]
    by_cases q : 1 + c ≤ a + g
    · rw [if_pos q, Nat.min_eq_right q]
    · rw [if_neg q, Nat.min_eq_left (by omega)]
  · rw [if_neg d, Nat.min_eq_left (show b ≤ c by omega)]
    simp only [Option.bind_some, nI_add, iLe (show 1 + b < 2147483648 by omega) (show a + g < 2147483648 by omega)]
    by_cases q : 1 + b ≤ a + g
    · rw [if_pos q, Nat.min_eq_right q]
    · rw [if_neg q, Nat.min_eq_left (by omega)]
theorem M_edits_ok {R : RS} {w t : List Nat} {u : Nat} (hu : u < 100000) (hw : isTerm w) (ht : isTerm t) (hT : rTm R w) (hk : tkA R u t) : ∃ R', M_edits R (nI u) = some (nI (edT w t), R') ∧ Rp wEdR R R' := by
  have hwl := hw.1
  have htl := ht.1
  unfold M_edits
  obtain ⟨R1, e1, k1, s1⟩ : ∃ z, lp (fun q : Int32 × RS => M_edits_l2 q.2 (nI u) q.1) (nI 0, R) = some z ∧ (Rp wEdR R z ∧ ∀ k, k ≤ t.length → z.1 45 k = nI (ed w t 0 k)) := by
    refine lp_for (fun i (s : RS) => (nI i, s)) (t.length + 1) (fun i s => Rp wEdR R s ∧ ∀ k, k < i → s.1 45 k = nI (ed w t 0 k)) _ (fun i s hi hI => ?_) (fun s hI => ?_) (t.length + 1) 0 _ (by omega) ⟨Rp.rf, fun k hk => absurd hk (by omega)⟩
    · left
      obtain ⟨y1, y2⟩ := hI
      obtain ⟨c1, c2⟩ := hk.rp y1 (fun k => ⟨by unfold wEdR; omega, by unfold wEdR; omega⟩)
      unfold M_edits_l2
      simp (disch := first | assumption | omega | (simp only [gT_sI, gT_sL, gT_sR, gT_sB]; first | assumption | omega)) only [Option.bind_some, ldI_ok, ldL_ok, ldR_ok, ldB_ok, stI_ok, stL_ok, stR_ok, stB_ok, chk_ok, raI_k, raL_k, raR_k, raB_k, waI_k, waL_k, waB_k, waR_k, alen_k, gT_sI, gT_sL, gT_sR, gT_sB, gN_sI, gN_sL, gN_sR, gN_sB, gI_sL, gI_sR, gI_sB, gL_sI, gL_sR, gL_sB, gR_sI, gR_sL, gR_sB, gB_sI, gB_sL, gB_sR, gI_sIs, gL_sLs, gR_sRs, gB_sBs, gI_sIn, gL_sLn, gR_sRn, gB_sBn, rdI_ok, rdL_ok, rdB_ok, wrI_ok, wrL_ok, wrB_ok, c1]
      simp (disch := omega) only [nl, nI_add, nI_mul, iSub, iEq, iLe, iLt, iEqN, iNEq, iNN, iLtN, iNLt, iLeN, iNLe, iAddN, iNAdd, iMin, iMax, iDiv, iRem]
      rw [if_neg (by omega)]
      refine ⟨_, rfl, Rp.tr y1 (Rp.wI ⟨rfl, .inr rfl⟩) (fun _ _ _ q => q), fun k hk => ?_⟩
      by_cases z : k = i
      · subst z; simp only [pI, pL, pB, up2_s, up2_ne]; rw [ed_0]
      · try simp only
        rw [up2_ne (by omega)]; exact y2 k (by omega)
    · obtain ⟨y1, y2⟩ := hI
      obtain ⟨c1, c2⟩ := hk.rp y1 (fun k => ⟨by unfold wEdR; omega, by unfold wEdR; omega⟩)
      refine ⟨s, ?_, y1, fun k hk => y2 k (by omega)⟩
      unfold M_edits_l2
      simp (disch := first | assumption | omega | (simp only [gT_sI, gT_sL, gT_sR, gT_sB]; first | assumption | omega)) only [Option.bind_some, ldI_ok, ldL_ok, ldR_ok, ldB_ok, stI_ok, stL_ok, stR_ok, stB_ok, chk_ok, raI_k, raL_k, raR_k, raB_k, waI_k, waL_k, waB_k, waR_k, alen_k, gT_sI, gT_sL, gT_sR, gT_sB, gN_sI, gN_sL, gN_sR, gN_sB, gI_sL, gI_sR, gI_sB, gL_sI, gL_sR, gL_sB, gR_sI, gR_sL, gR_sB, gB_sI, gB_sL, gB_sR, gI_sIs, gL_sLs, gR_sRs, gB_sBs, gI_sIn, gL_sLn, gR_sRn, gB_sBn, rdI_ok, rdL_ok, rdB_ok, wrI_ok, wrL_ok, wrB_ok, c1]
      simp (disch := omega) only [nl, nI_add, nI_mul, iSub, iEq, iLe, iLt, iEqN, iNEq, iNN, iLtN, iNLt, iLeN, iNLe, iAddN, iNAdd, iMin, iMax, iDiv, iRem]
      rw [if_pos (by omega)]
  rw [show (0 : Int32) = nI 0 from rfl, e1]
  simp only [Option.bind_some]
  obtain ⟨R2, e2, k2, s2⟩ : ∃ z, lp (fun q : Int32 × RS => M_edits_l27 q.2 (nI u) q.1) (nI (0 + 1), R1) = some z ∧ (Rp wEdR R z ∧ ∀ k, k ≤ t.length → z.1 45 k = nI (ed w t w.length k)) := by
    refine lp_for (fun i (s : RS) => (nI (i + 1), s)) w.length (fun i s => Rp wEdR R s ∧ ∀ k, k ≤ t.length → s.1 45 k = nI (ed w t i k)) _ (fun i s hi hI => ?_) (fun s hI => ?_) w.length 0 _ (by omega) ⟨k1, s1⟩
    · left
      obtain ⟨y1, y2⟩ := hI
      have w0 := (hT.rp y1 (by unfold wEdR; omega) (fun _ => by unfold wEdR; omega)).1
      unfold M_edits_l27
      rw [w0]
      simp (disch := omega) only [nl, nI_add, nI_mul, iSub, iEq, iLe, iLt, iEqN, iNEq, iNN, iLtN, iNLt, iLeN, iNLe, iAddN, iNAdd, iMin, iMax, iDiv, iRem]
      rw [if_neg (by omega), wrI_ok (by omega) (by omega)]
      simp only [Option.bind_some]
      obtain ⟨z, hz, g1, g2, g3⟩ : ∃ z, lp (fun q : Int32 × RS => M_edits_l44 q.2 (nI u) (nI (i + 1)) q.1) (nI (0 + 1), (up2 s.1 44 0 (nI (i + 1)), s.2)) = some z ∧ (Rp wEdR R z ∧ (∀ k, k ≤ t.length → z.1 45 k = nI (ed w t i k)) ∧ ∀ k, k ≤ t.length → z.1 44 k = nI (ed w t (i + 1) k)) := by
        refine lp_for (fun m (x : RS) => (nI (m + 1), x)) t.length (fun m x => Rp wEdR R x ∧ (∀ k, k ≤ t.length → x.1 45 k = nI (ed w t i k)) ∧ ∀ k, k ≤ m → x.1 44 k = nI (ed w t (i + 1) k)) _ (fun m x hm hI => ?_) (fun x hI => ?_) t.length 0 _ (by omega) ⟨Rp.tr y1 (Rp.wI ⟨rfl, .inl rfl⟩) (fun _ _ _ q => q), fun k hk => ?_, fun k hk => ?_⟩
        · left
          obtain ⟨v1, v2, v3⟩ := hI
          obtain ⟨c1, c2⟩ := hk.rp v1 (fun k => ⟨by unfold wEdR; omega, by unfold wEdR; omega⟩)
          obtain ⟨w1, w2⟩ := hT.rp v1 (by unfold wEdR; omega) (fun _ => by unfold wEdR; omega)
          have x1 := w2 i hi
          have x2 := c2 m hm
          have x3 := v3 m (Nat.le_refl _)
          have x4 := v2 m (by omega)
          have x5 := v2 (m + 1) (by omega)
          have l1 := ed_le w t i m
          have l2 := ed_le w t i (m + 1)
          have l3 := ed_le w t (i + 1) m
          have b1 := isTerm_at hw hi
          have b2 := isTerm_at ht hm
          unfold isTb at b1 b2
          unfold M_edits_l44
          simp (disch := first | assumption | omega | (simp only [gT_sI, gT_sL, gT_sR, gT_sB]; first | assumption | omega)) only [Option.bind_some, ldI_ok, ldL_ok, ldR_ok, ldB_ok, stI_ok, stL_ok, stR_ok, stB_ok, chk_ok, raI_k, raL_k, raR_k, raB_k, waI_k, waL_k, waB_k, waR_k, alen_k, gT_sI, gT_sL, gT_sR, gT_sB, gN_sI, gN_sL, gN_sR, gN_sB, gI_sL, gI_sR, gI_sB, gL_sI, gL_sR, gL_sB, gR_sI, gR_sL, gR_sB, gB_sI, gB_sL, gB_sR, gI_sIs, gL_sLs, gR_sRs, gB_sBs, gI_sIn, gL_sLn, gR_sRn, gB_sBn, rdI_ok, rdL_ok, rdB_ok, wrI_ok, wrL_ok, wrB_ok, c1]
          simp (disch := omega) only [nl, nI_add, nI_mul, iSub, iEq, iLe, iLt, iEqN, iNEq, iNN, iLtN, iNLt, iLeN, iNLe, iAddN, iNAdd, iMin, iMax, iDiv, iRem]
          rw [if_neg (by omega)]
          rw [show i + 1 - 1 = i by omega, show m + 1 - 1 = m by omega, show 12 * u + (m + 1) - 1 = 12 * u + m by omega]
          simp (disch := first | assumption | omega | (simp only [gT_sI, gT_sL, gT_sR, gT_sB]; first | assumption | omega)) only [Option.bind_some, ldI_ok, ldL_ok, ldR_ok, ldB_ok, stI_ok, stL_ok, stR_ok, stB_ok, chk_ok, raI_k, raL_k, raR_k, raB_k, waI_k, waL_k, waB_k, waR_k, alen_k, gT_sI, gT_sL, gT_sR, gT_sB, gN_sI, gN_sL, gN_sR, gN_sB, gI_sL, gI_sR, gI_sB, gL_sI, gL_sR, gL_sB, gR_sI, gR_sL, gR_sB, gB_sI, gB_sL, gB_sR, gI_sIs, gL_sLs, gR_sRs, gB_sBs, gI_sIn, gL_sLn, gR_sRn, gB_sBn, rdI_ok, rdL_ok, rdB_ok, wrI_ok, wrL_ok, wrB_ok, x1, x2, x3, x4, x5]
          simp only [iEq (show w.getD i 0 < 2147483648 by omega) (show t.getD m 0 < 2147483648 by omega)]
          simp (disch := omega) only [nl, nI_add, nI_mul, iSub, iEq, iLe, iLt, iEqN, iNEq, iNN, iLtN, iNLt, iLeN, iNLe, iAddN, iNAdd, iMin, iMax, iDiv, iRem]
          refine ⟨(up2 x.1 44 (m + 1) (nI (ed w t (i + 1) (m + 1))), x.2), ?_, Rp.tr v1 (Rp.wI ⟨rfl, .inl rfl⟩) (fun _ _ _ q => q), fun k hk => ?_, fun k hk => ?_⟩
          · rw [ed_s]
            have hc : (if ¬ w.getD i 0 = t.getD m 0 then some (nI 1) else some (nI 0)) = some (nI (if w.getD i 0 = t.getD m 0 then 0 else 1)) := by
              by_cases c : w.getD i 0 = t.getD m 0
              · rw [if_neg (fun q => q c), if_pos c]
              · rw [if_pos c, if_neg c]
            have hg : (if w.getD i 0 = t.getD m 0 then 0 else 1) < 2 := by split <;> omega
            rw [hc]
            generalize (if w.getD i 0 = t.getD m 0 then 0 else 1) = g at *
            simp only [Option.bind_some]
            rw [← Option.bind_assoc, min3 (by omega) (by omega) (by omega) hg]
            rfl
          · try simp only
            rw [up2_ne (by omega)]; exact v2 k hk
          · by_cases z : k = m + 1
            · subst z; simp only [pI, pL, pB, up2_s, up2_ne]
            · try simp only
              rw [up2_ne (by omega)]; exact v3 k (by omega)
        · obtain ⟨v1, v2, v3⟩ := hI
          obtain ⟨c1, c2⟩ := hk.rp v1 (fun k => ⟨by unfold wEdR; omega, by unfold wEdR; omega⟩)
          refine ⟨x, ?_, v1, v2, v3⟩
          unfold M_edits_l44
          simp (disch := first | assumption | omega | (simp only [gT_sI, gT_sL, gT_sR, gT_sB]; first | assumption | omega)) only [Option.bind_some, ldI_ok, ldL_ok, ldR_ok, ldB_ok, stI_ok, stL_ok, stR_ok, stB_ok, chk_ok, raI_k, raL_k, raR_k, raB_k, waI_k, waL_k, waB_k, waR_k, alen_k, gT_sI, gT_sL, gT_sR, gT_sB, gN_sI, gN_sL, gN_sR, gN_sB, gI_sL, gI_sR, gI_sB, gL_sI, gL_sR, gL_sB, gR_sI, gR_sL, gR_sB, gB_sI, gB_sL, gB_sR, gI_sIs, gL_sLs, gR_sRs, gB_sBs, gI_sIn, gL_sLn, gR_sRn, gB_sBn, rdI_ok, rdL_ok, rdB_ok, wrI_ok, wrL_ok, wrB_ok, c1]
          simp (disch := omega) only [nl, nI_add, nI_mul, iSub, iEq, iLe, iLt, iEqN, iNEq, iNN, iLtN, iNLt, iLeN, iNLe, iAddN, iNAdd, iMin, iMax, iDiv, iRem]
          rw [if_pos (by omega)]
        · try simp only
          rw [up2_ne (by omega)]; exact y2 k hk
        · have : k = 0 := by omega
          subst this
          simp only [pI, pL, pB, up2_s, up2_ne]
          rw [ed_z]
      rw [show nI 1 = nI (0 + 1) from rfl, hz]
      simp only [Option.bind_some]
      obtain ⟨z2, hz2, j1, j2⟩ : ∃ z2, lp (fun q : Int32 × RS => M_edits_l160 q.2 (nI u) (nI (i + 1)) q.1) (nI 0, z) = some z2 ∧ (Rp wEdR R z2 ∧ ∀ k, k ≤ t.length → z2.1 45 k = nI (ed w t (i + 1) k)) := by
        refine lp_for (fun m (x : RS) => (nI m, x)) (t.length + 1) (fun m x => Rp wEdR R x ∧ (∀ k, k ≤ t.length → x.1 44 k = nI (ed w t (i + 1) k)) ∧ ∀ k, k < m → x.1 45 k = nI (ed w t (i + 1) k)) _ (fun m x hm hI => ?_) (fun x hI => ?_) (t.length + 1) 0 _ (by omega) ⟨g1, g3, fun k hk => absurd hk (by omega)⟩
        · left
          obtain ⟨v1, v2, v3⟩ := hI
          obtain ⟨c1, c2⟩ := hk.rp v1 (fun k => ⟨by unfold wEdR; omega, by unfold wEdR; omega⟩)
          unfold M_edits_l160
          simp (disch := first | assumption | omega | (simp only [gT_sI, gT_sL, gT_sR, gT_sB]; first | assumption | omega)) only [Option.bind_some, ldI_ok, ldL_ok, ldR_ok, ldB_ok, stI_ok, stL_ok, stR_ok, stB_ok, chk_ok, raI_k, raL_k, raR_k, raB_k, waI_k, waL_k, waB_k, waR_k, alen_k, gT_sI, gT_sL, gT_sR, gT_sB, gN_sI, gN_sL, gN_sR, gN_sB, gI_sL, gI_sR, gI_sB, gL_sI, gL_sR, gL_sB, gR_sI, gR_sL, gR_sB, gB_sI, gB_sL, gB_sR, gI_sIs, gL_sLs, gR_sRs, gB_sBs, gI_sIn, gL_sLn, gR_sRn, gB_sBn, rdI_ok, rdL_ok, rdB_ok, wrI_ok, wrL_ok, wrB_ok, c1]
          simp (disch := omega) only [nl, nI_add, nI_mul, iSub, iEq, iLe, iLt, iEqN, iNEq, iNN, iLtN, iNLt, iLeN, iNLe, iAddN, iNAdd, iMin, iMax, iDiv, iRem]
          rw [if_neg (by omega)]
          simp (disch := first | assumption | omega | (simp only [gT_sI, gT_sL, gT_sR, gT_sB]; first | assumption | omega)) only [Option.bind_some, ldI_ok, ldL_ok, ldR_ok, ldB_ok, stI_ok, stL_ok, stR_ok, stB_ok, chk_ok, raI_k, raL_k, raR_k, raB_k, waI_k, waL_k, waB_k, waR_k, alen_k, gT_sI, gT_sL, gT_sR, gT_sB, gN_sI, gN_sL, gN_sR, gN_sB, gI_sL, gI_sR, gI_sB, gL_sI, gL_sR, gL_sB, gR_sI, gR_sL, gR_sB, gB_sI, gB_sL, gB_sR, gI_sIs, gL_sLs, gR_sRs, gB_sBs, gI_sIn, gL_sLn, gR_sRn, gB_sBn, rdI_ok, rdL_ok, rdB_ok, wrI_ok, wrL_ok, wrB_ok, v2 m (by omega)]
          refine ⟨_, rfl, Rp.tr v1 (Rp.wI ⟨rfl, .inr rfl⟩) (fun _ _ _ q => q), fun k hk => ?_, fun k hk => ?_⟩
          · try simp only
            rw [up2_ne (by omega)]; exact v2 k hk
          · by_cases z : k = m
            · subst z; simp only [pI, pL, pB, up2_s, up2_ne]
            · try simp only
              rw [up2_ne (by omega)]; exact v3 k (by omega)
        · obtain ⟨v1, v2, v3⟩ := hI
          obtain ⟨c1, c2⟩ := hk.rp v1 (fun k => ⟨by unfold wEdR; omega, by unfold wEdR; omega⟩)
          refine ⟨x, ?_, v1, fun k hk => v3 k (by omega)⟩
          unfold M_edits_l160
          simp (disch := first | assumption | omega | (simp only [gT_sI, gT_sL, gT_sR, gT_sB]; first | assumption | omega)) only [Option.bind_some, ldI_ok, ldL_ok, ldR_ok, ldB_ok, stI_ok, stL_ok, stR_ok, stB_ok, chk_ok, raI_k, raL_k, raR_k, raB_k, waI_k, waL_k, waB_k, waR_k, alen_k, gT_sI, gT_sL, gT_sR, gT_sB, gN_sI, gN_sL, gN_sR, gN_sB, gI_sL, gI_sR, gI_sB, gL_sI, gL_sR, gL_sB, gR_sI, gR_sL, gR_sB, gB_sI, gB_sL, gB_sR, gI_sIs, gL_sLs, gR_sRs, gB_sBs, gI_sIn, gL_sLn, gR_sRn, gB_sBn, rdI_ok, rdL_ok, rdB_ok, wrI_ok, wrL_ok, wrB_ok, c1]
          simp (disch := omega) only [nl, nI_add, nI_mul, iSub, iEq, iLe, iLt, iEqN, iNEq, iNN, iLtN, iNLt, iLeN, iNLe, iAddN, iNAdd, iMin, iMax, iDiv, iRem]
          rw [if_pos (by omega)]
      rw [hz2]
      exact ⟨z2, rfl, j1, j2⟩
    · obtain ⟨y1, y2⟩ := hI
      have w0 := (hT.rp y1 (by unfold wEdR; omega) (fun _ => by unfold wEdR; omega)).1
      refine ⟨s, ?_, y1, y2⟩
      unfold M_edits_l27
      rw [w0]
      simp (disch := omega) only [nl, nI_add, nI_mul, iSub, iEq, iLe, iLt, iEqN, iNEq, iNN, iLtN, iNLt, iLeN, iNLe, iAddN, iNAdd, iMin, iMax, iDiv, iRem]
      rw [if_pos (by omega)]
  rw [show (1 : Int32) = nI (0 + 1) from rfl, e2]
  obtain ⟨c1, c2⟩ := hk.rp k2 (fun k => ⟨by unfold wEdR; omega, by unfold wEdR; omega⟩)
  simp (disch := first | assumption | omega | (simp only [gT_sI, gT_sL, gT_sR, gT_sB]; first | assumption | omega)) only [Option.bind_some, ldI_ok, ldL_ok, ldR_ok, ldB_ok, stI_ok, stL_ok, stR_ok, stB_ok, chk_ok, raI_k, raL_k, raR_k, raB_k, waI_k, waL_k, waB_k, waR_k, alen_k, gT_sI, gT_sL, gT_sR, gT_sB, gN_sI, gN_sL, gN_sR, gN_sB, gI_sL, gI_sR, gI_sB, gL_sI, gL_sR, gL_sB, gR_sI, gR_sL, gR_sB, gB_sI, gB_sL, gB_sR, gI_sIs, gL_sLs, gR_sRs, gB_sBs, gI_sIn, gL_sLn, gR_sRn, gB_sBn, rdI_ok, rdL_ok, rdB_ok, wrI_ok, wrL_ok, wrB_ok, c1, s2 t.length (Nat.le_refl _)]
  exact ⟨R2, rfl, k2⟩
