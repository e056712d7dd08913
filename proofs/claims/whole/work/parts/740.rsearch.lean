/-! the reference: hits are collected in order -/
def wHs : Nat → Nat → Nat → Prop := fun t c j => wWk t c j ∨ wIn t c j
theorem sE_hs {R R' : RS} {D : List DocT} {dl : Nat → Bool} {vi : Nat} {v : VwT} {OO : List OpT} {WW : List (List Nat × Nat)} (h : sE R D dl vi v OO WW) (hk : Rp wHs R R') : sE R' D dl vi v OO WW :=
  ⟨h.1.rp hk (fun t c j z => by unfold wHs wWk wIn at z; omega), h.2.1.rp hk (by unfold wHs wWk wIn; omega) (fun c j z1 z2 z => by unfold wHs wWk wIn at z; omega), h.2.2.1.rp hk (by unfold wHs wWk wIn; omega) (fun c j z1 z2 z => by unfold wHs wWk wIn at z; omega), h.2.2.2⟩
theorem prm_wu {L : List (Nat × Nat)} {u v : Nat → Nat × Nat} {x : Nat × Nat} (h : prm L.length u (fun k => L.getD k (0, 0))) (hv : prm (L.length + 1) v (wu u L.length x)) : prm (L ++ [x]).length v (fun k => (L ++ [x]).getD k (0, 0)) := by
  rw [List.length_append, List.length_singleton]
  refine hv.tr (fun c => ?_)
  have e1 : ∀ k, k < L.length → (L ++ [x]).getD k (0, 0) = L.getD k (0, 0) := fun k hk => by
    rw [List.getD_eq_getElem?_getD, List.getElem?_append_left hk, ← List.getD_eq_getElem?_getD]
  have e2 : (L ++ [x]).getD L.length (0, 0) = x := by
    rw [List.getD_eq_getElem?_getD, List.getElem?_append_right (Nat.le_refl _), Nat.sub_self]
    rfl
  show sN (fun k => c (wu u L.length x k)) L.length + c (wu u L.length x L.length) = sN (fun k => c ((L ++ [x]).getD k (0, 0))) L.length + c ((L ++ [x]).getD L.length (0, 0))
  rw [wu_s, e2]
  have h3 : sN (fun k => c (wu u L.length x k)) L.length = sN (fun k => c (u k)) L.length := sN_congr _ (fun k hk => by
    show c (wu u L.length x k) = c (u k)
    rw [wu_n (by omega)])
  have h4 : sN (fun k => c ((L ++ [x]).getD k (0, 0))) L.length = sN (fun k => c (L.getD k (0, 0))) L.length := sN_congr _ (fun k hk => congrArg c (e1 k hk))
  rw [h3, h4, h c]
theorem M_search_loop {R : RS} {D : List DocT} {dl : Nat → Bool} {vi : Nat} {v : VwT} {st sp : Bool} {tp : Nat → Nat} {n : Nat} {Y : QSt} {f : Sem} (ht : ∀ j, j < 600 → tp j < 256) (hn : n ≤ 600) (hT : okTx D) (hp : qParse st sp tp n (evA D v) = .inr (Y, f)) (hE : sE R D dl vi v Y.2.1 Y.2.2.1) (h26 : R.1 0 26 = nI 0) : ∃ R', lp (fun q : Int32 × RS => M_search_l201 q.2 q.1) (0, R) = some R' ∧ Rp wHs R R' ∧ R'.1 0 26 = nI (hitL v f (vDocs v).length).length ∧ ∃ u, (∀ k, k < (hitL v f (vDocs v).length).length → rHt R' k (u k)) ∧ prm (hitL v f (vDocs v).length).length u (fun k => (hitL v f (vDocs v).length).getD k (0, 0)) ∧ srt (fun k => hcode D (u k)) (hitL v f (vDocs v).length).length ∧ ∀ k, k < (hitL v f (vDocs v).length).length → okH D (u k) := by
  have hsc := hE.1
  have hD4 : D.length ≤ 400 := hsc.2.1
  have hvi : vi < 4 := hsc.2.2.2.1
  have hvd : ∀ d, d ∈ vDocs v → d < D.length := hsc.2.2.2.2.2.2.1
  have hle : (vDocs v).length ≤ 400 := hsc.2.2.2.2.2.2.2.1
  have ho : v.1 = true := hsc.2.2.2.2.2.1
  let I : Nat → RS → Prop := fun k τ => Rp wHs R τ ∧ τ.1 0 26 = nI (hitL v f k).length ∧ ∃ u, (∀ j, j < (hitL v f k).length → rHt τ j (u j)) ∧ prm (hitL v f k).length u (fun j => (hitL v f k).getD j (0, 0)) ∧ srt (fun j => hcode D (u j)) (hitL v f k).length ∧ ∀ j, j < (hitL v f k).length → okH D (u j)
  show ∃ R', lp (fun q : Int32 × RS => M_search_l201 q.2 q.1) (nI 0, R) = some R' ∧ I (vDocs v).length R'
  refine lp_for (f := fun q : Int32 × RS => M_search_l201 q.2 q.1) (fun k τ => (nI k, τ)) (vDocs v).length I (I (vDocs v).length) (fun k τ hk hI => Or.inl ?_) (fun τ hI => ⟨τ, ?_, hI⟩) (vDocs v).length 0 R (by omega) ⟨Rp.rf, h26, fun _ => (0, 0), fun j hj => absurd hj (Nat.not_lt_zero _), fun c => rfl, fun i j _ hj => absurd hj (Nat.not_lt_zero _), fun j hj => absurd hj (Nat.not_lt_zero _)⟩
  · obtain ⟨g, g26, u, g1, g2, g3, g4⟩ := hI
    have hE' := sE_hs hE g
    have h63 : τ.1 0 63 = nI vi := hE'.1.2.2.2.2.2.2.2.2
    obtain ⟨-, vb, vc⟩ := hE'.1.2.2.2.2.1.2 ho
    obtain ⟨vd, ve⟩ := vc k hk
    have hlen := hitL_len (v := v) (f := f) k
    have hm : (vDocs v).getD k 0 ∈ vDocs v := by
      rw [List.getD_eq_getElem?_getD, List.getElem?_eq_getElem hk]
      exact List.getElem_mem _
    have hdd := hvd _ hm
    have hsame : ∀ τ', Rp wWk τ τ' → hitL v f (k + 1) = hitL v f k → I (k + 1) τ' := fun τ' k' z => by
      refine ⟨Rp.tr (W' := wWk) g k' (fun _ _ _ y => .inl y), ?_, u, ?_⟩
      · rw [z, k'.I (by decide) (by unfold wWk; omega)]; exact g26
      · rw [z]
        refine ⟨fun j hj => ?_, g2, g3, g4⟩
        obtain ⟨y1, y2⟩ := g1 j hj
        exact ⟨by rw [k'.I (by decide) (by unfold wWk; omega)]; exact y1, by rw [k'.I (by decide) (by unfold wWk; omega)]; exact y2⟩
    show ∃ s', M_search_l201 τ (nI k) = some (.inl (nI (k + 1), s')) ∧ I (k + 1) s'
    unfold M_search_l201
    rw [h63, rdI_ok hvi (by decide), vb]
    simp only [Option.bind_some]
    rw [if_neg (by rw [iLe (by omega) (by omega)]; omega), show (400 : Int32) = nI 400 from rfl, nI_mul, nI_add, rdB_ok (by omega) (by decide), ve]
    simp only [Option.bind_some]
    by_cases hd : vDead v k = true
    · rw [if_pos hd]
      refine ⟨τ, ?_, hsame τ Rp.rf (by rw [hitL, if_pos hd, List.append_nil])⟩
      simp only [Option.bind_some]
      rw [show (1 : Int32) = nI 1 from rfl, nI_add]
    · rw [if_neg hd, rdI_ok (by omega) (by decide), vd]
      simp only [Option.bind_some]
      have k35 : Rp wWk τ (pI τ 68 0) := Rp.pI (by unfold wWk; omega)
      have s35 : rStk (pI τ 68 0) [] := ⟨by simp only [pI, pL, pB, up2_s, up2_ne]; rfl, fun j hj => absurd hj (Nat.not_lt_zero _)⟩
      obtain ⟨z, z1, z2, z3⟩ := M_ops_all (x4 := nI k) ht hn hT hdd hm hp (hE'.rp k35) s35
      rw [z1]
      simp only [Option.bind_some]
      obtain ⟨y1, y2⟩ := z3.2 0 (show 0 < 1 by decide)
      have y1 : z.2.2 42 0 = (f ((vDocs v).getD k 0)).isSome := y1
      have y2 : z.1 43 0 = nI ((f ((vDocs v).getD k 0)).getD 0) := y2
      have kz : Rp wWk τ z := Rp.tr (W' := wWk) k35 z2 (fun _ _ _ y => y)
      rw [show (0 : Int32) = nI 0 from rfl, rdB_ok (by decide) (by decide), y1, rdI_ok (by decide) (by decide), y2]
      simp only [Option.bind_some]
      cases hs : f ((vDocs v).getD k 0) with
      | none =>
        rw [if_neg (by simp)]
        refine ⟨z, ?_, hsame z kz (by rw [hitL, if_neg hd, hs]; exact List.append_nil _)⟩
        simp only [Option.bind_some]
        rw [show (1 : Int32) = nI 1 from rfl, nI_add]
      | some w =>
        rw [if_pos (show (some w).isSome = true from rfl)]
        have hw := M_ops_cap ht hn hT hdd hm hp (hE'.rp k35) s35 w hs
        have hx : okH D ((vDocs v).getD k 0, w) := ⟨hdd, hD4, hw⟩
        have hEz := hE'.rp kz
        have hKy : rKy z D := fun d hd => (hEz.1.1.2.1 d hd).1
        have hL : hitL v f (k + 1) = hitL v f k ++ [((vDocs v).getD k 0, w)] := by
          rw [hitL, if_neg hd, hs]
        obtain ⟨R', vv, r1, r2, r3, r4, r5, r6, r7⟩ := M_insert_ok (x := ((vDocs v).getD k 0, w)) (u := u) (cd := hcode D) (fun m i y a b c d => M_isBefore_ok a hx b c d) hKy (show (hitL v f k).length < 400 by omega) (by rw [kz.I (by decide) (by unfold wWk; omega)]; exact g26) (fun j hj => by
          obtain ⟨y1, y2⟩ := g1 j hj
          exact ⟨by rw [kz.I (by decide) (by unfold wWk; omega)]; exact y1, by rw [kz.I (by decide) (by unfold wWk; omega)]; exact y2⟩) g4 hx g3
        show ∃ s', (((M_insert z (nI ((vDocs v).getD k 0)) (nI w)).bind fun v43 => some v43).bind fun q32 => some (Sum.inl (nI k + 1, q32))) = _ ∧ _
        rw [r1]
        simp only [Option.bind_some]
        rw [show (1 : Int32) = nI 1 from rfl, nI_add]
        refine ⟨R', rfl, (Rp.tr (W' := wWk) g kz (fun _ _ _ y => .inl y)).tr (W' := wIn) r2 (fun _ _ _ y => .inr y), ?_, vv, ?_⟩
        · rw [hL, List.length_append, List.length_singleton]; exact r3
        · rw [hL]
          refine ⟨?_, prm_wu g2 r5, ?_, ?_⟩
          · rw [List.length_append, List.length_singleton]; exact r4
          · rw [List.length_append, List.length_singleton]; exact r6
          · rw [List.length_append, List.length_singleton]; exact r7
  · obtain ⟨g, g26, u, g1, g2, g3, g4⟩ := hI
    have hE' := sE_hs hE g
    have h63 : τ.1 0 63 = nI vi := hE'.1.2.2.2.2.2.2.2.2
    obtain ⟨-, vb, vc⟩ := hE'.1.2.2.2.2.1.2 ho
    show M_search_l201 τ (nI (vDocs v).length) = _
    unfold M_search_l201
    rw [h63, rdI_ok hvi (by decide), vb]
    simp only [Option.bind_some]
    rw [if_pos (by rw [iLe (by omega) (by omega)]; omega)]
