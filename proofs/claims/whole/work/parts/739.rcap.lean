/-! the score of a document is at most the greatest -/
theorem M_ops_cap {D : List DocT} {dl : Nat → Bool} {vi dd : Nat} {v : VwT} {st sp : Bool} {tp : Nat → Nat} {n : Nat} {Y : QSt} {f : Sem} (ht : ∀ j, j < 600 → tp j < 256) (hn : n ≤ 600) (hT : okTx D) (hdd : dd < D.length) (hm : dd ∈ vDocs v) (hp : qParse st sp tp n (evA D v) = .inr (Y, f)) {R : RS} (hE : sE R D dl vi v Y.2.1 Y.2.2.1) (hS : rStk R []) : ∀ w, f dd = some w → w ≤ qCap := by
  unfold qParse at hp
  split at hp
  · cases hp
  · next i Y' Q hq =>
    split at hp
    · cases hp
      have hO : pfx (Y'.2.1 ++ [((7 : Nat), (0 : Int32), nI Q.1, (0 : Int32)), ((8 : Nat), (0 : Int32), nI (Q.2.1 + 1), (0 : Int32))]) (Y'.2.1 ++ [((7 : Nat), (0 : Int32), nI Q.1, (0 : Int32)), ((8 : Nat), (0 : Int32), nI (Q.2.1 + 1), (0 : Int32))]) := pfx.rf
      have hE : sE R D dl vi v (Y'.2.1 ++ [((7 : Nat), (0 : Int32), nI Q.1, (0 : Int32)), ((8 : Nat), (0 : Int32), nI (Q.2.1 + 1), (0 : Int32))]) Y'.2.2.1 := hE
      generalize hOO : Y'.2.1 ++ [((7 : Nat), (0 : Int32), nI Q.1, (0 : Int32)), ((8 : Nat), (0 : Int32), nI (Q.2.1 + 1), (0 : Int32))] = OO at hE
      rw [hOO] at hO
      have hp7 : pfx (Y'.2.1 ++ [((7 : Nat), (0 : Int32), nI Q.1, (0 : Int32))]) OO := ⟨[((8 : Nat), (0 : Int32), nI (Q.2.1 + 1), (0 : Int32))], by rw [List.append_assoc, ← hOO]; rfl⟩
      have hp8 : pfx ((Y'.2.1 ++ [((7 : Nat), (0 : Int32), nI Q.1, (0 : Int32))]) ++ [((8 : Nat), (0 : Int32), nI (Q.2.1 + 1), (0 : Int32))]) OO := ⟨[], by rw [List.append_nil, List.append_assoc, ← hOO]; rfl⟩
      have hOl : OO.length = Y'.2.1.length + 2 := by rw [← hOO, List.length_append]; rfl
      obtain ⟨R3, A', C', e3, g3, s3, a1, a2, a3, a4, a5, a6, a7⟩ := M_ops (x4 := 0) ht hn hT hdd hm 41 0 _ _ _ _ _ _ _ _ hq (Nat.zero_le _) (pfx.app.tr hp7) pfx.rf R [] [] [] hE hS rfl rfl (fun o ho => absurd ho (by simp)) (fun o ho => absurd ho (by simp)) rfl rfl (Nat.le_refl _)
      have hO202 := hE.2.2.2.1
      have hE3 := hE.rp g3
      obtain ⟨ho7, he7⟩ := hp7.next (d := (0, 0, 0, 0))
      obtain ⟨o1, o2, o3, o4⟩ := hE3.2.1.2 _ ho7
      have he7 : qoA OO Y'.2.1.length = (7, 0, nI Q.1, 0) := he7
      rw [he7] at o1 o3
      rw [← a2] at o3
      obtain ⟨R4, e4, g4, s4⟩ := M_work_fold (d := nI dd) (kk := 7) (by omega) (.inl rfl) o1 o3 s3 (by omega) a4
      rw [if_pos rfl] at s4
      have hE4 := hE3.rp g4
      obtain ⟨ho8, he8⟩ := hp8.next (d := (0, 0, 0, 0))
      have hl8 : (Y'.2.1 ++ [((7 : Nat), (0 : Int32), nI Q.1, (0 : Int32))]).length = Y'.2.1.length + 1 := by rw [List.length_append]; rfl
      rw [hl8] at ho8 he8
      obtain ⟨p1, p2, p3, p4⟩ := hE4.2.1.2 _ ho8
      have he8 : qoA OO (Y'.2.1.length + 1) = (8, 0, nI (Q.2.1 + 1), 0) := he8
      rw [he8] at p1 p3
      have hAl : (A' ++ [allL C']).length = Q.2.1 + 1 := by rw [List.length_append, a1]; rfl
      rw [← hAl] at p3
      have s4 : rStk R4 ([] ++ (A' ++ [allL C'])) := s4
      have hcapA : capL (A' ++ [allL C']) := capL_app a3 (capL_1 allL_cap)
      show ∀ w, eitS (Q.2.2.1 dd) (Q.2.2.2 dd) = some w → w ≤ qCap
      rw [← a5, ← a6, ← anyL_app]
      exact anyL_cap hcapA
    · cases hp
