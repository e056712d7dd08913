theorem eL_n : (eL.map (fun x => x.1)).Nodup ∧ (∀ x, x ∈ eL → x.2.2 ≤ 2000000) ∧ eL.length = 5 ∧ mkW eL = 1420 ∧ (eL.getD 4 (0, 0, 0)).1 = 11 ∧ (100 + (eL.getD 4 (0, 0, 0)).2.1, (eL.getD 4 (0, 0, 0)).2.2) = (106, 4) ∧ ¬ 0 ∈ eL.map (fun x => x.1) := by decide
theorem u_first (y w : Nat) : y + w + 11 + 1420 = y + (w + 1431) := by omega
noncomputable def eRest (th : Nat) (z24 : Mem) : Option Mem := (An_init (nwO z24 0) (gN z24)).bind fun v26 => (stR v26 11 12 (some th) (some (gN z24))).bind fun m27 => (Qu_init (nwO m27 5) (gN m27)).bind fun v29 => (stR v29 11 13 (some th) (some (gN m27))).bind fun m30 => (Ne_init (nwO m30 2) (gN m30)).bind fun v32 => (stR v32 11 14 (some th) (some (gN m30))).bind fun m33 => some m33
/-- the first half of an engine: speller, rows, views; what each brings, and what stays -/
theorem E_init_first {σ : Mem} {e : Nat} {x1 : Int32} {st sp : Bool} (hz : zN σ) (ht : gT σ e = (11, 0)) (he : gN σ = e + 1) (hs : bitE x1 1 = some st) (hp : bitE x1 2 = some sp) : ∃ s1 s3 s4, E_init σ e x1 = eRest e s4 ∧ Kp (fun _ _ _ => False) σ s1 ∧ gT s1 (e + 1) = (7, 0) ∧ gT s1 (e + 2) = (101, 11) ∧ gN s1 = e + 3 ∧ gR s1 (e + 1) 2 = some (e + 2) ∧ gB s1 (e + 1) 0 = st ∧ gB s1 (e + 1) 1 = sp ∧ (∀ i, i < 11 → gL s1 (e + 2) i = lN (enc (stopL.getD i []))) ∧ gI s1 = gI σ ∧ Kp (fun t a _ => t = 2 ∧ a = e) s1 s3 ∧ gN s3 = e + 8 ∧ gR s3 e 0 = some (e + 1) ∧ (∀ j, j < 5 → gT s3 (e + 3 + j) = (100 + (eL.getD j (0, 0, 0)).2.1, (eL.getD j (0, 0, 0)).2.2) ∧ gR s3 e (eL.getD j (0, 0, 0)).1 = some (e + 3 + j)) ∧ gI s3 = gI σ ∧ gB s3 = gB s1 ∧ gL s3 = gL s1 ∧ gU s3 = gU σ + (fN 7 + 1431) ∧ Kp (fun t a _ => t = 2 ∧ a = e + 7) s3 s4 ∧ gN s4 = e + 24 ∧ (∀ i, i < 4 → gR s4 (e + 7) i = some (e + 8 + 4 * i) ∧ vTg s4 (e + 8 + 4 * i)) ∧ gI s4 = gI σ ∧ gB s4 = gB s1 ∧ gL s4 = gL s1 ∧ gU s4 = gU s3 + 4 * (fN 9 + 816) ∧ zN s4 ∧ zN s1 := by
  obtain ⟨l1, l2, l3, l4, l5, l6, l7⟩ := eL_n
  rw [E_init_mk]
  obtain ⟨z0, n0, u0, t0, k0, i0, ll0, b0⟩ := nwO_made 7 hz
  rw [hs, Option.bind_some, hp, Option.bind_some]
  obtain ⟨s1, p1, p2, p3, p4, p5, p6, p7, p8, p9, p10, p11⟩ := Sp_made (σ := nwO σ 7) (th := gN σ) z0 (by rw [t0]) (by omega) st sp
  rw [p1, Option.bind_some]
  have k1 : Kp (fun _ _ _ => False) σ s1 := k0.tr p5 (fun t a k ha z => by have z : a = gN σ := z; omega)
  have te : gT s1 e = (11, 0) := by rw [k1.T (by omega)]; exact ht
  rw [stR_ok (by rw [te]), Option.bind_some]
  have z2 : zN (sR s1 e 0 (some (gN σ))) := p4.sR (by omega)
  have kk2 : Kp (fun t a _ => t = 2 ∧ a = e) s1 (sR s1 e 0 (some (gN σ))) := Kp.sR ⟨rfl, rfl⟩
  have r2 : gR (sR s1 e 0 (some (gN σ))) e 0 = some (gN σ) := gR_sRs _ _ _ _
  have n2 : gN (sR s1 e 0 (some (gN σ))) = gN s1 := rfl
  have u2 : gU (sR s1 e 0 (some (gN σ))) = gU s1 := rfl
  have i2 : gI (sR s1 e 0 (some (gN σ))) = gI s1 := rfl
  have ll2 : gL (sR s1 e 0 (some (gN σ))) = gL s1 := rfl
  have b2 : gB (sR s1 e 0 (some (gN σ))) = gB s1 := rfl
  generalize sR s1 e 0 (some (gN σ)) = s2 at *
  have te2 : gT s2 e = (11, 0) := by rw [kk2.T (by omega)]; exact te
  obtain ⟨s3, e3, c3, f3, o3⟩ := mkL_ok (th := e) (ci := 11) (fun m17 => (lp (fun q : Int32 × Mem => E_init_l85 q.2 e q.1) ((0), m17)).bind fun z24 => (An_init (nwO z24 0) (gN z24)).bind fun v26 => (stR v26 11 12 (some e) (some (gN z24))).bind fun m27 => (Qu_init (nwO m27 5) (gN m27)).bind fun v29 => (stR v29 11 13 (some e) (some (gN m27))).bind fun m30 => (Ne_init (nwO m30 2) (gN m30)).bind fun v32 => (stR v32 11 14 (some e) (some (gN m30))).bind fun m33 => some m33) eL s2 z2 (by omega) (by rw [te2]) l2 l1
  rw [e3]
  generalize eL = L at *
  have n3 : gN s3 = gN s2 + 5 := by rw [← l3]; exact c3.n
  have u3 : gU s3 = gU s2 + 1420 := by rw [← l4]; exact c3.2.1
  have k3 : Kp (fun t a _ => t = 2 ∧ a = e) s2 s3 := ⟨by omega, fun a ha => c3.t ha, fun a k ha => ⟨fun _ => by rw [c3.2.2.2.1], fun _ => by rw [c3.2.2.2.2.1], fun q => o3 a k (fun z => q ⟨rfl, z.1⟩), fun _ => by rw [c3.2.2.2.2.2.1]⟩⟩
  have te3 : gT s3 e = (11, 0) := by rw [k3.T (by omega)]; exact te2
  obtain ⟨g4a, g4b⟩ := f3 4 (by omega)
  rw [l5] at g4b
  rw [l6] at g4a
  obtain ⟨s4, v1, v2, v3, v4, v5, v6, v7, v8, v9⟩ := views_ok (σ := s3) (th := e) (r := gN s2 + 4) c3.z (by rw [te3]) (by omega) g4b g4a (by omega) (by omega)
  rw [v1, Option.bind_some]
  have q3 : gN s1 = e + 3 := by omega
  have h7 : gN s2 + 4 = e + 7 := by omega
  have h8 : gN s3 = e + 8 := by omega
  rw [h7] at v5 v9
  rw [h8] at v9
  have q2 : gN s2 = e + 3 := by omega
  refine ⟨s1, s3, s4, rfl, k1, ?_, ?_, q3, ?_, ?_, ?_, ?_, ?_, kk2.tr k3 (fun _ _ _ _ z => z), by omega, ?_, fun j hj => ?_, ?_, ?_, ?_, ?_, ?_, by omega, fun i hi => ?_, ?_, ?_, ?_, v3, v4, p4⟩
  · rw [← he, p5.T (by omega)]; exact t0
  · rw [show e + 2 = gN (nwO σ 7) by omega]; exact p6
  · rw [← he, show e + 2 = gN (nwO σ 7) by omega]; exact p7
  · rw [← he]; exact p8
  · rw [← he]; exact p9
  · intro i hi
    rw [show e + 2 = gN (nwO σ 7) by omega]; exact p10 i hi
  · rw [p11, i0]
  · rw [o3 _ _ (fun z => l7 z.2), r2, he]
  · have := f3 j (by omega)
    rw [q2] at this
    exact this
  · rw [c3.2.2.2.1, i2, p11, i0]
  · rw [c3.2.2.2.2.2.1, b2]
  · rw [c3.2.2.2.2.1, ll2]
  · rw [u3, u2, p3, u0]
    exact u_first _ _
  · exact v5
  · exact v9 i hi
  · rw [v6, c3.2.2.2.1, i2, p11, i0]
  · rw [v8, c3.2.2.2.2.2.1, b2]
  · rw [v7, c3.2.2.2.2.1, ll2]
