/-! THE CLAIM OUT OF ONE WALK OF THE LAW'S BODY. Your part is whole_start (and what it stands on); all else here is the same for every law, but numbers. -/
def R_law : String := "SearchEngineLaw"
def lw_P (b : Addr) (xs : List Int32) (args : Array Value) (s : State) : Prop := args = #[.ref b] ∧ s.IntsAt b xs ∧ xs.length ≤ 385 ∧ (Jvm.Cond.and given_1 narrow_1).before args s = true
def lw_Q (_ : Array Value) (s : State) (o : Outcome) (t : State) : Prop := o = .returned (some (.int 1)) ∧ Framed s o t [] 600000 room_1.slots
def lw_Z (below : List Frame) (a : Array Value) (s : State) : State → Prop := fun t => ∃ o, t.status = .running ∧ Ended t below o ∧ lw_Q a s o t
/-- the law's own end, with 1 on the stack, nothing written that was there before, its room as the claim has it -/
theorem lw_ret {p : Program} {l : Launch} {e : Env} {s : State} {m : MethodId} {below : List Frame} {meth : Method} {c : Code} {b : Nat} (hx : p.tables.exec = Jvm.exec) (hb : c.code = code) (hr : meth.sig.returnType = ret) (hlocks : meth.locks = false) {pc : Nat} {H : Heap} {ls : Array Slot} (hdg : decode code pc = .ok (.ireturn, 1)) : W p l e room_1 s m #[Value.ref b] below meth c H [] 600000 room_1.slots (lw_Z below #[Value.ref b] s) (F0 m pc ls [.int 1]) := by
  intro T hT X
  obtain ⟨fs, hret, hrun, hended, hW, hframe⟩ := X.leave (v := some (.int 1)) (hlocks := hlocks) (fun h => by rw [hr] at h; cases h)
  have hmeth' : T.vm.method? m = some meth := X.method'
  refine ⟨T.setFrames fs, ?_, .returned (some (.int 1)), hrun, hended, rfl, ⟨_, rfl⟩, hW, hframe⟩
  jvm_step X.here [X.here.top, hx, hb, hdg, hmeth', hr, ret, narrow_b1]
  (try refine ⟨rfl, ?_⟩); (try refine ⟨rfl, ?_⟩)
  first | (intro acts; rw [hret _ acts rfl rfl rfl]) | rw [hret _ _ rfl rfl rfl]
  exact Steps.refl _
/-- what holds at the law's entry: the machine, the code, the tables' words (any of lw_tbl by 'hts w (by decide +kernel)'), the script of L ints xs at the cell b, what the Statement gives of the start (any of its parts by flat_of_before) -/
def lw_At (p : Program) (s : State) (m : MethodId) (meth : Method) (c : Code) (b L : Nat) (xs : Nat → Int32) : Prop :=
  p.tables.exec = Jvm.exec ∧ c.code = code ∧ meth.sig.returnType = ret ∧ c.maxLocals = 4 ∧ s.vm.findClass R_law = some m.cls ∧ (∀ w ∈ lw_tbl, w.before #[Value.ref b] s = true) ∧ va_X b L xs s s.heap ∧ b < s.heap.size ∧ meth.locks = false ∧ (Jvm.Cond.and given_1 narrow_1).before #[Value.ref b] s = true
/-! the start: out of the law's function to the walk of the law's body -/
def tmS (i : Nat) : Term := match i with
  | 0 => .string "SearchEngine$Speller" 20
  | 1 => .string "SearchEngine$Parser" 110
  | 2 => .string "SearchEngine$Parser" 116
  | 3 => .string "SearchEngine$Parser" 151
  | _ => .string "SearchEngine$Parser" 153
/-- the empty memory, its first address n -/
def mem0 (n : Nat) : Mem := (fun _ => (99, 0), fun _ _ => 0, fun _ _ => 0, fun _ _ => none, fun _ _ => false, n, 0)
theorem st_exa : ∀ i, i < 5 → (Cond.exactly (tmS i) "java/lang/String") ∈ flatC (Jvm.Cond.and given_1 narrow_1) := by decide +kernel
theorem st_cod : ∀ i, i < 5 → (Cond.eq (.field (tmS i) "java/lang/String" "coder" "B") (.int 0)) ∈ flatC (Jvm.Cond.and given_1 narrow_1) := by decide +kernel
theorem st_arr : ∀ i, i < 5 → (Cond.arrayOf (.field (tmS i) "java/lang/String" "value" "[B") .byte) ∈ flatC (Jvm.Cond.and given_1 narrow_1) := by decide +kernel
theorem st_len : ∀ i, i < 5 → (Cond.eq (.length (.field (tmS i) "java/lang/String" "value" "[B")) (.int (Int32.ofNat (jsLen.getD i 0)))) ∈ flatC (Jvm.Cond.and given_1 narrow_1) := by decide +kernel
theorem st_elm : ∀ i, i < 5 → ∀ j, j < jsLen.getD i 0 → (Cond.eq (.elem (.field (tmS i) "java/lang/String" "value" "[B") (.int (Int32.ofNat j))) (.int ((jsByt.getD i []).getD j 0))) ∈ flatC (Jvm.Cond.and given_1 narrow_1) := by decide +kernel
theorem st_ne : ∀ i, i < 5 → ∀ j, j < 5 → i ≠ j → (Cond.not (Cond.eq (tmS i) (tmS j))) ∈ flatC (Jvm.Cond.and given_1 narrow_1) ∨ (Cond.not (Cond.eq (tmS j) (tmS i))) ∈ flatC (Jvm.Cond.and given_1 narrow_1) := by decide +kernel
theorem st_ref : ∀ q ∈ jsRef, (Cond.stringRef q.1 q.2.1 q.2.2.1) ∈ lw_tbl := by decide +kernel
theorem st_tm : ∀ q ∈ jsRef, q.2.2.2 < 5 ∧ tmS q.2.2.2 = .string q.1 q.2.1 := by decide +kernel
theorem st_nst : ∀ q ∈ nwM, (Cond.methodLinkNest q.1 q.2.1 q.2.2 "SearchEngine") ∈ lw_tbl := by decide +kernel
theorem st_ao : ∀ t, t < 8 → 4 ≤ t → (Cond.arrayOver (arT t)) ∈ lw_tbl := by decide +kernel
theorem st_ob : ∀ t, 4 ≤ t → ∃ C, arT t = .object C
  | 4, _ => ⟨_, rfl⟩
  | 5, _ => ⟨_, rfl⟩
  | 6, _ => ⟨_, rfl⟩
  | n + 7, _ => ⟨_, rfl⟩
theorem st_ac : ∀ t, t < 4 → (Cond.arrayClass (arT t)) ∈ lw_tbl := by decide +kernel
theorem st_in : ∀ ci, ci < 13 → (Cond.instantiable (cnN ci) (fN ci)) ∈ lw_tbl := by decide +kernel
theorem gw_tbl {w : Cond} (h : w ∈ GW) : w ∈ lw_tbl := (List.mem_filter.mp h).1
/-- the law's end: 1 on the stack; nothing written that was there before -/
theorem lw_retA {p : Program} {l : Launch} {e : Env} {s : State} {m : MethodId} {args : Array Value} {below : List Frame} {meth : Method} {c : Code} (hx : p.tables.exec = Jvm.exec) (hb : c.code = code) (hr : meth.sig.returnType = ret) (hlocks : meth.locks = false) {R : Room} {pc : Nat} {H : Heap} {ls : Array Slot} (hdg : decode code pc = .ok (.ireturn, 1)) : W p l e R s m args below meth c H [] 600000 room_1.slots (lw_Z below args s) (F0 m pc ls [.int 1]) := by
  intro T hT X
  obtain ⟨fs, hret, hrun, hended, hW, hframe⟩ := X.leave (v := some (.int 1)) (hlocks := hlocks) (fun h => by rw [hr] at h; cases h)
  have hmeth' : T.vm.method? m = some meth := X.method'
  refine ⟨T.setFrames fs, ?_, .returned (some (.int 1)), hrun, hended, rfl, ⟨_, rfl⟩, hW, hframe⟩
  jvm_step X.here [X.here.top, hx, hb, hdg, hmeth', hr, ret, narrow_b1]
  (try refine ⟨rfl, ?_⟩); (try refine ⟨rfl, ?_⟩)
  first | (intro acts; rw [hret _ acts rfl rfl rfl]) | rw [hret _ _ rfl rfl rfl]
  exact Steps.refl _
set_option maxHeartbeats 4000000 in
set_option maxRecDepth 100000 in
theorem law_start {p : Program} {e : Env} {s : State} {m : MethodId} {below : List Frame} {meth : Method} {c : Code} (l : Launch) {b L : Nat} {xs : Nat → Int32} (C0 : lw_At p s m meth c b L xs)
    (hpure : ∃ σ' : Mem, LW_law (mem0 s.heap.size) (b, L, xs) = some σ' ∧ gN σ' ≤ s.heap.size + 600000 ∧ gU σ' ≤ room_1.slots) : W p l e room_1 s m #[Value.ref b] below meth c s.heap [] 0 0 (lw_Z below #[Value.ref b] s) (entryFrame m ([Value.ref b] : List Value).toArray 4) := by
  obtain ⟨σ', hlw, hN, hU⟩ := hpure
  obtain ⟨hx, hb, hr, hml, hown, hts, hX, hbl, hlocks, hgv⟩ := id C0
  have hg : ∀ w ∈ GW, w.before #[Value.ref b] s = true := fun w hw => hts w (gw_tbl hw)
  have hfl := flat_of_before _ hgv
  have hA : ∀ a : Nat, a < s.heap.size → ¬ s.heap.size ≤ a := fun a h => Nat.not_le.mpr h
  -- the classes
  have hkn : ∀ ci, ∃ x : ClassId × (Nat → Nat), ci < 13 → u_Kn s (cnN ci) (cnT ci) (fN ci) x.1 x.2 := fun ci => by
    by_cases h : ci < 13
    · obtain ⟨cC, iS, hK⟩ := u_known (n := fN ci) hg (vw_in ci h) (hts _ (st_in ci h))
      exact ⟨(cC, iS), fun _ => hK⟩
    · exact ⟨(0, fun _ => 0), fun q => absurd q h⟩
  obtain ⟨fD, hfD⟩ := Classical.axiomOfChoice hkn
  have har : ∀ t, ∃ cA : ClassId, t < 8 → ArrOfT s cA (arT t) ∧ va_RA s cA (arT t) := fun t => by
    by_cases h8 : t < 8
    · by_cases h4 : 4 ≤ t
      · have hw := st_ao t h8 h4
        obtain ⟨C, hC⟩ := st_ob t h4
        rw [hC] at hw ⊢
        obtain ⟨comp, cA, k, hcomp, -, hk, hkind, hname⟩ := Cond.arrayOver_spec (hts _ hw)
        exact ⟨cA, fun _ => ⟨fun n z => ⟨fun k h => (by cases h), k, hk, comp, hkind⟩, ⟨k, comp, hk, hkind, hcomp, hname⟩⟩⟩
      · have hw := hts _ (st_ac t (by omega))
        obtain ⟨cA, k, comp, hname, hk, hkind⟩ := Cond.arrayClass_spec hw
        refine ⟨cA, fun _ => ⟨fun n z => ⟨fun k h => (by cases h), k, hk, comp, hkind⟩, ?_⟩⟩
        match t, h4 with
        | 0, _ => exact hname
        | 1, _ => exact hname
        | 2, _ => exact hname
        | 3, _ => exact hname
        | n + 4, h => exact absurd (by omega) h
    · exact ⟨0, fun q => absurd q h8⟩
  obtain ⟨aC, haC⟩ := Classical.axiomOfChoice har
  obtain ⟨adK, adV, hvk, hev⟩ := vk_Sof (args := #[Value.ref b]) (s := s) (N := 5) (tm := tmS) (len := jsLen) (byt := jsByt) (A := fun q => s.heap.size ≤ q) (by decide) (fun i hi => hfl _ (st_exa i hi)) (fun i hi => hfl _ (st_cod i hi)) (fun i hi => hfl _ (st_arr i hi)) (fun i hi => hfl _ (st_len i hi)) (fun i hi j hj => hfl _ (st_elm i hi j hj)) (fun i j hi hj hij => (st_ne i hi j hj hij).imp (hfl _) (hfl _)) hA
  let Γ : W0 := ((fun ci => (fD ci).1, fun ci => (fD ci).2), aC, s.heap.size, adK, adV, (b, L, xs))
  have hNW : NWs s := ⟨fun q hq => va_Nw.of rfl (hts _ (st_nst q hq)), va_Nw.of rfl (hts (.castable "[J" "java/lang/Cloneable") (by decide +kernel)), fun t h4 h8 C hC => by
    have hw := st_ao t h8 h4
    rw [hC] at hw
    exact va_AO.of (hts _ hw)⟩
  have hKK : va_K (wD Γ) vwCl (arTys (wA Γ)) s := by
    refine ⟨fun ci q hq => ?_, fun k q hk => ?_⟩
    · have h13 : ci < 13 := (List.getElem?_eq_some_iff.mp hq).1
      rw [vw_get ci h13] at hq
      cases hq
      exact hfD ci h13
    · have h8 : k < 8 := (List.getElem?_eq_some_iff.mp hk).1
      rw [tys_get aC k h8] at hk
      cases hk
      exact haC k h8
  have hSE : SE Γ s := ⟨hvk, fun q hq => by
      obtain ⟨h5, ht⟩ := st_tm q hq
      have h1 := hev _ h5
      rw [ht] at h1
      exact vk_R.of (hts _ (st_ref q hq)) h1, va_Zof (hts (.laysStatic "java/lang/String" "COMPACT_STRINGS" "Z") (by decide +kernel)) (hts (.initialized "java/lang/String") (by decide +kernel)) (va_eqi (hfl _ (by decide +kernel))) hA, va_Zqof (hts (.laysStatic "jdk/internal/util/Preconditions" "SIOOBE_FORMATTER" "Ljava/util/function/BiFunction;") (by decide +kernel)) (hts (.initialized "jdk/internal/util/Preconditions") (by decide +kernel)) (hfl _ (by decide +kernel)) hA, hX, hbl, Nat.not_le.mpr hbl⟩
  have hnil : wl aC s.heap.size (mem0 s.heap.size) = [] := by simp [wl, mem0, gN]
  have hST : ST Γ MD_LW_law (mem0 s.heap.size) (mem0 s.heap.size) p s m #[Value.ref b] meth c s.heap [] :=
    ⟨⟨hx, hb, hml, hown, hg, hr, hlocks, fun h => Bool.noConfusion h, hNW⟩, hKK, hSE, rfl, by rw [show wl (wA Γ) (wLo Γ) (mem0 s.heap.size) = [] from hnil]; exact fun k q h => by simp at h, rfl, Nat.le_refl _, Nat.le_refl _, Nat.le_refl _, va_S.rf, fun a h => absurd rfl h⟩
  let σE : Mem := (fun _ => (99, 0), fun _ _ => 0, fun _ _ => 0, fun _ _ => none, fun _ _ => false, s.heap.size + 600000, room_1.slots)
  have hN' : gN σ' - gN (mem0 s.heap.size) ≤ 600000 := by
    show gN σ' - s.heap.size ≤ 600000
    omega
  have hU' : gU σ' - gU (mem0 s.heap.size) ≤ room_1.slots := by
    show gU σ' - 0 ≤ room_1.slots
    omega
  have hV : V Γ MD_LW_law (mem0 s.heap.size) ((fun below args s => lw_Z below args s, σE) : RT) (mem0 s.heap.size) 0 [(0, .ref b)] [] := by
    refine t_LW_law (Γ := Γ) hlw (fun τ L' hτ => ?_)
    subst hτ
    refine ⟨hN, hU, fun p l e s m args below meth c H locs ls hT hl => ?_⟩
    have hS := hT.2.2.2.2.2.2.2.2.2.1
    refine va_forget (fun q hq => Nat.le_trans (by rw [hT.2.2.2.1]; exact hT.2.2.2.2.2.2.1) (hS.2.2 q hq)) ?_
    exact W.widen (k := 600000) (n := room_1.slots) hN' hU' (lw_retA hT.1.1 hT.1.2.1 hT.1.2.2.2.2.2.1 hT.1.2.2.2.2.2.2.1 dL_law_797)
  have hrm : rmOf MD_LW_law (mem0 s.heap.size) σE = room_1 := by
    show ({ frames := 2048, cells := s.heap.size + 600000 - s.heap.size, slots := room_1.slots - 0, locals := 84000 } : Room) = _
    rw [Nat.add_sub_cancel_left]
    rfl
  have hl := lv_entry ([.ref b]) (n := 4) (Nat.le_of_ble_eq_true rfl)
  rw [lg_entry_eq]
  generalize (lg_sl ([.ref b]) ++ List.replicate (4 - (lg_sl ([.ref b])).length) Slot.unset).toArray = ls at hl ⊢
  have w := hV.2.2 p l e s m #[Value.ref b] below meth c s.heap [] ls hST hl
  rw [Nat.sub_self, Nat.sub_self] at w
  have w : W p l e (rmOf MD_LW_law (mem0 s.heap.size) σE) s m #[Value.ref b] below meth c s.heap [] 0 0 (lw_Z below #[Value.ref b] s) (F0 m 0 ls []) := w
  rw [hrm] at w
  exact w
