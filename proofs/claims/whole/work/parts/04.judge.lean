/-! the judgement V -/

theorem vw_in (ci : Nat) (h : ci < 13) : ∀ w ∈ u_ws (cnN ci) (cnT ci) (fN ci), w ∈ GW := ci_all (P := fun ci => ∀ w ∈ u_ws (cnN ci) (cnT ci) (fN ci), w ∈ GW) vw_in0 vw_in1 vw_in2 vw_in3 vw_in4 vw_in5 vw_in6 vw_in7 vw_in8 vw_in9 vw_in10 vw_in11 vw_in12 ci h
/-- words that hold on, though they are none of GW -/
def nwM : List (String × Nat × MethodName) := [("SearchEngine", 146, ⟨"SearchEngine$Query", "scoreOfAny", "(IILSearchEngine$Document;I)I"⟩), ("SearchEngine$Part", 110, ⟨"SearchEngine", "capped", "(J)I"⟩), ("SearchEngine$Part", 84, ⟨"SearchEngine", "eitherScore", "(II)I"⟩), ("SearchEngine$Query", 43, ⟨"SearchEngine", "eitherScore", "(II)I"⟩), ("SearchEngine$Query", 46, ⟨"SearchEngine", "bothScore", "(II)I"⟩), ("SearchEngine$Query", 69, ⟨"SearchEngine", "capped", "(J)I"⟩)]
def NWs (U : State) : Prop := (∀ q ∈ nwM, va_Nw (.methodLinkNest q.1 q.2.1 q.2.2 "SearchEngine") U) ∧ va_Nw (.castable "[J" "java/lang/Cloneable") U ∧ ∀ t, 4 ≤ t → t < 8 → ∀ C, arT t = .object C → va_AO C U
theorem NWs.warm {s U : State} (hW : s.WarmedH U.vm) (h : NWs s) : NWs U := ⟨fun q hq => va_Nw.warmM hW (h.1 q hq), va_Nw.warmC hW h.2.1, fun t h1 h2 C hC => va_AO.moved hW.alike (h.2.2 t h1 h2 C hC)⟩
def jsLen : List Nat := [34, 1, 1, 5, 4]
def jsByt : List (List Int32) := [[97, 32, 97, 110, 32, 97, 110, 100, 32, 105, 110, 32, 105, 115, 32, 105, 116, 32, 111, 102, 32, 111, 110, 32, 111, 114, 32, 116, 104, 101, 32, 116, 111, 32], [120], [121], [116, 105, 116, 108, 101], [98, 111, 100, 121]]
def jsRef : List (String × Nat × String × Nat) := [("SearchEngine$Speller", 20, "a an and in is it of on or the to ", 0), ("SearchEngine$Parser", 110, "x", 1), ("SearchEngine$Parser", 116, "y", 2), ("SearchEngine$Parser", 151, "title", 3), ("SearchEngine$Parser", 153, "body", 4)]
abbrev wD (Γ : W0) : va_G := Γ.1
abbrev wA (Γ : W0) : Nat → ClassId := Γ.2.1
abbrev wLo (Γ : W0) : Nat := Γ.2.2.1
abbrev wK (Γ : W0) : Nat → Nat := Γ.2.2.2.1
abbrev wV (Γ : W0) : Nat → Nat := Γ.2.2.2.2.1
/-- the script: its cell, its length, its ints -/
abbrev wX (Γ : W0) : Nat × Nat × (Nat → Int32) := Γ.2.2.2.2.2
/-- the text constants, and the JDK's statics that their methods read -/
def SE (Γ : W0) (U : State) : Prop := vk_S 5 jsLen jsByt (wK Γ) (wV Γ) (fun q => wLo Γ ≤ q) U U.heap ∧ (∀ q ∈ jsRef, vk_R q.1 q.2.1 q.2.2.1 (wK Γ q.2.2.2) U) ∧ va_Z "java/lang/String" "COMPACT_STRINGS" "Z" (.int 1) (fun q => wLo Γ ≤ q) U U.heap ∧ va_Zq "jdk/internal/util/Preconditions" "SIOOBE_FORMATTER" "Ljava/util/function/BiFunction;" (fun q => wLo Γ ≤ q) U U.heap ∧ va_X (wX Γ).1 (wX Γ).2.1 (wX Γ).2.2 U U.heap ∧ (wX Γ).1 < U.heap.size ∧ ¬ wLo Γ ≤ (wX Γ).1
theorem SE.moved {Γ : W0} {s U : State} (hW : s.WarmedH U.vm) (hq : ∀ a : Nat, a < s.heap.size → ¬ wLo Γ ≤ a → U.heap[a]? = s.heap[a]?) (h : SE Γ s) : SE Γ U :=
  ⟨(h.1.moved hW.alike).kept hq, fun q hq => vk_R.warm hW (h.2.1 q hq), (va_Z.moved hW.alike h.2.2.1).kept hq, (va_Zq.moved hW.alike h.2.2.2.1).kept hq, (h.2.2.2.2.1.kept (hq _ h.2.2.2.2.2.1 h.2.2.2.2.2.2)).moved hW.alike, (by
    obtain ⟨scr, h1, -⟩ := h.2.2.2.2.1.kept (hq _ h.2.2.2.2.2.1 h.2.2.2.2.2.2)
    exact (Array.getElem?_eq_some_iff.mp h1).1), h.2.2.2.2.2.2⟩
/-- only what is ours has a tag -/
def TG (Γ : W0) (σ : Mem) : Prop := ∀ a, (gT σ a).1 ≠ 99 → wLo Γ ≤ a ∧ a < gN σ
def SOK (Γ : W0) (σ : Mem) (U : State) : Prop := va_P (wD Γ) vwCl (wl (wA Γ) (wLo Γ) σ) U.heap ∧ U.heap.size = gN σ ∧ wLo Γ ≤ gN σ ∧ va_K (wD Γ) vwCl (arTys (wA Γ)) U ∧ NWs U ∧ SE Γ U ∧ TG Γ σ
def Qcn (Γ : W0) (r : Option Value × Mem) : Array Value → State → Outcome → State → Prop := fun _ st o t => o = .returned r.1 ∧ SOK Γ r.2 t ∧ st.heap.size ≤ t.heap.size ∧ ∀ q : Nat, q < st.heap.size → ¬ wLo Γ ≤ q → t.heap[q]? = st.heap[q]?
def rmOf (M : MD) (σ σ1 : Mem) : Room := { frames := M.2.2.2.2.2.1, cells := gN σ1 - gN σ, slots := gU σ1 - gU σ, locals := M.2.2.2.2.2.2 }
/-- where a walk is to end, and the memory that bounds its room -/
abbrev RT : Type := (List Frame → Array Value → State → State → Prop) × Mem
def mkR (Γ : W0) (σ0 : Mem) (v : Option Value) (σ1 : Mem) : RT := (fun below args s => MQ below (Qcn Γ (v, σ1)) args s (gN σ1 - gN σ0) (gU σ1 - gU σ0) (fun q => wLo Γ ≤ q), σ1)
def CX (M : MD) (p : Program) (s : State) (m : MethodId) (args : Array Value) (meth : Method) (c : Code) : Prop :=
  p.tables.exec = Jvm.exec ∧ c.code = M.2.1 ∧ c.maxLocals = M.2.2.1 ∧ s.vm.findClass M.1 = some m.cls ∧ (∀ w ∈ GW, w.before args s = true) ∧ meth.sig.returnType = M.2.2.2.1 ∧ meth.locks = false ∧ (M.2.2.2.2.1 = true → meth.name = "<init>") ∧ NWs s
def ST (Γ : W0) (M : MD) (σ0 σ : Mem) (p : Program) (s : State) (m : MethodId) (args : Array Value) (meth : Method) (c : Code) (H : Heap) (locs : List Loc) : Prop :=
  CX M p s m args meth c ∧ va_K (wD Γ) vwCl (arTys (wA Γ)) s ∧ SE Γ s ∧ s.heap.size = gN σ0 ∧ va_P (wD Γ) vwCl (wl (wA Γ) (wLo Γ) σ) H ∧ H.size = gN σ ∧ wLo Γ ≤ gN σ0 ∧ gN σ0 ≤ gN σ ∧ gU σ0 ≤ gU σ ∧ va_S (fun q => wLo Γ ≤ q) s.heap H locs ∧ TG Γ σ
def V (Γ : W0) (M : MD) (σ0 : Mem) (r : RT) (σ : Mem) (pc : Nat) (L : List (Nat × Value)) (st : List Value) : Prop :=
  gN σ ≤ gN r.2 ∧ gU σ ≤ gU r.2 ∧ ∀ (p : Program) (l : Launch) (e : Env) (s : State) (m : MethodId) (args : Array Value) (below : List Frame) (meth : Method) (c : Code) (H : Heap) (locs : List Loc) (ls : Array Slot),
    ST Γ M σ0 σ p s m args meth c H locs → lv_has ls M.2.2.1 L →
    W p l e (rmOf M σ0 r.2) s m args below meth c H locs (gN σ - gN σ0) (gU σ - gU σ0) (r.1 below args s) (F0 m pc ls st)
/-- a method's contract, at a start's arguments and memory and an end's answer and memory -/
def wsOf (M : MD) (y : MethodName) : List Cond := .code y M.2.1 M.2.2.1 M.2.2.2.1 :: GW
def CT (Γ : W0) (M : MD) (y : MethodName) (as : List Value) (σ : Mem) (r : Option Value × Mem) : Prop :=
  gN σ ≤ gN r.2 ∧ gU σ ≤ gU r.2 ∧ ∀ l : Launch, Met l y (wsOf M y) (rmOf M σ r.2) (fun a U => a = as.toArray ∧ SOK Γ σ U) (Qcn Γ r) (gN r.2 - gN σ) (gU r.2 - gU σ) (fun q => wLo Γ ≤ q)
theorem SOK.of {Γ : W0} {M : MD} {σ0 σ : Mem} {p : Program} {s : State} {m : MethodId} {args : Array Value} {meth : Method} {c : Code} {H : Heap} {locs : List Loc} (h : ST Γ M σ0 σ p s m args meth c H locs) {t : State} (ht : t.heap = H) (hW : s.WarmedH t.vm) : SOK Γ σ t :=
  ⟨by rw [ht]; exact h.2.2.2.2.1, by rw [ht]; exact h.2.2.2.2.2.1, Nat.le_trans h.2.2.2.2.2.2.1 h.2.2.2.2.2.2.2.1, va_K.moved hW.alike h.2.1, h.1.2.2.2.2.2.2.2.2.warm hW, h.2.2.1.moved hW (fun a h1 h2 => by rw [ht]; exact h.2.2.2.2.2.2.2.2.2.1.2.1 a h1 h2), h.2.2.2.2.2.2.2.2.2.2⟩
theorem Qcn.of {Γ : W0} {M : MD} {σ0 σ : Mem} {p : Program} {s : State} {m : MethodId} {args a : Array Value} {meth : Method} {c : Code} {H : Heap} {locs : List Loc} {v : Option Value} (h : ST Γ M σ0 σ p s m args meth c H locs) {t : State} (ht : t.heap = H) (hW : s.WarmedH t.vm) : Qcn Γ (v, σ) a s (.returned v) t :=
  ⟨rfl, SOK.of h ht hW, by rw [ht]; exact h.2.2.2.2.2.2.2.2.2.1.1, fun q h1 h2 => by rw [ht]; exact h.2.2.2.2.2.2.2.2.2.1.2.1 q h1 h2⟩
theorem SOK.calling {Γ : W0} {σ : Mem} {U : State} {g : JFrame} {mk : MethodId} {a : Array Value} (h : SOK Γ σ U) : SOK Γ σ (U.calling g mk a) :=
  ⟨h.1, h.2.1, h.2.2.1, va_K.moved (u := U) (U := U.calling g mk a) (Vm.Alike.refl U.vm) h.2.2.2.1, ⟨fun q hq => va_Nw.same rfl (rfl : U.vm = (U.calling g mk a).vm) (h.2.2.2.2.1.1 q hq), va_Nw.same rfl (rfl : U.vm = (U.calling g mk a).vm) h.2.2.2.2.1.2.1, fun t h1 h2 C hC => va_AO.moved (u := U) (U := U.calling g mk a) (Vm.Alike.refl U.vm) (h.2.2.2.2.1.2.2 t h1 h2 C hC)⟩, ⟨vk_S.moved (u := U) (U := U.calling g mk a) (Vm.Alike.refl U.vm) h.2.2.2.2.2.1.1, fun q hq => vk_R.same rfl (h.2.2.2.2.2.1.2.1 q hq), va_Z.moved (u := U) (U := U.calling g mk a) (Vm.Alike.refl U.vm) h.2.2.2.2.2.1.2.2.1, va_Zq.moved (u := U) (U := U.calling g mk a) (Vm.Alike.refl U.vm) h.2.2.2.2.2.1.2.2.2.1, va_X.moved (u := U) (U := U.calling g mk a) (Vm.Alike.refl U.vm) h.2.2.2.2.2.1.2.2.2.2.1, h.2.2.2.2.2.1.2.2.2.2.2⟩, h.2.2.2.2.2.2⟩
/-- a method's contract out of its walk from the entry -/
theorem CT.of {Γ : W0} {M : MD} {y : MethodName} {as : List Value} {σ σ1 : Mem} {v : Option Value} {L : List (Nat × Value)} (hc : y.cls = M.1) (hy : plainName y.cls = true) (hi : M.2.2.2.2.1 = true → y.name = "<init>") (hn : (lg_sl as).length ≤ M.2.2.1) (hL : lv_args 0 as = L) (h : V Γ M σ (mkR Γ σ v σ1) σ 0 L []) : CT Γ M y as σ (v, σ1) := by
  refine ⟨h.1, h.2.1, fun l => Met.ofW (cc := M.2.1) (maxL := M.2.2.1) (ret := M.2.2.2.1) hy rfl ?_⟩
  intro p e s m args below meth c s₁ B hml hP
  obtain ⟨rfl, hs⟩ := hP
  have hts := atoms_spec (ws := wsOf M y) B.pre
  have hown : s.vm.findClass M.1 = some m.cls := hc ▸ findClass_of_methodNamed B.named
  have hnm := (name_of_methodNamed B.named B.method).1
  have hT : ST Γ M σ σ p s m as.toArray meth c s.heap [] := ⟨⟨B.exec, B.bytes, hml, hown, fun w hw => hts w (List.mem_cons_of_mem _ hw), B.returns, B.notSynchronized, fun q => hnm.trans (hi q), hs.2.2.2.2.1⟩, hs.2.2.2.1, hs.2.2.2.2.2.1, hs.2.1, hs.1, hs.2.1, hs.2.2.1, Nat.le_refl _, Nat.le_refl _, va_S.rf, hs.2.2.2.2.2.2⟩
  have hl := lv_entry as hn
  rw [hL] at hl
  rw [lg_entry_eq]
  have := h.2.2 p l e s m as.toArray below meth c s.heap [] _ hT hl
  rw [Nat.sub_self, Nat.sub_self] at this
  exact this
/-- a call: the callee's contract, its words, its room -/
theorem r_call0 {Γ : W0} {M Mc : MD} {y : MethodName} {σ0 σ : Mem} {r : RT} {r1 : Option Value × Mem} {pc : Nat} {L : List (Nat × Value)} {st rest : List Value} {as : List Value} (hC : CT Γ Mc y as σ r1)
    (hrun : ∀ (p : Program) (l : Launch) (e : Env) (s : State) (m : MethodId) (args : Array Value) (below : List Frame) (meth : Method) (c : Code) (H : Heap) (locs : List Loc) (ls : Array Slot), ST Γ M σ0 σ p s m args meth c H locs → lv_has ls M.2.2.1 L → (gN σ - gN σ0) + (gN r1.2 - gN σ) ≤ gN r.2 - gN σ0 → (gU σ - gU σ0) + (gU r1.2 - gU σ) ≤ gU r.2 - gU σ0 →
      va_Run p l e (rmOf M σ0 r.2) s m args below meth c H locs (gN σ - gN σ0) (gU σ - gU σ0) (gN r1.2 - gN σ) (gU r1.2 - gU σ) (F0 m pc ls st) rest (Qcn Γ r1 as.toArray) (fun q => wLo Γ ≤ q))
    (k : V Γ M σ0 r r1.2 (pc + 3) L (r1.1.toList ++ rest)) : V Γ M σ0 r σ pc L st := by
  have h1 := hC.1
  have h2 := hC.2.1
  have h3 := k.1
  have h4 := k.2.1
  refine ⟨Nat.le_trans h1 h3, Nat.le_trans h2 h4, fun p l e s m args below meth c H locs ls hT hl => ?_⟩
  have z1 : gN σ0 ≤ gN σ := hT.2.2.2.2.2.2.2.1
  have z2 : gU σ0 ≤ gU σ := hT.2.2.2.2.2.2.2.2.1
  have hr := hrun p l e s m args below meth c H locs ls hT hl (by omega) (by omega)
  intro T hTH X
  obtain ⟨v, st₀, t, T', Lq, h0, X', hLq, e1, e2, ⟨hv, hs, hz, hk⟩, stp⟩ := hr T hTH X
  cases hv
  rw [h0] at hz hk
  have hW : s.WarmedH t.vm := by rw [← e2]; exact X'.warmed
  have hS := hT.2.2.2.2.2.2.2.2.2.1
  have hT' : ST Γ M σ0 r1.2 p s m args meth c T'.heap (locs ++ Lq) := by
    refine ⟨hT.1, hT.2.1, hT.2.2.1, hT.2.2.2.1, by rw [e1]; exact hs.1, by rw [e1]; exact hs.2.1, hT.2.2.2.2.2.2.1, by omega, by omega, ⟨Nat.le_trans hS.1 (by rw [e1]; exact hz), fun q a1 a2 => ?_, fun q hq => ?_⟩, hs.2.2.2.2.2.2⟩
    · rw [e1, hk q (Nat.lt_of_lt_of_le a1 hS.1) a2]
      exact hS.2.1 q a1 a2
    · rcases List.mem_append.mp hq with h | h
      · exact hS.2.2 q h
      · exact hLq q h
  have w := k.2.2 p l e s m args below meth c T'.heap (locs ++ Lq) ls hT' hl
  have c1 : gN σ - gN σ0 + (gN r1.2 - gN σ) = gN r1.2 - gN σ0 := by omega
  have c2 : gU σ - gU σ0 + (gU r1.2 - gU σ) = gU r1.2 - gU σ0 := by omega
  rw [c1, c2] at X'
  obtain ⟨t2, a1, b1⟩ := w T' rfl X'
  exact ⟨t2, stp t2 a1, b1⟩
theorem ws_pay {M Mc : MD} {y : MethodName} {p : Program} {s : State} {m : MethodId} {args : Array Value} {meth : Method} {c : Code} (hX : CX M p s m args meth c) (hy : Cond.code y Mc.2.1 Mc.2.2.1 Mc.2.2.2.1 ∈ GW) : ∀ w ∈ wsOf Mc y, ∀ (a' : Array Value) (U : State), s.WarmedH U.vm → w.before a' U = true := by
  intro w hw a' U hW
  rcases List.mem_cons.mp hw with h | h
  · subst h
    exact word_at hW (gw_good hy) (hX.2.2.2.2.1 _ hy)
  · exact word_at hW (gw_good h) (hX.2.2.2.2.1 _ h)
/-- what a call site says: link, code, the class made ready, the number of arguments -/
def CS (own : String) (index : Nat) (Mc : MD) (y : MethodName) (n : Nat) : Prop :=
  Cond.methodLink own index y ∈ GW ∧ Cond.code y Mc.2.1 Mc.2.2.1 Mc.2.2.2.1 ∈ GW ∧ Cond.initialized y.cls ∈ GW ∧ (y.cls ≠ "java/lang/invoke/MethodHandle" ∧ y.cls ≠ "java/lang/invoke/VarHandle" ∧ (parseMethodDescriptor y.desc).map (fun d => d.parameters.length) = some n)
theorem CS.cb {Γ : W0} {M Mc : MD} {y : MethodName} {σ0 σ : Mem} {r : RT} {r1 : Option Value × Mem} {own : String} {index n : Nat} {p : Program} {s : State} {m : MethodId} {args : Array Value} {meth : Method} {c : Code} {H : Heap} {locs : List Loc}
    (h : CS own index Mc y n) (hT : ST Γ M σ0 σ p s m args meth c H locs) (hf : Mc.2.2.2.2.2.1 + 1 ≤ M.2.2.2.2.2.1 ∧ 8 + (Mc.2.2.1 + 11) + Mc.2.2.2.2.2.2 ≤ M.2.2.2.2.2.2) :
    CallB (rmOf M σ0 r.2) s args own index y Mc.2.1 Mc.2.2.1 Mc.2.2.2.1 (wsOf Mc y) (rmOf Mc σ r1.2) (gN r1.2 - gN σ) (gU r1.2 - gU σ) n := by
  have hts := hT.1.2.2.2.2.1
  refine ⟨rfl, rfl, hf.1, hf.2, ws_pay hT.1 h.2.1, List.mem_cons_self, hts _ h.2.1, hts _ h.2.2.1, ⟨h.2.2.2.1, h.2.2.2.2.1⟩, fun sig hs => ?_, hts _ h.1⟩
  have h2 := h.2.2.2.2.2
  rw [hs] at h2
  exact (Option.some.inj h2).symm
theorem SOK.pre {Γ : W0} {M : MD} {σ0 σ : Mem} {p : Program} {s : State} {m : MethodId} {args : Array Value} {meth : Method} {c : Code} {H : Heap} {locs : List Loc} (hT : ST Γ M σ0 σ p s m args meth c H locs) (as : List Value) : PreS s H (fun a U => a = as.toArray ∧ SOK Γ σ U) as :=
  ⟨fun a U g mk q => ⟨q.1, q.2.calling⟩, fun U hU hW => ⟨rfl, SOK.of hT hU hW⟩⟩
theorem rv_of {Γ : W0} {M : MD} {σ0 σ : Mem} {p : Program} {s : State} {m : MethodId} {args : Array Value} {meth : Method} {c : Code} {H : Heap} {locs : List Loc} (hT : ST Γ M σ0 σ p s m args meth c H locs) {a ci : Nat} (hci : ci < 13) (ha : (gT σ a).1 = ci) : ∃ cellB : Cell, H[a]? = some cellB ∧ cellB.vm.isStatics = false ∧ s.vm.findClass (cnN ci) = some cellB.cls := by
  obtain ⟨h1, h2⟩ := hT.2.2.2.2.2.2.2.2.2.2 a (by omega)
  have he := wl_get (aC := wA Γ) h1 h2
  rw [ent_o ha (by omega)] at he
  exact va_recv hT.2.1 hT.2.2.2.2.1 (vw_get ci hci) he
theorem fsz {Γ : W0} {M : MD} {σ0 σ : Mem} {p : Program} {s : State} {m : MethodId} {args : Array Value} {meth : Method} {c : Code} {H : Heap} {locs : List Loc} {ls : Array Slot} {L : List (Nat × Value)} (_ : ST Γ M σ0 σ p s m args meth c H locs) (hl : lv_has ls M.2.2.1 L) : ls.size = M.2.2.1 := hl.1
theorem cat_2 (v : Value) : v.category ≤ 2 := by cases v <;> simp [Value.category]
theorem cat_len : ∀ rest : List Value, (rest.map fun v => v.category).sum ≤ 2 * rest.length
  | [] => Nat.le_refl _
  | v :: l => by
    have h1 := cat_2 v
    have h2 := cat_len l
    simp only [List.map_cons, List.sum_cons, List.length_cons]
    omega
theorem cat_le {rest : List Value} (h : rest.length ≤ 4) : (rest.map fun v => v.category).sum ≤ 8 := by
  have := cat_len rest
  omega
theorem cat_or {rest : List Value} (h : rest.length ≤ 4 ∨ (rest.map fun v => v.category).sum ≤ 8) : (rest.map fun v => v.category).sum ≤ 8 := h.elim cat_le id
/-- invokestatic of a method of a class (own, or another's that isn't private) -/
theorem r_callS {Γ : W0} {M Mc : MD} {y : MethodName} {σ0 σ : Mem} {r : RT} {r1 : Option Value × Mem} {pc index n : Nat} {L : List (Nat × Value)} {st rest as : List Value} (hd : decode M.2.1 pc = .ok (.invokestatic index, 3)) (hs : CS M.1 index Mc y n) (hst : Cond.static y ∈ GW) (hf : Mc.2.2.2.2.2.1 + 1 ≤ M.2.2.2.2.2.1 ∧ 8 + (Mc.2.2.1 + 11) + Mc.2.2.2.2.2.2 ≤ M.2.2.2.2.2.2)
    (hn : as.length = n) (hstk : st = as.reverse ++ rest) (hR : rest.length ≤ 4 ∨ (rest.map fun v => v.category).sum ≤ 8) (hC : CT Γ Mc y as σ r1) (k : V Γ M σ0 r r1.2 (pc + 3) L (r1.1.toList ++ rest)) : V Γ M σ0 r σ pc L st :=
  r_call0 hC (fun p l e s m args below meth c H locs ls hT hl f1 f2 => va_runS ⟨hT.1.1, hT.1.2.1, hT.1.2.2.1, hT.1.2.2.2.1, hT.1.2.2.2.2.1⟩ (hC.2.2 l) ⟨hs.cb hT hf, hT.1.2.2.2.2.1 _ hst⟩ (SOK.pre hT as) rfl hn hl.1 hstk (lv_room (cat_or hR)) hd ⟨f1, f2⟩) k
/-- invokevirtual -/
theorem r_callV {Γ : W0} {M Mc : MD} {y : MethodName} {σ0 σ : Mem} {r : RT} {r1 : Option Value × Mem} {pc index n a ci : Nat} {x : Option Nat} {L : List (Nat × Value)} {st rest as : List Value} (hx : x = some a) (hd : decode M.2.1 pc = .ok (.invokevirtual index, 3)) (hs : CS M.1 index Mc y n) (hin : Cond.instanceMethod y ∈ GW) (hse : Cond.selects (cnN ci) y y ∈ GW) (hci : ci < 13) (ha : (gT σ a).1 = ci) (hf : Mc.2.2.2.2.2.1 + 1 ≤ M.2.2.2.2.2.1 ∧ 8 + (Mc.2.2.1 + 11) + Mc.2.2.2.2.2.2 ≤ M.2.2.2.2.2.2)
    (hn : as.length = n) (hstk : st = as.reverse ++ va_rf x :: rest) (hR : rest.length ≤ 4 ∨ (rest.map fun v => v.category).sum ≤ 8) (hC : CT Γ Mc y (.ref a :: as) σ r1) (k : V Γ M σ0 r r1.2 (pc + 3) L (r1.1.toList ++ rest)) : V Γ M σ0 r σ pc L st :=
  r_call0 hC (fun p l e s m args below meth c H locs ls hT hl f1 f2 => va_runV (C := cnN ci) ⟨hT.1.1, hT.1.2.1, hT.1.2.2.1, hT.1.2.2.2.1, hT.1.2.2.2.2.1⟩ (hC.2.2 l) ⟨hs.cb hT hf, hT.1.2.2.2.2.1 _ hin, hT.1.2.2.2.2.1 _ hse⟩ ⟨(SOK.pre hT (.ref a :: as)).1, rv_of hT hci ha, (SOK.pre hT (.ref a :: as)).2⟩ rfl hn hl.1 (by rw [hstk, hx]; rfl) (lv_room (cat_or hR)) hd ⟨f1, f2⟩) k
/-- invokespecial of a constructor -/
theorem r_callI {Γ : W0} {M Mc : MD} {y : MethodName} {σ0 σ : Mem} {r : RT} {r1 : Option Value × Mem} {pc index n a : Nat} {L : List (Nat × Value)} {st rest as : List Value} (hd : decode M.2.1 pc = .ok (.invokespecial index, 3)) (hs : CS M.1 index Mc y n) (hvo : Mc.2.2.2.1 = none) (hnm : y.name = "<init>") (hin : Cond.instanceMethod y ∈ GW) (hf : Mc.2.2.2.2.2.1 + 1 ≤ M.2.2.2.2.2.1 ∧ 8 + (Mc.2.2.1 + 11) + Mc.2.2.2.2.2.2 ≤ M.2.2.2.2.2.2)
    (hn : as.length = n) (hstk : st = as.reverse ++ va_rf (some a) :: rest) (hR : rest.length ≤ 4 ∨ (rest.map fun v => v.category).sum ≤ 8) (hC : CT Γ Mc y (.ref a :: as) σ r1) (k : V Γ M σ0 r r1.2 (pc + 3) L (r1.1.toList ++ rest)) : V Γ M σ0 r σ pc L st :=
  r_call0 hC (fun p l e s m args below meth c H locs ls hT hl f1 f2 => va_runI ⟨hT.1.1, hT.1.2.1, hT.1.2.2.1, hT.1.2.2.2.1, hT.1.2.2.2.2.1⟩ (hC.2.2 l) ⟨by have := hs.cb (r := r) (r1 := r1) hT hf; rw [hvo] at this; exact this, hnm, hT.1.2.2.2.2.1 _ hin⟩ (SOK.pre hT (.ref a :: as)) rfl hn hl.1 hstk (lv_room (cat_or hR)) hd ⟨f1, f2⟩) k
/-- invokestatic of a private method of the outer class -/
theorem r_callN {Γ : W0} {M Mc : MD} {y : MethodName} {σ0 σ : Mem} {r : RT} {r1 : Option Value × Mem} {pc index n : Nat} {L : List (Nat × Value)} {st rest as : List Value} (hd : decode M.2.1 pc = .ok (.invokestatic index, 3)) (hq : (M.1, index, y) ∈ nwM) (hs : Cond.code y Mc.2.1 Mc.2.2.1 Mc.2.2.2.1 ∈ GW ∧ Cond.initialized y.cls ∈ GW ∧ (y.cls ≠ "java/lang/invoke/MethodHandle" ∧ y.cls ≠ "java/lang/invoke/VarHandle" ∧ (parseMethodDescriptor y.desc).map (fun d => d.parameters.length) = some n)) (hst : Cond.static y ∈ GW) (hf : Mc.2.2.2.2.2.1 + 1 ≤ M.2.2.2.2.2.1 ∧ 8 + (Mc.2.2.1 + 11) + Mc.2.2.2.2.2.2 ≤ M.2.2.2.2.2.2)
    (hn : as.length = n) (hstk : st = as.reverse ++ rest) (hR : rest.length ≤ 4 ∨ (rest.map fun v => v.category).sum ≤ 8) (hC : CT Γ Mc y as σ r1) (k : V Γ M σ0 r r1.2 (pc + 3) L (r1.1.toList ++ rest)) : V Γ M σ0 r σ pc L st :=
  r_call0 hC (fun p l e s m args below meth c H locs ls hT hl f1 f2 => va_runSN (host := "SearchEngine") ⟨hT.1.1, hT.1.2.1, hT.1.2.2.1, hT.1.2.2.2.1, hT.1.2.2.2.2.1⟩ (hC.2.2 l) ⟨⟨⟨rfl, rfl, hf.1, hf.2, ws_pay hT.1 hs.1, List.mem_cons_self⟩, hT.1.2.2.2.2.1 _ hs.1, hT.1.2.2.2.2.1 _ hs.2.1, ⟨hs.2.2.1, hs.2.2.2.1⟩, fun sig h => by have h2 := hs.2.2.2.2; rw [h] at h2; exact (Option.some.inj h2).symm, va_Nw.use rfl (hT.1.2.2.2.2.2.2.2.2.1 _ hq)⟩, hT.1.2.2.2.2.1 _ hst, trivial⟩ (SOK.pre hT as) rfl hn hl.1 hstk (lv_room (cat_or hR)) hd ⟨f1, f2⟩) k
/-- invokevirtual of a private method of a nest mate -/
theorem r_callQ {Γ : W0} {M Mc : MD} {y : MethodName} {σ0 σ : Mem} {r : RT} {r1 : Option Value × Mem} {pc index n a ci : Nat} {x : Option Nat} {L : List (Nat × Value)} {st rest as : List Value} (hx : x = some a) (hd : decode M.2.1 pc = .ok (.invokevirtual index, 3)) (hq : (M.1, index, y) ∈ nwM) (hs : Cond.code y Mc.2.1 Mc.2.2.1 Mc.2.2.2.1 ∈ GW ∧ Cond.initialized y.cls ∈ GW ∧ (y.cls ≠ "java/lang/invoke/MethodHandle" ∧ y.cls ≠ "java/lang/invoke/VarHandle" ∧ (parseMethodDescriptor y.desc).map (fun d => d.parameters.length) = some n)) (hin : Cond.instanceMethod y ∈ GW) (hse : Cond.selects (cnN ci) y y ∈ GW) (hci : ci < 13) (ha : (gT σ a).1 = ci) (hf : Mc.2.2.2.2.2.1 + 1 ≤ M.2.2.2.2.2.1 ∧ 8 + (Mc.2.2.1 + 11) + Mc.2.2.2.2.2.2 ≤ M.2.2.2.2.2.2)
    (hn : as.length = n) (hstk : st = as.reverse ++ va_rf x :: rest) (hR : rest.length ≤ 4 ∨ (rest.map fun v => v.category).sum ≤ 8) (hC : CT Γ Mc y (.ref a :: as) σ r1) (k : V Γ M σ0 r r1.2 (pc + 3) L (r1.1.toList ++ rest)) : V Γ M σ0 r σ pc L st :=
  r_call0 hC (fun p l e s m args below meth c H locs ls hT hl f1 f2 => va_runVN (C := cnN ci) (host := "SearchEngine") ⟨hT.1.1, hT.1.2.1, hT.1.2.2.1, hT.1.2.2.2.1, hT.1.2.2.2.2.1⟩ (hC.2.2 l) ⟨⟨⟨rfl, rfl, hf.1, hf.2, ws_pay hT.1 hs.1, List.mem_cons_self⟩, hT.1.2.2.2.2.1 _ hs.1, hT.1.2.2.2.2.1 _ hs.2.1, ⟨hs.2.2.1, hs.2.2.2.1⟩, fun sig h => by have h2 := hs.2.2.2.2; rw [h] at h2; exact (Option.some.inj h2).symm, va_Nw.use rfl (hT.1.2.2.2.2.2.2.2.2.1 _ hq)⟩, hT.1.2.2.2.2.1 _ hin, hT.1.2.2.2.2.1 _ hse⟩ ⟨(SOK.pre hT (.ref a :: as)).1, rv_of hT hci ha, (SOK.pre hT (.ref a :: as)).2⟩ rfl hn hl.1 (by rw [hstk, hx]; rfl) (lv_room (cat_or hR)) hd ⟨f1, f2⟩) k
theorem r_callQr {Γ : W0} {M Mc : MD} {y : MethodName} {σ0 σ : Mem} {r : RT} {σ1 : Mem} {v : Value} {pc index n a ci : Nat} {x : Option Nat} {L : List (Nat × Value)} {st rest as : List Value} (hx : x = some a) (hd : decode M.2.1 pc = .ok (.invokevirtual index, 3)) (hq : (M.1, index, y) ∈ nwM) (hs : Cond.code y Mc.2.1 Mc.2.2.1 Mc.2.2.2.1 ∈ GW ∧ Cond.initialized y.cls ∈ GW ∧ (y.cls ≠ "java/lang/invoke/MethodHandle" ∧ y.cls ≠ "java/lang/invoke/VarHandle" ∧ (parseMethodDescriptor y.desc).map (fun d => d.parameters.length) = some n)) (hin : Cond.instanceMethod y ∈ GW) (hse : Cond.selects (cnN ci) y y ∈ GW) (hci : ci < 13) (ha : (gT σ a).1 = ci) (hf : Mc.2.2.2.2.2.1 + 1 ≤ M.2.2.2.2.2.1 ∧ 8 + (Mc.2.2.1 + 11) + Mc.2.2.2.2.2.2 ≤ M.2.2.2.2.2.2)
    (hn : as.length = n) (hstk : st = as.reverse ++ va_rf x :: rest) (hR : rest.length ≤ 4 ∨ (rest.map fun v => v.category).sum ≤ 8) (hC : CT Γ Mc y (.ref a :: as) σ (some v, σ1)) (k : V Γ M σ0 r σ1 (pc + 3) L (v :: rest)) : V Γ M σ0 r σ pc L st := r_callQ (r1 := (some v, σ1)) hx hd hq hs hin hse hci ha hf hn hstk hR hC k
theorem r_callQv {Γ : W0} {M Mc : MD} {y : MethodName} {σ0 σ : Mem} {r : RT} {σ1 : Mem} {pc index n a ci : Nat} {x : Option Nat} {L : List (Nat × Value)} {st rest as : List Value} (hx : x = some a) (hd : decode M.2.1 pc = .ok (.invokevirtual index, 3)) (hq : (M.1, index, y) ∈ nwM) (hs : Cond.code y Mc.2.1 Mc.2.2.1 Mc.2.2.2.1 ∈ GW ∧ Cond.initialized y.cls ∈ GW ∧ (y.cls ≠ "java/lang/invoke/MethodHandle" ∧ y.cls ≠ "java/lang/invoke/VarHandle" ∧ (parseMethodDescriptor y.desc).map (fun d => d.parameters.length) = some n)) (hin : Cond.instanceMethod y ∈ GW) (hse : Cond.selects (cnN ci) y y ∈ GW) (hci : ci < 13) (ha : (gT σ a).1 = ci) (hf : Mc.2.2.2.2.2.1 + 1 ≤ M.2.2.2.2.2.1 ∧ 8 + (Mc.2.2.1 + 11) + Mc.2.2.2.2.2.2 ≤ M.2.2.2.2.2.2)
    (hn : as.length = n) (hstk : st = as.reverse ++ va_rf x :: rest) (hR : rest.length ≤ 4 ∨ (rest.map fun v => v.category).sum ≤ 8) (hC : CT Γ Mc y (.ref a :: as) σ (none, σ1)) (k : V Γ M σ0 r σ1 (pc + 3) L (rest)) : V Γ M σ0 r σ pc L st := r_callQ (r1 := (none, σ1)) hx hd hq hs hin hse hci ha hf hn hstk hR hC k
theorem r_callSr {Γ : W0} {M Mc : MD} {y : MethodName} {σ0 σ : Mem} {r : RT} {σ1 : Mem} {v : Value} {pc index n : Nat} {L : List (Nat × Value)} {st rest as : List Value} (hd : decode M.2.1 pc = .ok (.invokestatic index, 3)) (hs : CS M.1 index Mc y n) (hst : Cond.static y ∈ GW) (hf : Mc.2.2.2.2.2.1 + 1 ≤ M.2.2.2.2.2.1 ∧ 8 + (Mc.2.2.1 + 11) + Mc.2.2.2.2.2.2 ≤ M.2.2.2.2.2.2)
    (hn : as.length = n) (hstk : st = as.reverse ++ rest) (hR : rest.length ≤ 4 ∨ (rest.map fun v => v.category).sum ≤ 8) (hC : CT Γ Mc y as σ (some v, σ1)) (k : V Γ M σ0 r σ1 (pc + 3) L (v :: rest)) : V Γ M σ0 r σ pc L st := r_callS (r1 := (some v, σ1)) hd hs hst hf hn hstk hR hC k
theorem r_callSv {Γ : W0} {M Mc : MD} {y : MethodName} {σ0 σ : Mem} {r : RT} {σ1 : Mem} {pc index n : Nat} {L : List (Nat × Value)} {st rest as : List Value} (hd : decode M.2.1 pc = .ok (.invokestatic index, 3)) (hs : CS M.1 index Mc y n) (hst : Cond.static y ∈ GW) (hf : Mc.2.2.2.2.2.1 + 1 ≤ M.2.2.2.2.2.1 ∧ 8 + (Mc.2.2.1 + 11) + Mc.2.2.2.2.2.2 ≤ M.2.2.2.2.2.2)
    (hn : as.length = n) (hstk : st = as.reverse ++ rest) (hR : rest.length ≤ 4 ∨ (rest.map fun v => v.category).sum ≤ 8) (hC : CT Γ Mc y as σ (none, σ1)) (k : V Γ M σ0 r σ1 (pc + 3) L (rest)) : V Γ M σ0 r σ pc L st := r_callS (r1 := (none, σ1)) hd hs hst hf hn hstk hR hC k
theorem r_callVr {Γ : W0} {M Mc : MD} {y : MethodName} {σ0 σ : Mem} {r : RT} {σ1 : Mem} {v : Value} {pc index n a ci : Nat} {x : Option Nat} {L : List (Nat × Value)} {st rest as : List Value} (hx : x = some a) (hd : decode M.2.1 pc = .ok (.invokevirtual index, 3)) (hs : CS M.1 index Mc y n) (hin : Cond.instanceMethod y ∈ GW) (hse : Cond.selects (cnN ci) y y ∈ GW) (hci : ci < 13) (ha : (gT σ a).1 = ci) (hf : Mc.2.2.2.2.2.1 + 1 ≤ M.2.2.2.2.2.1 ∧ 8 + (Mc.2.2.1 + 11) + Mc.2.2.2.2.2.2 ≤ M.2.2.2.2.2.2)
    (hn : as.length = n) (hstk : st = as.reverse ++ va_rf x :: rest) (hR : rest.length ≤ 4 ∨ (rest.map fun v => v.category).sum ≤ 8) (hC : CT Γ Mc y (.ref a :: as) σ (some v, σ1)) (k : V Γ M σ0 r σ1 (pc + 3) L (v :: rest)) : V Γ M σ0 r σ pc L st := r_callV (r1 := (some v, σ1)) hx hd hs hin hse hci ha hf hn hstk hR hC k
theorem r_callVv {Γ : W0} {M Mc : MD} {y : MethodName} {σ0 σ : Mem} {r : RT} {σ1 : Mem} {pc index n a ci : Nat} {x : Option Nat} {L : List (Nat × Value)} {st rest as : List Value} (hx : x = some a) (hd : decode M.2.1 pc = .ok (.invokevirtual index, 3)) (hs : CS M.1 index Mc y n) (hin : Cond.instanceMethod y ∈ GW) (hse : Cond.selects (cnN ci) y y ∈ GW) (hci : ci < 13) (ha : (gT σ a).1 = ci) (hf : Mc.2.2.2.2.2.1 + 1 ≤ M.2.2.2.2.2.1 ∧ 8 + (Mc.2.2.1 + 11) + Mc.2.2.2.2.2.2 ≤ M.2.2.2.2.2.2)
    (hn : as.length = n) (hstk : st = as.reverse ++ va_rf x :: rest) (hR : rest.length ≤ 4 ∨ (rest.map fun v => v.category).sum ≤ 8) (hC : CT Γ Mc y (.ref a :: as) σ (none, σ1)) (k : V Γ M σ0 r σ1 (pc + 3) L (rest)) : V Γ M σ0 r σ pc L st := r_callV (r1 := (none, σ1)) hx hd hs hin hse hci ha hf hn hstk hR hC k
theorem r_callNr {Γ : W0} {M Mc : MD} {y : MethodName} {σ0 σ : Mem} {r : RT} {σ1 : Mem} {v : Value} {pc index n : Nat} {L : List (Nat × Value)} {st rest as : List Value} (hd : decode M.2.1 pc = .ok (.invokestatic index, 3)) (hq : (M.1, index, y) ∈ nwM) (hs : Cond.code y Mc.2.1 Mc.2.2.1 Mc.2.2.2.1 ∈ GW ∧ Cond.initialized y.cls ∈ GW ∧ (y.cls ≠ "java/lang/invoke/MethodHandle" ∧ y.cls ≠ "java/lang/invoke/VarHandle" ∧ (parseMethodDescriptor y.desc).map (fun d => d.parameters.length) = some n)) (hst : Cond.static y ∈ GW) (hf : Mc.2.2.2.2.2.1 + 1 ≤ M.2.2.2.2.2.1 ∧ 8 + (Mc.2.2.1 + 11) + Mc.2.2.2.2.2.2 ≤ M.2.2.2.2.2.2)
    (hn : as.length = n) (hstk : st = as.reverse ++ rest) (hR : rest.length ≤ 4 ∨ (rest.map fun v => v.category).sum ≤ 8) (hC : CT Γ Mc y as σ (some v, σ1)) (k : V Γ M σ0 r σ1 (pc + 3) L (v :: rest)) : V Γ M σ0 r σ pc L st := r_callN (r1 := (some v, σ1)) hd hq hs hst hf hn hstk hR hC k
theorem r_callNv {Γ : W0} {M Mc : MD} {y : MethodName} {σ0 σ : Mem} {r : RT} {σ1 : Mem} {pc index n : Nat} {L : List (Nat × Value)} {st rest as : List Value} (hd : decode M.2.1 pc = .ok (.invokestatic index, 3)) (hq : (M.1, index, y) ∈ nwM) (hs : Cond.code y Mc.2.1 Mc.2.2.1 Mc.2.2.2.1 ∈ GW ∧ Cond.initialized y.cls ∈ GW ∧ (y.cls ≠ "java/lang/invoke/MethodHandle" ∧ y.cls ≠ "java/lang/invoke/VarHandle" ∧ (parseMethodDescriptor y.desc).map (fun d => d.parameters.length) = some n)) (hst : Cond.static y ∈ GW) (hf : Mc.2.2.2.2.2.1 + 1 ≤ M.2.2.2.2.2.1 ∧ 8 + (Mc.2.2.1 + 11) + Mc.2.2.2.2.2.2 ≤ M.2.2.2.2.2.2)
    (hn : as.length = n) (hstk : st = as.reverse ++ rest) (hR : rest.length ≤ 4 ∨ (rest.map fun v => v.category).sum ≤ 8) (hC : CT Γ Mc y as σ (none, σ1)) (k : V Γ M σ0 r σ1 (pc + 3) L (rest)) : V Γ M σ0 r σ pc L st := r_callN (r1 := (none, σ1)) hd hq hs hst hf hn hstk hR hC k
theorem r_callIv {Γ : W0} {M Mc : MD} {y : MethodName} {σ0 σ : Mem} {r : RT} {σ1 : Mem} {pc index n a : Nat} {L : List (Nat × Value)} {st rest as : List Value} (hd : decode M.2.1 pc = .ok (.invokespecial index, 3)) (hs : CS M.1 index Mc y n) (hvo : Mc.2.2.2.1 = none) (hnm : y.name = "<init>") (hin : Cond.instanceMethod y ∈ GW) (hf : Mc.2.2.2.2.2.1 + 1 ≤ M.2.2.2.2.2.1 ∧ 8 + (Mc.2.2.1 + 11) + Mc.2.2.2.2.2.2 ≤ M.2.2.2.2.2.2)
    (hn : as.length = n) (hstk : st = as.reverse ++ va_rf (some a) :: rest) (hR : rest.length ≤ 4 ∨ (rest.map fun v => v.category).sum ≤ 8) (hC : CT Γ Mc y (.ref a :: as) σ (none, σ1)) (k : V Γ M σ0 r σ1 (pc + 3) L rest) : V Γ M σ0 r σ pc L st := r_callI (r1 := (none, σ1)) hd hs hvo hnm hin hf hn hstk hR hC k
