/-! instructions that touch no cell, over V -/
def remI (x y : Int32) : Int32 := x - x / y * y
def remL (x y : Int64) : Int64 := x - x / y * y
def shrI (x y : Int32) : Int32 := x >>> (y &&& 31)
def ushrI (x y : Int32) : Int32 := (x.toUInt32 >>> (y.toUInt32 &&& Int32.toUInt32 31)).toInt32
def shlL (x : Int64) (y : Int32) : Int64 := x <<< (y.toInt64 &&& 63)
def shrL (x : Int64) (y : Int32) : Int64 := x >>> (y.toInt64 &&& 63)
def ushrL (x : Int64) (y : Int32) : Int64 := (x.toUInt64 >>> (y.toInt64.toUInt64 &&& Int64.toUInt64 63)).toInt64
def minI (x y : Int32) : Int32 := if y < x then y else x
def maxI (x y : Int32) : Int32 := if x < y then y else x
def absI (x : Int32) : Int32 := if 0 ≤ x then x else 0 - x
def minL (x y : Int64) : Int64 := if y < x then y else x
def maxL (x y : Int64) : Int64 := if y < x then x else y
def divI (x y : Int32) : Option Int32 := if y = 0 then none else some (x / y)
def divL (x y : Int64) : Option Int64 := if y = 0 then none else some (x / y)
theorem bnd {α β : Type} {m : Option α} {F : α → Option β} {z : β} {P : Prop} (hf : m.bind F = some z) (k : ∀ v, m = some v → F v = some z → P) : P := by
  cases m with
  | none => cases hf
  | some v => exact k v rfl hf
section RW
variable {Γ : W0} {M : MD} {σ0 σ : Mem} {r : RT} {pc : Nat} {L : List (Nat × Value)} {st : List Value}
theorem r_iconst {n : Int} (v : Int32) (hd : decode M.2.1 pc = .ok (.iconst n, 1)) (hv : Int32.ofInt n = v) (k : V Γ M σ0 r σ (pc + 1) L (.int v :: st)) : V Γ M σ0 r σ pc L (st) :=
  ⟨k.1, k.2.1, fun p l e s m args below meth c H locs ls hT hl => lv_iconst hT.1.1 hT.1.2.1 hd hv (k.2.2 p l e s m args below meth c H locs ls hT hl)⟩
theorem r_bipush {n : Int} (v : Int32) (hd : decode M.2.1 pc = .ok (.bipush n, 2)) (hv : (Int8.ofInt n).toInt32 = v) (k : V Γ M σ0 r σ (pc + 2) L (.int v :: st)) : V Γ M σ0 r σ pc L (st) :=
  ⟨k.1, k.2.1, fun p l e s m args below meth c H locs ls hT hl => lv_bipush hT.1.1 hT.1.2.1 hd hv (k.2.2 p l e s m args below meth c H locs ls hT hl)⟩
theorem r_sipush {n : Int} (v : Int32) (hd : decode M.2.1 pc = .ok (.sipush n, 3)) (hv : (Int16.ofInt n).toInt32 = v) (k : V Γ M σ0 r σ (pc + 3) L (.int v :: st)) : V Γ M σ0 r σ pc L (st) :=
  ⟨k.1, k.2.1, fun p l e s m args below meth c H locs ls hT hl => lv_sipush hT.1.1 hT.1.2.1 hd hv (k.2.2 p l e s m args below meth c H locs ls hT hl)⟩
theorem r_lconst {n : Fin 2} (v : Int64) (hd : decode M.2.1 pc = .ok (.lconst n, 1)) (hv : Int64.ofNat n.val = v) (k : V Γ M σ0 r σ (pc + 1) L (.long v :: st)) : V Γ M σ0 r σ pc L (st) :=
  ⟨k.1, k.2.1, fun p l e s m args below meth c H locs ls hT hl => lv_lconst hT.1.1 hT.1.2.1 hd hv (k.2.2 p l e s m args below meth c H locs ls hT hl)⟩
theorem r_iload_n {n : Fin 4} {i : Nat} {x : Int32} (j : Nat) (hd : decode M.2.1 pc = .ok (.iload_n n, 1)) (hi : (n : Nat) = i) (hj : L[j]? = some (i, .int x)) (k : V Γ M σ0 r σ (pc + 1) L (.int x :: st)) : V Γ M σ0 r σ pc L st :=
  ⟨k.1, k.2.1, fun p l e s m args below meth c H locs ls hT hl => lv_iload_n hT.1.1 hT.1.2.1 hd hi (lv_at hl j hj) (k.2.2 p l e s m args below meth c H locs ls hT hl)⟩
theorem r_iload {i : Nat} {x : Int32} (j : Nat) (hd : decode M.2.1 pc = .ok (.iload i, 2)) (hj : L[j]? = some (i, .int x)) (k : V Γ M σ0 r σ (pc + 2) L (.int x :: st)) : V Γ M σ0 r σ pc L st :=
  ⟨k.1, k.2.1, fun p l e s m args below meth c H locs ls hT hl => lv_iload hT.1.1 hT.1.2.1 hd (lv_at hl j hj) (k.2.2 p l e s m args below meth c H locs ls hT hl)⟩
theorem r_lload_n {n : Fin 4} {i : Nat} {x : Int64} (j : Nat) (hd : decode M.2.1 pc = .ok (.lload_n n, 1)) (hi : (n : Nat) = i) (hj : L[j]? = some (i, .long x)) (k : V Γ M σ0 r σ (pc + 1) L (.long x :: st)) : V Γ M σ0 r σ pc L st :=
  ⟨k.1, k.2.1, fun p l e s m args below meth c H locs ls hT hl => lv_lload_n hT.1.1 hT.1.2.1 hd hi (lv_at hl j hj) (k.2.2 p l e s m args below meth c H locs ls hT hl)⟩
theorem r_lload {i : Nat} {x : Int64} (j : Nat) (hd : decode M.2.1 pc = .ok (.lload i, 2)) (hj : L[j]? = some (i, .long x)) (k : V Γ M σ0 r σ (pc + 2) L (.long x :: st)) : V Γ M σ0 r σ pc L st :=
  ⟨k.1, k.2.1, fun p l e s m args below meth c H locs ls hT hl => lv_lload hT.1.1 hT.1.2.1 hd (lv_at hl j hj) (k.2.2 p l e s m args below meth c H locs ls hT hl)⟩
theorem r_aload_n {n : Fin 4} {i : Nat} {x : Option Nat} (j : Nat) (hd : decode M.2.1 pc = .ok (.aload_n n, 1)) (hi : (n : Nat) = i) (hj : L[j]? = some (i, va_rf x)) (k : V Γ M σ0 r σ (pc + 1) L (va_rf x :: st)) : V Γ M σ0 r σ pc L st := by
  refine ⟨k.1, k.2.1, fun p l e s m args below meth c H locs ls hT hl => ?_⟩
  have k := k.2.2 p l e s m args below meth c H locs ls hT hl
  cases x with
  | none => exact lv_aload_nN hT.1.1 hT.1.2.1 hd hi (lv_at hl j hj) k
  | some x => exact lv_aload_n hT.1.1 hT.1.2.1 hd hi (lv_at hl j hj) k
theorem r_aload {i : Nat} {x : Option Nat} (j : Nat) (hd : decode M.2.1 pc = .ok (.aload i, 2)) (hj : L[j]? = some (i, va_rf x)) (k : V Γ M σ0 r σ (pc + 2) L (va_rf x :: st)) : V Γ M σ0 r σ pc L st := by
  refine ⟨k.1, k.2.1, fun p l e s m args below meth c H locs ls hT hl => ?_⟩
  have k := k.2.2 p l e s m args below meth c H locs ls hT hl
  cases x with
  | none => exact lv_aloadN hT.1.1 hT.1.2.1 hd (lv_at hl j hj) k
  | some x => exact lv_aload hT.1.1 hT.1.2.1 hd (lv_at hl j hj) k
theorem r_istore_n {n : Fin 4} {i : Nat} {x : Int32} {L' : List (Nat × Value)} (hd : decode M.2.1 pc = .ok (.istore_n n, 1)) (hi : (n : Nat) = i) (hn : i < M.2.2.1) (hL : (i, Value.int x) :: L.filter (fun q => !(q.1 == i) && !(q.1 + 1 == i && q.2.category == 2)) = L') (k : V Γ M σ0 r σ (pc + 1) L' st) : V Γ M σ0 r σ pc L (.int x :: st) :=
  ⟨k.1, k.2.1, fun p l e s m args below meth c H locs ls hT hl => lv_istore_n hT.1.1 hT.1.2.1 hd hi hl hn hL (fun ls' hl' => k.2.2 p l e s m args below meth c H locs ls' hT hl')⟩
theorem r_istore {i : Nat} {x : Int32} {L' : List (Nat × Value)} (hd : decode M.2.1 pc = .ok (.istore i, 2)) (hn : i < M.2.2.1) (hL : (i, Value.int x) :: L.filter (fun q => !(q.1 == i) && !(q.1 + 1 == i && q.2.category == 2)) = L') (k : V Γ M σ0 r σ (pc + 2) L' st) : V Γ M σ0 r σ pc L (.int x :: st) :=
  ⟨k.1, k.2.1, fun p l e s m args below meth c H locs ls hT hl => lv_istore hT.1.1 hT.1.2.1 hd hl hn hL (fun ls' hl' => k.2.2 p l e s m args below meth c H locs ls' hT hl')⟩
theorem r_lstore_n {n : Fin 4} {i : Nat} {x : Int64} {L' : List (Nat × Value)} (hd : decode M.2.1 pc = .ok (.lstore_n n, 1)) (hi : (n : Nat) = i) (hn : i + 1 < M.2.2.1) (hL : (i, Value.long x) :: L.filter (fun q => !(q.1 == i) && (!(q.1 == i + 1) && !(q.1 + 1 == i && q.2.category == 2))) = L') (k : V Γ M σ0 r σ (pc + 1) L' st) : V Γ M σ0 r σ pc L (.long x :: st) :=
  ⟨k.1, k.2.1, fun p l e s m args below meth c H locs ls hT hl => lv_lstore_n hT.1.1 hT.1.2.1 hd hi hl hn hL (fun ls' hl' => k.2.2 p l e s m args below meth c H locs ls' hT hl')⟩
theorem r_lstore {i : Nat} {x : Int64} {L' : List (Nat × Value)} (hd : decode M.2.1 pc = .ok (.lstore i, 2)) (hn : i + 1 < M.2.2.1) (hL : (i, Value.long x) :: L.filter (fun q => !(q.1 == i) && (!(q.1 == i + 1) && !(q.1 + 1 == i && q.2.category == 2))) = L') (k : V Γ M σ0 r σ (pc + 2) L' st) : V Γ M σ0 r σ pc L (.long x :: st) :=
  ⟨k.1, k.2.1, fun p l e s m args below meth c H locs ls hT hl => lv_lstore hT.1.1 hT.1.2.1 hd hl hn hL (fun ls' hl' => k.2.2 p l e s m args below meth c H locs ls' hT hl')⟩
theorem r_astore_n {n : Fin 4} {i : Nat} {x : Option Nat} {L' : List (Nat × Value)} (hd : decode M.2.1 pc = .ok (.astore_n n, 1)) (hi : (n : Nat) = i) (hn : i < M.2.2.1) (hL : (i, va_rf x) :: L.filter (fun q => !(q.1 == i) && !(q.1 + 1 == i && q.2.category == 2)) = L') (k : V Γ M σ0 r σ (pc + 1) L' st) : V Γ M σ0 r σ pc L (va_rf x :: st) := by
  refine ⟨k.1, k.2.1, fun p l e s m args below meth c H locs ls hT hl => ?_⟩
  cases x with
  | none => exact lv_astore_nN hT.1.1 hT.1.2.1 hd hi hl hn hL (fun ls' hl' => k.2.2 p l e s m args below meth c H locs ls' hT hl')
  | some x => exact lv_astore_n hT.1.1 hT.1.2.1 hd hi hl hn hL (fun ls' hl' => k.2.2 p l e s m args below meth c H locs ls' hT hl')
theorem r_astore {i : Nat} {x : Option Nat} {L' : List (Nat × Value)} (hd : decode M.2.1 pc = .ok (.astore i, 2)) (hn : i < M.2.2.1) (hL : (i, va_rf x) :: L.filter (fun q => !(q.1 == i) && !(q.1 + 1 == i && q.2.category == 2)) = L') (k : V Γ M σ0 r σ (pc + 2) L' st) : V Γ M σ0 r σ pc L (va_rf x :: st) := by
  refine ⟨k.1, k.2.1, fun p l e s m args below meth c H locs ls hT hl => ?_⟩
  cases x with
  | none => exact lv_astoreN hT.1.1 hT.1.2.1 hd hl hn hL (fun ls' hl' => k.2.2 p l e s m args below meth c H locs ls' hT hl')
  | some x => exact lv_astore hT.1.1 hT.1.2.1 hd hl hn hL (fun ls' hl' => k.2.2 p l e s m args below meth c H locs ls' hT hl')
theorem r_iinc {i : Nat} {n : Int} {x : Int32} (v : Int32) {L' : List (Nat × Value)} (j : Nat) (hd : decode M.2.1 pc = .ok (.iinc i n, 3)) (hj : L[j]? = some (i, .int x)) (hv : Int32.ofInt n = v) (hn : i < M.2.2.1) (hL : (i, Value.int (x + v)) :: L.filter (fun q => !(q.1 == i) && !(q.1 + 1 == i && q.2.category == 2)) = L') (k : V Γ M σ0 r σ (pc + 3) L' st) : V Γ M σ0 r σ pc L st :=
  ⟨k.1, k.2.1, fun p l e s m args below meth c H locs ls hT hl => lv_iinc (v := x + v) hT.1.1 hT.1.2.1 hd hl hj (by rw [hv]) hn hL (fun ls' hl' => k.2.2 p l e s m args below meth c H locs ls' hT hl')⟩
theorem r_iadd {x y : Int32} (hd : decode M.2.1 pc = .ok (.iadd, 1))  (k : V Γ M σ0 r σ (pc + 1) L (.int (x + y) :: st)) : V Γ M σ0 r σ pc L (.int y :: .int x :: st) :=
  ⟨k.1, k.2.1, fun p l e s m args below meth c H locs ls hT hl => lv_iadd hT.1.1 hT.1.2.1 hd (k.2.2 p l e s m args below meth c H locs ls hT hl)⟩
theorem r_isub {x y : Int32} (hd : decode M.2.1 pc = .ok (.isub, 1))  (k : V Γ M σ0 r σ (pc + 1) L (.int (x - y) :: st)) : V Γ M σ0 r σ pc L (.int y :: .int x :: st) :=
  ⟨k.1, k.2.1, fun p l e s m args below meth c H locs ls hT hl => lv_isub hT.1.1 hT.1.2.1 hd (k.2.2 p l e s m args below meth c H locs ls hT hl)⟩
theorem r_imul {x y : Int32} (hd : decode M.2.1 pc = .ok (.imul, 1))  (k : V Γ M σ0 r σ (pc + 1) L (.int (x * y) :: st)) : V Γ M σ0 r σ pc L (.int y :: .int x :: st) :=
  ⟨k.1, k.2.1, fun p l e s m args below meth c H locs ls hT hl => lv_imul hT.1.1 hT.1.2.1 hd (k.2.2 p l e s m args below meth c H locs ls hT hl)⟩
theorem r_iand {x y : Int32} (hd : decode M.2.1 pc = .ok (.iand, 1))  (k : V Γ M σ0 r σ (pc + 1) L (.int (x &&& y) :: st)) : V Γ M σ0 r σ pc L (.int y :: .int x :: st) :=
  ⟨k.1, k.2.1, fun p l e s m args below meth c H locs ls hT hl => lv_iand hT.1.1 hT.1.2.1 hd (k.2.2 p l e s m args below meth c H locs ls hT hl)⟩
theorem r_ladd {x y : Int64} (hd : decode M.2.1 pc = .ok (.ladd, 1))  (k : V Γ M σ0 r σ (pc + 1) L (.long (x + y) :: st)) : V Γ M σ0 r σ pc L (.long y :: .long x :: st) :=
  ⟨k.1, k.2.1, fun p l e s m args below meth c H locs ls hT hl => lv_ladd hT.1.1 hT.1.2.1 hd (k.2.2 p l e s m args below meth c H locs ls hT hl)⟩
theorem r_lsub {x y : Int64} (hd : decode M.2.1 pc = .ok (.lsub, 1))  (k : V Γ M σ0 r σ (pc + 1) L (.long (x - y) :: st)) : V Γ M σ0 r σ pc L (.long y :: .long x :: st) :=
  ⟨k.1, k.2.1, fun p l e s m args below meth c H locs ls hT hl => lv_lsub hT.1.1 hT.1.2.1 hd (k.2.2 p l e s m args below meth c H locs ls hT hl)⟩
theorem r_lmul {x y : Int64} (hd : decode M.2.1 pc = .ok (.lmul, 1))  (k : V Γ M σ0 r σ (pc + 1) L (.long (x * y) :: st)) : V Γ M σ0 r σ pc L (.long y :: .long x :: st) :=
  ⟨k.1, k.2.1, fun p l e s m args below meth c H locs ls hT hl => lv_lmul hT.1.1 hT.1.2.1 hd (k.2.2 p l e s m args below meth c H locs ls hT hl)⟩
theorem r_land {x y : Int64} (hd : decode M.2.1 pc = .ok (.land, 1))  (k : V Γ M σ0 r σ (pc + 1) L (.long (x &&& y) :: st)) : V Γ M σ0 r σ pc L (.long y :: .long x :: st) :=
  ⟨k.1, k.2.1, fun p l e s m args below meth c H locs ls hT hl => lv_land hT.1.1 hT.1.2.1 hd (k.2.2 p l e s m args below meth c H locs ls hT hl)⟩
theorem r_lor {x y : Int64} (hd : decode M.2.1 pc = .ok (.lor, 1))  (k : V Γ M σ0 r σ (pc + 1) L (.long (x ||| y) :: st)) : V Γ M σ0 r σ pc L (.long y :: .long x :: st) :=
  ⟨k.1, k.2.1, fun p l e s m args below meth c H locs ls hT hl => lv_lor hT.1.1 hT.1.2.1 hd (k.2.2 p l e s m args below meth c H locs ls hT hl)⟩
theorem r_ineg {x : Int32} (hd : decode M.2.1 pc = .ok (.ineg, 1))  (k : V Γ M σ0 r σ (pc + 1) L (.int (0 - x) :: st)) : V Γ M σ0 r σ pc L (.int x :: st) :=
  ⟨k.1, k.2.1, fun p l e s m args below meth c H locs ls hT hl => lv_ineg hT.1.1 hT.1.2.1 hd (k.2.2 p l e s m args below meth c H locs ls hT hl)⟩
theorem r_ishr {x y : Int32} (hd : decode M.2.1 pc = .ok (.ishr, 1))  (k : V Γ M σ0 r σ (pc + 1) L (.int (shrI x y) :: st)) : V Γ M σ0 r σ pc L (.int y :: .int x :: st) :=
  ⟨k.1, k.2.1, fun p l e s m args below meth c H locs ls hT hl => lv_ishr hT.1.1 hT.1.2.1 hd (k.2.2 p l e s m args below meth c H locs ls hT hl)⟩
theorem r_iushr {x y : Int32} (hd : decode M.2.1 pc = .ok (.iushr, 1))  (k : V Γ M σ0 r σ (pc + 1) L (.int (ushrI x y) :: st)) : V Γ M σ0 r σ pc L (.int y :: .int x :: st) :=
  ⟨k.1, k.2.1, fun p l e s m args below meth c H locs ls hT hl => lv_iushr hT.1.1 hT.1.2.1 hd rfl (k.2.2 p l e s m args below meth c H locs ls hT hl)⟩
theorem r_lshl {x : Int64} {y : Int32} (hd : decode M.2.1 pc = .ok (.lshl, 1))  (k : V Γ M σ0 r σ (pc + 1) L (.long (shlL x y) :: st)) : V Γ M σ0 r σ pc L (.int y :: .long x :: st) :=
  ⟨k.1, k.2.1, fun p l e s m args below meth c H locs ls hT hl => lv_lshl hT.1.1 hT.1.2.1 hd rfl (k.2.2 p l e s m args below meth c H locs ls hT hl)⟩
theorem r_lshr {x : Int64} {y : Int32} (hd : decode M.2.1 pc = .ok (.lshr, 1))  (k : V Γ M σ0 r σ (pc + 1) L (.long (shrL x y) :: st)) : V Γ M σ0 r σ pc L (.int y :: .long x :: st) :=
  ⟨k.1, k.2.1, fun p l e s m args below meth c H locs ls hT hl => lv_lshr hT.1.1 hT.1.2.1 hd rfl (k.2.2 p l e s m args below meth c H locs ls hT hl)⟩
theorem r_lushr {x : Int64} {y : Int32} (hd : decode M.2.1 pc = .ok (.lushr, 1))  (k : V Γ M σ0 r σ (pc + 1) L (.long (ushrL x y) :: st)) : V Γ M σ0 r σ pc L (.int y :: .long x :: st) :=
  ⟨k.1, k.2.1, fun p l e s m args below meth c H locs ls hT hl => lv_lushr hT.1.1 hT.1.2.1 hd rfl (k.2.2 p l e s m args below meth c H locs ls hT hl)⟩
theorem r_i2l {x : Int32} (hd : decode M.2.1 pc = .ok (.i2l, 1))  (k : V Γ M σ0 r σ (pc + 1) L (.long x.toInt64 :: st)) : V Γ M σ0 r σ pc L (.int x :: st) :=
  ⟨k.1, k.2.1, fun p l e s m args below meth c H locs ls hT hl => lv_i2l hT.1.1 hT.1.2.1 hd rfl (k.2.2 p l e s m args below meth c H locs ls hT hl)⟩
theorem r_l2i {x : Int64} (hd : decode M.2.1 pc = .ok (.l2i, 1))  (k : V Γ M σ0 r σ (pc + 1) L (.int x.toInt32 :: st)) : V Γ M σ0 r σ pc L (.long x :: st) :=
  ⟨k.1, k.2.1, fun p l e s m args below meth c H locs ls hT hl => lv_l2i hT.1.1 hT.1.2.1 hd rfl (k.2.2 p l e s m args below meth c H locs ls hT hl)⟩
theorem r_i2b {x : Int32} (hd : decode M.2.1 pc = .ok (.i2b, 1))  (k : V Γ M σ0 r σ (pc + 1) L (.int x.toInt8.toInt32 :: st)) : V Γ M σ0 r σ pc L (.int x :: st) :=
  ⟨k.1, k.2.1, fun p l e s m args below meth c H locs ls hT hl => lv_i2b hT.1.1 hT.1.2.1 hd rfl (k.2.2 p l e s m args below meth c H locs ls hT hl)⟩
theorem r_irem {x y : Int32} (hd : decode M.2.1 pc = .ok (.irem, 1)) (hy : ¬ y = 0) (k : V Γ M σ0 r σ (pc + 1) L (.int (remI x y) :: st)) : V Γ M σ0 r σ pc L (.int y :: .int x :: st) :=
  ⟨k.1, k.2.1, fun p l e s m args below meth c H locs ls hT hl => lv_irem hT.1.1 hT.1.2.1 hd hy (k.2.2 p l e s m args below meth c H locs ls hT hl)⟩
theorem r_lrem {x y : Int64} (hd : decode M.2.1 pc = .ok (.lrem, 1)) (hy : ¬ y = 0) (k : V Γ M σ0 r σ (pc + 1) L (.long (remL x y) :: st)) : V Γ M σ0 r σ pc L (.long y :: .long x :: st) :=
  ⟨k.1, k.2.1, fun p l e s m args below meth c H locs ls hT hl => lv_lrem hT.1.1 hT.1.2.1 hd hy (k.2.2 p l e s m args below meth c H locs ls hT hl)⟩
theorem r_idiv {x y : Int32} (hd : decode M.2.1 pc = .ok (.idiv, 1)) (hy : ¬ y = 0) (k : V Γ M σ0 r σ (pc + 1) L (.int (x / y) :: st)) : V Γ M σ0 r σ pc L (.int y :: .int x :: st) :=
  ⟨k.1, k.2.1, fun p l e s m args below meth c H locs ls hT hl => lv_idiv hT.1.1 hT.1.2.1 hd hy (k.2.2 p l e s m args below meth c H locs ls hT hl)⟩
theorem r_ldiv {x y : Int64} (hd : decode M.2.1 pc = .ok (.ldiv, 1)) (hy : ¬ y = 0) (k : V Γ M σ0 r σ (pc + 1) L (.long (x / y) :: st)) : V Γ M σ0 r σ pc L (.long y :: .long x :: st) :=
  ⟨k.1, k.2.1, fun p l e s m args below meth c H locs ls hT hl => lv_ldiv hT.1.1 hT.1.2.1 hd hy (k.2.2 p l e s m args below meth c H locs ls hT hl)⟩
theorem r_dup {v : Value} (hd : decode M.2.1 pc = .ok (.dup, 1)) (hv : v.category = 1) (k : V Γ M σ0 r σ (pc + 1) L (v :: v :: st)) : V Γ M σ0 r σ pc L (v :: st) :=
  ⟨k.1, k.2.1, fun p l e s m args below meth c H locs ls hT hl => lv_dup hT.1.1 hT.1.2.1 hd hv (k.2.2 p l e s m args below meth c H locs ls hT hl)⟩
theorem r_pop {v : Value} (hd : decode M.2.1 pc = .ok (.pop, 1)) (hv : v.category = 1) (k : V Γ M σ0 r σ (pc + 1) L (st)) : V Γ M σ0 r σ pc L (v :: st) :=
  ⟨k.1, k.2.1, fun p l e s m args below meth c H locs ls hT hl => lv_pop hT.1.1 hT.1.2.1 hd hv (k.2.2 p l e s m args below meth c H locs ls hT hl)⟩
theorem r_dup2 {v w : Value} (hd : decode M.2.1 pc = .ok (.dup2, 1)) (hv : v.category = 1) (hw : w.category = 1) (k : V Γ M σ0 r σ (pc + 1) L (v :: w :: v :: w :: st)) : V Γ M σ0 r σ pc L (v :: w :: st) :=
  ⟨k.1, k.2.1, fun p l e s m args below meth c H locs ls hT hl => lv_dup2_11 hT.1.1 hT.1.2.1 hd hv hw (k.2.2 p l e s m args below meth c H locs ls hT hl)⟩
theorem r_null  (hd : decode M.2.1 pc = .ok (.aconst_null, 1))  (k : V Γ M σ0 r σ (pc + 1) L (va_rf none :: st)) : V Γ M σ0 r σ pc L (st) :=
  ⟨k.1, k.2.1, fun p l e s m args below meth c H locs ls hT hl => lv_null hT.1.1 hT.1.2.1 hd (k.2.2 p l e s m args below meth c H locs ls hT hl)⟩
theorem r_divI {x y : Int32} {ρ : Type} {F : Int32 → Option ρ} {z : ρ} (hf : (divI x y).bind F = some z) (hd : decode M.2.1 pc = .ok (.idiv, 1)) (k : ∀ v, divI x y = some v → F v = some z → V Γ M σ0 r σ (pc + 1) L (.int v :: st)) : V Γ M σ0 r σ pc L (.int y :: .int x :: st) := by
  unfold divI at hf
  by_cases hy : y = 0
  · rw [if_pos hy] at hf
    cases hf
  · rw [if_neg hy] at hf
    exact r_idiv hd hy (k _ (by unfold divI; rw [if_neg hy]) hf)
theorem r_divL {x y : Int64} {ρ : Type} {F : Int64 → Option ρ} {z : ρ} (hf : (divL x y).bind F = some z) (hd : decode M.2.1 pc = .ok (.ldiv, 1)) (k : ∀ v, divL x y = some v → F v = some z → V Γ M σ0 r σ (pc + 1) L (.long v :: st)) : V Γ M σ0 r σ pc L (.long y :: .long x :: st) := by
  unfold divL at hf
  by_cases hy : y = 0
  · rw [if_pos hy] at hf
    cases hf
  · rw [if_neg hy] at hf
    exact r_ldiv hd hy (k _ (by unfold divL; rw [if_neg hy]) hf)
theorem r_goto {off : Int} (tgt : Nat) (hd : decode M.2.1 pc = .ok (.goto off, 3)) (ht : (pc : Int) + off = (tgt : Int)) (k : V Γ M σ0 r σ tgt L st) : V Γ M σ0 r σ pc L st :=
  ⟨k.1, k.2.1, fun p l e s m args below meth c H locs ls hT hl => lv_goto hT.1.1 hT.1.2.1 hd ht (k.2.2 p l e s m args below meth c H locs ls hT hl)⟩
theorem r_sub {L' : List (Nat × Value)} (ks : List Nat) (hL : lv_pick L ks = L') (k : V Γ M σ0 r σ pc L' st) : V Γ M σ0 r σ pc L st :=
  ⟨k.1, k.2.1, fun p l e s m args below meth c H locs ls hT hl => k.2.2 p l e s m args below meth c H locs ls hT (lv_sub hl ks hL)⟩
theorem r_ldc {index : Nat} (v : Int32) (hd : decode M.2.1 pc = .ok (.ldc index, 2)) (hc : Cond.constant M.1 index v ∈ GW) (k : V Γ M σ0 r σ (pc + 2) L (.int v :: st)) : V Γ M σ0 r σ pc L st :=
  ⟨k.1, k.2.1, fun p l e s m args below meth c H locs ls hT hl => lv_ldc hT.1.1 hT.1.2.1 hT.1.2.2.2.1 (hT.1.2.2.2.2.1 _ hc) hd (k.2.2 p l e s m args below meth c H locs ls hT hl)⟩
theorem r_ldcw {index : Nat} (v : Int32) (hd : decode M.2.1 pc = .ok (.ldc_w index, 3)) (hc : Cond.constant M.1 index v ∈ GW) (k : V Γ M σ0 r σ (pc + 3) L (.int v :: st)) : V Γ M σ0 r σ pc L st :=
  ⟨k.1, k.2.1, fun p l e s m args below meth c H locs ls hT hl => lv_ldcw hT.1.1 hT.1.2.1 hT.1.2.2.2.1 (hT.1.2.2.2.2.1 _ hc) hd (k.2.2 p l e s m args below meth c H locs ls hT hl)⟩
theorem r_ldc2 {index : Nat} (v : Int64) (hd : decode M.2.1 pc = .ok (.ldc2_w index, 3)) (hc : Cond.constantLong M.1 index v ∈ GW) (k : V Γ M σ0 r σ (pc + 3) L (.long v :: st)) : V Γ M σ0 r σ pc L st :=
  ⟨k.1, k.2.1, fun p l e s m args below meth c H locs ls hT hl => lv_ldc2 hT.1.1 hT.1.2.1 hT.1.2.2.2.1 (hT.1.2.2.2.2.1 _ hc) hd (k.2.2 p l e s m args below meth c H locs ls hT hl)⟩
theorem r_ldcS {index i : Nat} (tx : String) (hd : decode M.2.1 pc = .ok (.ldc index, 2)) (hc : (M.1, index, tx, i) ∈ jsRef) (k : V Γ M σ0 r σ (pc + 2) L (.ref (wK Γ i) :: st)) : V Γ M σ0 r σ pc L st :=
  ⟨k.1, k.2.1, fun p l e s m args below meth c H locs ls hT hl => va_ldcS hT.1.1 hT.1.2.1 hT.1.2.2.2.1 (hT.2.2.1.2.1 _ hc) hd (k.2.2 p l e s m args below meth c H locs ls hT hl)⟩
theorem r_icmp_eq {x y : Int32} {off : Int} (tgt : Nat) {ρ : Type} {A B z : ρ} (hf : (if x = y then A else B) = z) (hd : decode M.2.1 pc = .ok (.if_icmp .eq off, 3)) (ht : (pc : Int) + off = (tgt : Int)) (kt : x = y → A = z → V Γ M σ0 r σ tgt L st) (kf : ¬ (x = y) → B = z → V Γ M σ0 r σ (pc + 3) L st) : V Γ M σ0 r σ pc L (.int y :: .int x :: st) := by
  by_cases h : x = y
  · have k := kt h (by rw [if_pos h] at hf; exact hf)
    exact ⟨k.1, k.2.1, fun p l e s m args below meth c H locs ls hT hl => lv_icmp_eq hT.1.1 hT.1.2.1 hd ht (fun _ => k.2.2 p l e s m args below meth c H locs ls hT hl) (fun h' => absurd h h')⟩
  · have k := kf h (by rw [if_neg h] at hf; exact hf)
    exact ⟨k.1, k.2.1, fun p l e s m args below meth c H locs ls hT hl => lv_icmp_eq hT.1.1 hT.1.2.1 hd ht (fun h' => absurd h' h) (fun _ => k.2.2 p l e s m args below meth c H locs ls hT hl)⟩
theorem r_icmp_ne {x y : Int32} {off : Int} (tgt : Nat) {ρ : Type} {A B z : ρ} (hf : (if ¬ x = y then A else B) = z) (hd : decode M.2.1 pc = .ok (.if_icmp .ne off, 3)) (ht : (pc : Int) + off = (tgt : Int)) (kt : ¬ x = y → A = z → V Γ M σ0 r σ tgt L st) (kf : ¬ (¬ x = y) → B = z → V Γ M σ0 r σ (pc + 3) L st) : V Γ M σ0 r σ pc L (.int y :: .int x :: st) := by
  by_cases h : ¬ x = y
  · have k := kt h (by rw [if_pos h] at hf; exact hf)
    exact ⟨k.1, k.2.1, fun p l e s m args below meth c H locs ls hT hl => lv_icmp_ne hT.1.1 hT.1.2.1 hd ht (fun _ => k.2.2 p l e s m args below meth c H locs ls hT hl) (fun h' => absurd h' h)⟩
  · have k := kf h (by rw [if_neg h] at hf; exact hf)
    exact ⟨k.1, k.2.1, fun p l e s m args below meth c H locs ls hT hl => lv_icmp_ne hT.1.1 hT.1.2.1 hd ht (fun h' => absurd h' h) (fun _ => k.2.2 p l e s m args below meth c H locs ls hT hl)⟩
theorem r_icmp_lt {x y : Int32} {off : Int} (tgt : Nat) {ρ : Type} {A B z : ρ} (hf : (if x < y then A else B) = z) (hd : decode M.2.1 pc = .ok (.if_icmp .lt off, 3)) (ht : (pc : Int) + off = (tgt : Int)) (kt : x < y → A = z → V Γ M σ0 r σ tgt L st) (kf : ¬ (x < y) → B = z → V Γ M σ0 r σ (pc + 3) L st) : V Γ M σ0 r σ pc L (.int y :: .int x :: st) := by
  by_cases h : x < y
  · have k := kt h (by rw [if_pos h] at hf; exact hf)
    exact ⟨k.1, k.2.1, fun p l e s m args below meth c H locs ls hT hl => lv_icmp_lt hT.1.1 hT.1.2.1 hd ht (fun _ => k.2.2 p l e s m args below meth c H locs ls hT hl) (fun h' => absurd h h')⟩
  · have k := kf h (by rw [if_neg h] at hf; exact hf)
    exact ⟨k.1, k.2.1, fun p l e s m args below meth c H locs ls hT hl => lv_icmp_lt hT.1.1 hT.1.2.1 hd ht (fun h' => absurd h' h) (fun _ => k.2.2 p l e s m args below meth c H locs ls hT hl)⟩
theorem r_icmp_ge {x y : Int32} {off : Int} (tgt : Nat) {ρ : Type} {A B z : ρ} (hf : (if y ≤ x then A else B) = z) (hd : decode M.2.1 pc = .ok (.if_icmp .ge off, 3)) (ht : (pc : Int) + off = (tgt : Int)) (kt : y ≤ x → A = z → V Γ M σ0 r σ tgt L st) (kf : ¬ (y ≤ x) → B = z → V Γ M σ0 r σ (pc + 3) L st) : V Γ M σ0 r σ pc L (.int y :: .int x :: st) := by
  by_cases h : y ≤ x
  · have k := kt h (by rw [if_pos h] at hf; exact hf)
    exact ⟨k.1, k.2.1, fun p l e s m args below meth c H locs ls hT hl => lv_icmp_ge hT.1.1 hT.1.2.1 hd ht (fun _ => k.2.2 p l e s m args below meth c H locs ls hT hl) (fun h' => absurd h h')⟩
  · have k := kf h (by rw [if_neg h] at hf; exact hf)
    exact ⟨k.1, k.2.1, fun p l e s m args below meth c H locs ls hT hl => lv_icmp_ge hT.1.1 hT.1.2.1 hd ht (fun h' => absurd h' h) (fun _ => k.2.2 p l e s m args below meth c H locs ls hT hl)⟩
theorem r_icmp_gt {x y : Int32} {off : Int} (tgt : Nat) {ρ : Type} {A B z : ρ} (hf : (if y < x then A else B) = z) (hd : decode M.2.1 pc = .ok (.if_icmp .gt off, 3)) (ht : (pc : Int) + off = (tgt : Int)) (kt : y < x → A = z → V Γ M σ0 r σ tgt L st) (kf : ¬ (y < x) → B = z → V Γ M σ0 r σ (pc + 3) L st) : V Γ M σ0 r σ pc L (.int y :: .int x :: st) := by
  by_cases h : y < x
  · have k := kt h (by rw [if_pos h] at hf; exact hf)
    exact ⟨k.1, k.2.1, fun p l e s m args below meth c H locs ls hT hl => lv_icmp_gt hT.1.1 hT.1.2.1 hd ht (fun _ => k.2.2 p l e s m args below meth c H locs ls hT hl) (fun h' => absurd h h')⟩
  · have k := kf h (by rw [if_neg h] at hf; exact hf)
    exact ⟨k.1, k.2.1, fun p l e s m args below meth c H locs ls hT hl => lv_icmp_gt hT.1.1 hT.1.2.1 hd ht (fun h' => absurd h' h) (fun _ => k.2.2 p l e s m args below meth c H locs ls hT hl)⟩
theorem r_icmp_le {x y : Int32} {off : Int} (tgt : Nat) {ρ : Type} {A B z : ρ} (hf : (if x ≤ y then A else B) = z) (hd : decode M.2.1 pc = .ok (.if_icmp .le off, 3)) (ht : (pc : Int) + off = (tgt : Int)) (kt : x ≤ y → A = z → V Γ M σ0 r σ tgt L st) (kf : ¬ (x ≤ y) → B = z → V Γ M σ0 r σ (pc + 3) L st) : V Γ M σ0 r σ pc L (.int y :: .int x :: st) := by
  by_cases h : x ≤ y
  · have k := kt h (by rw [if_pos h] at hf; exact hf)
    exact ⟨k.1, k.2.1, fun p l e s m args below meth c H locs ls hT hl => lv_icmp_le hT.1.1 hT.1.2.1 hd ht (fun _ => k.2.2 p l e s m args below meth c H locs ls hT hl) (fun h' => absurd h h')⟩
  · have k := kf h (by rw [if_neg h] at hf; exact hf)
    exact ⟨k.1, k.2.1, fun p l e s m args below meth c H locs ls hT hl => lv_icmp_le hT.1.1 hT.1.2.1 hd ht (fun h' => absurd h' h) (fun _ => k.2.2 p l e s m args below meth c H locs ls hT hl)⟩
theorem r_if_eq {x : Int32} {off : Int} (tgt : Nat) {ρ : Type} {A B z : ρ} (hf : (if x = 0 then A else B) = z) (hd : decode M.2.1 pc = .ok (.ifCond .eq off, 3)) (ht : (pc : Int) + off = (tgt : Int)) (kt : x = 0 → A = z → V Γ M σ0 r σ tgt L st) (kf : ¬ (x = 0) → B = z → V Γ M σ0 r σ (pc + 3) L st) : V Γ M σ0 r σ pc L (.int x :: st) := by
  by_cases h : x = 0
  · have k := kt h (by rw [if_pos h] at hf; exact hf)
    exact ⟨k.1, k.2.1, fun p l e s m args below meth c H locs ls hT hl => lv_if_eq hT.1.1 hT.1.2.1 hd ht (fun _ => k.2.2 p l e s m args below meth c H locs ls hT hl) (fun h' => absurd h h')⟩
  · have k := kf h (by rw [if_neg h] at hf; exact hf)
    exact ⟨k.1, k.2.1, fun p l e s m args below meth c H locs ls hT hl => lv_if_eq hT.1.1 hT.1.2.1 hd ht (fun h' => absurd h' h) (fun _ => k.2.2 p l e s m args below meth c H locs ls hT hl)⟩
theorem r_if_ne {x : Int32} {off : Int} (tgt : Nat) {ρ : Type} {A B z : ρ} (hf : (if ¬ x = 0 then A else B) = z) (hd : decode M.2.1 pc = .ok (.ifCond .ne off, 3)) (ht : (pc : Int) + off = (tgt : Int)) (kt : ¬ x = 0 → A = z → V Γ M σ0 r σ tgt L st) (kf : ¬ (¬ x = 0) → B = z → V Γ M σ0 r σ (pc + 3) L st) : V Γ M σ0 r σ pc L (.int x :: st) := by
  by_cases h : ¬ x = 0
  · have k := kt h (by rw [if_pos h] at hf; exact hf)
    exact ⟨k.1, k.2.1, fun p l e s m args below meth c H locs ls hT hl => lv_if_ne hT.1.1 hT.1.2.1 hd ht (fun _ => k.2.2 p l e s m args below meth c H locs ls hT hl) (fun h' => absurd h' h)⟩
  · have k := kf h (by rw [if_neg h] at hf; exact hf)
    exact ⟨k.1, k.2.1, fun p l e s m args below meth c H locs ls hT hl => lv_if_ne hT.1.1 hT.1.2.1 hd ht (fun h' => absurd h' h) (fun _ => k.2.2 p l e s m args below meth c H locs ls hT hl)⟩
theorem r_if_lt {x : Int32} {off : Int} (tgt : Nat) {ρ : Type} {A B z : ρ} (hf : (if x < 0 then A else B) = z) (hd : decode M.2.1 pc = .ok (.ifCond .lt off, 3)) (ht : (pc : Int) + off = (tgt : Int)) (kt : x < 0 → A = z → V Γ M σ0 r σ tgt L st) (kf : ¬ (x < 0) → B = z → V Γ M σ0 r σ (pc + 3) L st) : V Γ M σ0 r σ pc L (.int x :: st) := by
  by_cases h : x < 0
  · have k := kt h (by rw [if_pos h] at hf; exact hf)
    exact ⟨k.1, k.2.1, fun p l e s m args below meth c H locs ls hT hl => lv_if_lt hT.1.1 hT.1.2.1 hd ht (fun _ => k.2.2 p l e s m args below meth c H locs ls hT hl) (fun h' => absurd h h')⟩
  · have k := kf h (by rw [if_neg h] at hf; exact hf)
    exact ⟨k.1, k.2.1, fun p l e s m args below meth c H locs ls hT hl => lv_if_lt hT.1.1 hT.1.2.1 hd ht (fun h' => absurd h' h) (fun _ => k.2.2 p l e s m args below meth c H locs ls hT hl)⟩
theorem r_if_ge {x : Int32} {off : Int} (tgt : Nat) {ρ : Type} {A B z : ρ} (hf : (if 0 ≤ x then A else B) = z) (hd : decode M.2.1 pc = .ok (.ifCond .ge off, 3)) (ht : (pc : Int) + off = (tgt : Int)) (kt : 0 ≤ x → A = z → V Γ M σ0 r σ tgt L st) (kf : ¬ (0 ≤ x) → B = z → V Γ M σ0 r σ (pc + 3) L st) : V Γ M σ0 r σ pc L (.int x :: st) := by
  by_cases h : 0 ≤ x
  · have k := kt h (by rw [if_pos h] at hf; exact hf)
    exact ⟨k.1, k.2.1, fun p l e s m args below meth c H locs ls hT hl => lv_if_ge hT.1.1 hT.1.2.1 hd ht (fun _ => k.2.2 p l e s m args below meth c H locs ls hT hl) (fun h' => absurd h h')⟩
  · have k := kf h (by rw [if_neg h] at hf; exact hf)
    exact ⟨k.1, k.2.1, fun p l e s m args below meth c H locs ls hT hl => lv_if_ge hT.1.1 hT.1.2.1 hd ht (fun h' => absurd h' h) (fun _ => k.2.2 p l e s m args below meth c H locs ls hT hl)⟩
theorem r_if_gt {x : Int32} {off : Int} (tgt : Nat) {ρ : Type} {A B z : ρ} (hf : (if 0 < x then A else B) = z) (hd : decode M.2.1 pc = .ok (.ifCond .gt off, 3)) (ht : (pc : Int) + off = (tgt : Int)) (kt : 0 < x → A = z → V Γ M σ0 r σ tgt L st) (kf : ¬ (0 < x) → B = z → V Γ M σ0 r σ (pc + 3) L st) : V Γ M σ0 r σ pc L (.int x :: st) := by
  by_cases h : 0 < x
  · have k := kt h (by rw [if_pos h] at hf; exact hf)
    exact ⟨k.1, k.2.1, fun p l e s m args below meth c H locs ls hT hl => lv_if_gt hT.1.1 hT.1.2.1 hd ht (fun _ => k.2.2 p l e s m args below meth c H locs ls hT hl) (fun h' => absurd h h')⟩
  · have k := kf h (by rw [if_neg h] at hf; exact hf)
    exact ⟨k.1, k.2.1, fun p l e s m args below meth c H locs ls hT hl => lv_if_gt hT.1.1 hT.1.2.1 hd ht (fun h' => absurd h' h) (fun _ => k.2.2 p l e s m args below meth c H locs ls hT hl)⟩
theorem r_if_le {x : Int32} {off : Int} (tgt : Nat) {ρ : Type} {A B z : ρ} (hf : (if x ≤ 0 then A else B) = z) (hd : decode M.2.1 pc = .ok (.ifCond .le off, 3)) (ht : (pc : Int) + off = (tgt : Int)) (kt : x ≤ 0 → A = z → V Γ M σ0 r σ tgt L st) (kf : ¬ (x ≤ 0) → B = z → V Γ M σ0 r σ (pc + 3) L st) : V Γ M σ0 r σ pc L (.int x :: st) := by
  by_cases h : x ≤ 0
  · have k := kt h (by rw [if_pos h] at hf; exact hf)
    exact ⟨k.1, k.2.1, fun p l e s m args below meth c H locs ls hT hl => lv_if_le hT.1.1 hT.1.2.1 hd ht (fun _ => k.2.2 p l e s m args below meth c H locs ls hT hl) (fun h' => absurd h h')⟩
  · have k := kf h (by rw [if_neg h] at hf; exact hf)
    exact ⟨k.1, k.2.1, fun p l e s m args below meth c H locs ls hT hl => lv_if_le hT.1.1 hT.1.2.1 hd ht (fun h' => absurd h' h) (fun _ => k.2.2 p l e s m args below meth c H locs ls hT hl)⟩
theorem r_ifeqZ {b : Bool} {off : Int} (tgt : Nat) {ρ : Type} {A B z : ρ} (hf : (if b = true then A else B) = z) (hd : decode M.2.1 pc = .ok (.ifCond .eq off, 3)) (ht : (pc : Int) + off = (tgt : Int)) (kt : b = true → A = z → V Γ M σ0 r σ (pc + 3) L st) (kf : b = false → B = z → V Γ M σ0 r σ tgt L st) : V Γ M σ0 r σ pc L (.int (b2i b) :: st) := by
  cases b with
  | true =>
    have k := kt rfl hf
    exact ⟨k.1, k.2.1, fun p l e s m args below meth c H locs ls hT hl => lv_if_eq hT.1.1 hT.1.2.1 hd ht (fun h => absurd h (by decide)) (fun _ => k.2.2 p l e s m args below meth c H locs ls hT hl)⟩
  | false =>
    have k := kf rfl hf
    exact ⟨k.1, k.2.1, fun p l e s m args below meth c H locs ls hT hl => lv_if_eq hT.1.1 hT.1.2.1 hd ht (fun _ => k.2.2 p l e s m args below meth c H locs ls hT hl) (fun h => absurd rfl h)⟩
theorem r_ifneZ {b : Bool} {off : Int} (tgt : Nat) {ρ : Type} {A B z : ρ} (hf : (if b = true then A else B) = z) (hd : decode M.2.1 pc = .ok (.ifCond .ne off, 3)) (ht : (pc : Int) + off = (tgt : Int)) (kt : b = true → A = z → V Γ M σ0 r σ tgt L st) (kf : b = false → B = z → V Γ M σ0 r σ (pc + 3) L st) : V Γ M σ0 r σ pc L (.int (b2i b) :: st) := by
  cases b with
  | true =>
    have k := kt rfl hf
    exact ⟨k.1, k.2.1, fun p l e s m args below meth c H locs ls hT hl => lv_if_ne hT.1.1 hT.1.2.1 hd ht (fun _ => k.2.2 p l e s m args below meth c H locs ls hT hl) (fun h => absurd h (by decide))⟩
  | false =>
    have k := kf rfl hf
    exact ⟨k.1, k.2.1, fun p l e s m args below meth c H locs ls hT hl => lv_if_ne hT.1.1 hT.1.2.1 hd ht (fun h => absurd rfl h) (fun _ => k.2.2 p l e s m args below meth c H locs ls hT hl)⟩
theorem r_ifnull {x : Option Nat} {off : Int} (tgt : Nat) {ρ : Type} {A B z : ρ} (hf : (if x = none then A else B) = z) (hd : decode M.2.1 pc = .ok (.ifnull off, 3)) (ht : (pc : Int) + off = (tgt : Int)) (kt : x = none → A = z → V Γ M σ0 r σ tgt L st) (kf : ¬ x = none → B = z → V Γ M σ0 r σ (pc + 3) L st) : V Γ M σ0 r σ pc L (va_rf x :: st) := by
  cases x with
  | none =>
    have k := kt rfl (by rw [if_pos rfl] at hf; exact hf)
    exact ⟨k.1, k.2.1, fun p l e s m args below meth c H locs ls hT hl => lv_ifnullN hT.1.1 hT.1.2.1 hd ht (k.2.2 p l e s m args below meth c H locs ls hT hl)⟩
  | some x =>
    have k := kf (by simp) (by rw [if_neg (by simp)] at hf; exact hf)
    exact ⟨k.1, k.2.1, fun p l e s m args below meth c H locs ls hT hl => lv_ifnull hT.1.1 hT.1.2.1 hd (k.2.2 p l e s m args below meth c H locs ls hT hl)⟩
theorem r_ifnonnull {x : Option Nat} {off : Int} (tgt : Nat) {ρ : Type} {A B z : ρ} (hf : (if x = none then A else B) = z) (hd : decode M.2.1 pc = .ok (.ifnonnull off, 3)) (ht : (pc : Int) + off = (tgt : Int)) (kt : x = none → A = z → V Γ M σ0 r σ (pc + 3) L st) (kf : ¬ x = none → B = z → V Γ M σ0 r σ tgt L st) : V Γ M σ0 r σ pc L (va_rf x :: st) := by
  cases x with
  | none =>
    have k := kt rfl (by rw [if_pos rfl] at hf; exact hf)
    exact ⟨k.1, k.2.1, fun p l e s m args below meth c H locs ls hT hl => lv_ifnonnullN hT.1.1 hT.1.2.1 hd (k.2.2 p l e s m args below meth c H locs ls hT hl)⟩
  | some x =>
    have k := kf (by simp) (by rw [if_neg (by simp)] at hf; exact hf)
    exact ⟨k.1, k.2.1, fun p l e s m args below meth c H locs ls hT hl => lv_ifnonnull hT.1.1 hT.1.2.1 hd ht (k.2.2 p l e s m args below meth c H locs ls hT hl)⟩
theorem lc_eq (x y : Int64) : lg_cmp x y = 0 ↔ x = y := by
  unfold lg_cmp
  by_cases h : x > y
  · rw [if_pos h]
    exact ⟨fun q => absurd q (by decide), fun q => absurd h (by subst q; exact Int64.lt_irrefl)⟩
  · rw [if_neg h]
    by_cases h2 : x = y
    · simp [h2]
    · rw [if_neg h2]
      exact ⟨fun q => absurd q (by decide), fun q => absurd q h2⟩
theorem lc_gt (x y : Int64) : 0 < lg_cmp x y ↔ y < x := by
  unfold lg_cmp
  by_cases h : x > y
  · rw [if_pos h]
    exact ⟨fun _ => h, fun _ => by decide⟩
  · rw [if_neg h]
    by_cases h2 : x = y
    · simp [h2]
    · rw [if_neg h2]
      exact ⟨fun q => absurd q (by decide), fun q => absurd q h⟩
theorem lc_lt (x y : Int64) : lg_cmp x y < 0 ↔ x < y := by
  have h1 := lg_cmp_ge x y
  rw [← Int32.not_le, h1, Int64.not_le]
theorem lc_le (x y : Int64) : lg_cmp x y ≤ 0 ↔ x ≤ y := by
  have h1 := lc_gt x y
  rw [← Int32.not_lt, h1, Int64.not_lt]
theorem r_lcmp_eq {x y : Int64} {off : Int} (tgt : Nat) {ρ : Type} {A B z : ρ} (hf : (if x = y then A else B) = z) (hd : decode M.2.1 pc = .ok (.lcmp, 1)) (hd2 : decode M.2.1 (pc + 1) = .ok (.ifCond .eq off, 3)) (ht : ((pc + 1 : Nat) : Int) + off = (tgt : Int)) (kt : x = y → A = z → V Γ M σ0 r σ tgt L st) (kf : ¬ (x = y) → B = z → V Γ M σ0 r σ (pc + 4) L st) : V Γ M σ0 r σ pc L (.long y :: .long x :: st) := by
  have k : V Γ M σ0 r σ (pc + 1) L (.int (lg_cmp x y) :: st) := by
    refine r_if_eq (x := lg_cmp x y) (A := A) (B := B) (z := z) tgt ?_ hd2 ht (fun h => kt ((lc_eq x y).mp h)) (fun h => kf (fun q => h ((lc_eq x y).mpr q)))
    by_cases h : x = y
    · rw [if_pos h] at hf
      rw [if_pos ((lc_eq x y).mpr h)]
      exact hf
    · rw [if_neg h] at hf
      rw [if_neg (fun q => h ((lc_eq x y).mp q))]
      exact hf
  exact ⟨k.1, k.2.1, fun p l e s m args below meth c H locs ls hT hl => W.lcmp hT.1.1 hT.1.2.1 hd (k.2.2 p l e s m args below meth c H locs ls hT hl)⟩
theorem r_lcmp_ne {x y : Int64} {off : Int} (tgt : Nat) {ρ : Type} {A B z : ρ} (hf : (if ¬ x = y then A else B) = z) (hd : decode M.2.1 pc = .ok (.lcmp, 1)) (hd2 : decode M.2.1 (pc + 1) = .ok (.ifCond .ne off, 3)) (ht : ((pc + 1 : Nat) : Int) + off = (tgt : Int)) (kt : ¬ x = y → A = z → V Γ M σ0 r σ tgt L st) (kf : ¬ (¬ x = y) → B = z → V Γ M σ0 r σ (pc + 4) L st) : V Γ M σ0 r σ pc L (.long y :: .long x :: st) := by
  have k : V Γ M σ0 r σ (pc + 1) L (.int (lg_cmp x y) :: st) := by
    refine r_if_ne (x := lg_cmp x y) (A := A) (B := B) (z := z) tgt ?_ hd2 ht (fun h => kt ((not_congr (lc_eq x y)).mp h)) (fun h => kf (fun q => h ((not_congr (lc_eq x y)).mpr q)))
    by_cases h : ¬ x = y
    · rw [if_pos h] at hf
      rw [if_pos ((not_congr (lc_eq x y)).mpr h)]
      exact hf
    · rw [if_neg h] at hf
      rw [if_neg (fun q => h ((not_congr (lc_eq x y)).mp q))]
      exact hf
  exact ⟨k.1, k.2.1, fun p l e s m args below meth c H locs ls hT hl => W.lcmp hT.1.1 hT.1.2.1 hd (k.2.2 p l e s m args below meth c H locs ls hT hl)⟩
theorem r_lcmp_lt {x y : Int64} {off : Int} (tgt : Nat) {ρ : Type} {A B z : ρ} (hf : (if x < y then A else B) = z) (hd : decode M.2.1 pc = .ok (.lcmp, 1)) (hd2 : decode M.2.1 (pc + 1) = .ok (.ifCond .lt off, 3)) (ht : ((pc + 1 : Nat) : Int) + off = (tgt : Int)) (kt : x < y → A = z → V Γ M σ0 r σ tgt L st) (kf : ¬ (x < y) → B = z → V Γ M σ0 r σ (pc + 4) L st) : V Γ M σ0 r σ pc L (.long y :: .long x :: st) := by
  have k : V Γ M σ0 r σ (pc + 1) L (.int (lg_cmp x y) :: st) := by
    refine r_if_lt (x := lg_cmp x y) (A := A) (B := B) (z := z) tgt ?_ hd2 ht (fun h => kt ((lc_lt x y).mp h)) (fun h => kf (fun q => h ((lc_lt x y).mpr q)))
    by_cases h : x < y
    · rw [if_pos h] at hf
      rw [if_pos ((lc_lt x y).mpr h)]
      exact hf
    · rw [if_neg h] at hf
      rw [if_neg (fun q => h ((lc_lt x y).mp q))]
      exact hf
  exact ⟨k.1, k.2.1, fun p l e s m args below meth c H locs ls hT hl => W.lcmp hT.1.1 hT.1.2.1 hd (k.2.2 p l e s m args below meth c H locs ls hT hl)⟩
theorem r_lcmp_ge {x y : Int64} {off : Int} (tgt : Nat) {ρ : Type} {A B z : ρ} (hf : (if y ≤ x then A else B) = z) (hd : decode M.2.1 pc = .ok (.lcmp, 1)) (hd2 : decode M.2.1 (pc + 1) = .ok (.ifCond .ge off, 3)) (ht : ((pc + 1 : Nat) : Int) + off = (tgt : Int)) (kt : y ≤ x → A = z → V Γ M σ0 r σ tgt L st) (kf : ¬ (y ≤ x) → B = z → V Γ M σ0 r σ (pc + 4) L st) : V Γ M σ0 r σ pc L (.long y :: .long x :: st) := by
  have k : V Γ M σ0 r σ (pc + 1) L (.int (lg_cmp x y) :: st) := by
    refine r_if_ge (x := lg_cmp x y) (A := A) (B := B) (z := z) tgt ?_ hd2 ht (fun h => kt ((lg_cmp_ge x y).mp h)) (fun h => kf (fun q => h ((lg_cmp_ge x y).mpr q)))
    by_cases h : y ≤ x
    · rw [if_pos h] at hf
      rw [if_pos ((lg_cmp_ge x y).mpr h)]
      exact hf
    · rw [if_neg h] at hf
      rw [if_neg (fun q => h ((lg_cmp_ge x y).mp q))]
      exact hf
  exact ⟨k.1, k.2.1, fun p l e s m args below meth c H locs ls hT hl => W.lcmp hT.1.1 hT.1.2.1 hd (k.2.2 p l e s m args below meth c H locs ls hT hl)⟩
theorem r_lcmp_gt {x y : Int64} {off : Int} (tgt : Nat) {ρ : Type} {A B z : ρ} (hf : (if y < x then A else B) = z) (hd : decode M.2.1 pc = .ok (.lcmp, 1)) (hd2 : decode M.2.1 (pc + 1) = .ok (.ifCond .gt off, 3)) (ht : ((pc + 1 : Nat) : Int) + off = (tgt : Int)) (kt : y < x → A = z → V Γ M σ0 r σ tgt L st) (kf : ¬ (y < x) → B = z → V Γ M σ0 r σ (pc + 4) L st) : V Γ M σ0 r σ pc L (.long y :: .long x :: st) := by
  have k : V Γ M σ0 r σ (pc + 1) L (.int (lg_cmp x y) :: st) := by
    refine r_if_gt (x := lg_cmp x y) (A := A) (B := B) (z := z) tgt ?_ hd2 ht (fun h => kt ((lc_gt x y).mp h)) (fun h => kf (fun q => h ((lc_gt x y).mpr q)))
    by_cases h : y < x
    · rw [if_pos h] at hf
      rw [if_pos ((lc_gt x y).mpr h)]
      exact hf
    · rw [if_neg h] at hf
      rw [if_neg (fun q => h ((lc_gt x y).mp q))]
      exact hf
  exact ⟨k.1, k.2.1, fun p l e s m args below meth c H locs ls hT hl => W.lcmp hT.1.1 hT.1.2.1 hd (k.2.2 p l e s m args below meth c H locs ls hT hl)⟩
theorem r_lcmp_le {x y : Int64} {off : Int} (tgt : Nat) {ρ : Type} {A B z : ρ} (hf : (if x ≤ y then A else B) = z) (hd : decode M.2.1 pc = .ok (.lcmp, 1)) (hd2 : decode M.2.1 (pc + 1) = .ok (.ifCond .le off, 3)) (ht : ((pc + 1 : Nat) : Int) + off = (tgt : Int)) (kt : x ≤ y → A = z → V Γ M σ0 r σ tgt L st) (kf : ¬ (x ≤ y) → B = z → V Γ M σ0 r σ (pc + 4) L st) : V Γ M σ0 r σ pc L (.long y :: .long x :: st) := by
  have k : V Γ M σ0 r σ (pc + 1) L (.int (lg_cmp x y) :: st) := by
    refine r_if_le (x := lg_cmp x y) (A := A) (B := B) (z := z) tgt ?_ hd2 ht (fun h => kt ((lc_le x y).mp h)) (fun h => kf (fun q => h ((lc_le x y).mpr q)))
    by_cases h : x ≤ y
    · rw [if_pos h] at hf
      rw [if_pos ((lc_le x y).mpr h)]
      exact hf
    · rw [if_neg h] at hf
      rw [if_neg (fun q => h ((lc_le x y).mp q))]
      exact hf
  exact ⟨k.1, k.2.1, fun p l e s m args below meth c H locs ls hT hl => W.lcmp hT.1.1 hT.1.2.1 hd (k.2.2 p l e s m args below meth c H locs ls hT hl)⟩
theorem r_tableIn {dflt lo hi : Int} {offs : Array Int} {len : Nat} {x : Int32} {off : Int} (tgt : Nat) (hd : decode M.2.1 pc = .ok (.tableswitch dflt lo hi offs, len)) (h1 : ¬ x.toInt < lo) (h2 : ¬ hi < x.toInt) (ho : offs[(x.toInt - lo).toNat]? = some off) (ht : (pc : Int) + off = (tgt : Int)) (k : V Γ M σ0 r σ tgt L st) : V Γ M σ0 r σ pc L (.int x :: st) :=
  ⟨k.1, k.2.1, fun p l e s m args below meth c H locs ls hT hl => lv_tableIn hT.1.1 hT.1.2.1 hd h1 h2 ho ht (k.2.2 p l e s m args below meth c H locs ls hT hl)⟩
theorem r_tableOut {dflt lo hi : Int} {offs : Array Int} {len : Nat} {x : Int32} (tgt : Nat) (hd : decode M.2.1 pc = .ok (.tableswitch dflt lo hi offs, len)) (h : x.toInt < lo ∨ hi < x.toInt) (ht : (pc : Int) + dflt = (tgt : Int)) (k : V Γ M σ0 r σ tgt L st) : V Γ M σ0 r σ pc L (.int x :: st) :=
  ⟨k.1, k.2.1, fun p l e s m args below meth c H locs ls hT hl => lv_tableOut hT.1.1 hT.1.2.1 hd h ht (k.2.2 p l e s m args below meth c H locs ls hT hl)⟩
theorem r_lookup {dflt : Int} {ps : Array (Int × Int)} {len : Nat} {x : Int32} {off : Int} (tgt : Nat) (hd : decode M.2.1 pc = .ok (.lookupswitch dflt ps, len)) (hp : (ps.toList.zip (ps.toList.drop 1)).all (fun (a, next) => a.1 < next.1) = true) (ho : Op.lookupswitch.offset ps.toList dflt x.toInt = off) (ht : (pc : Int) + off = (tgt : Int)) (k : V Γ M σ0 r σ tgt L st) : V Γ M σ0 r σ pc L (.int x :: st) :=
  ⟨k.1, k.2.1, fun p l e s m args below meth c H locs ls hT hl => lv_lookup hT.1.1 hT.1.2.1 hd hp ho ht (k.2.2 p l e s m args below meth c H locs ls hT hl)⟩
theorem sw_pos {ρ : Type} {x y : Int32} {A B z : ρ} {P : Prop} (hf : (if x = y then A else B) = z) (kt : x = y → A = z → P) (kf : ¬ x = y → B = z → P) : P := by
  by_cases h : x = y
  · exact kt h (by rw [if_pos h] at hf; exact hf)
  · exact kf h (by rw [if_neg h] at hf; exact hf)
theorem r_iret {v : Int32} (hM : M.2.2.2.1 = some .int) (hd : decode M.2.1 pc = .ok (.ireturn, 1)) (hr : r = mkR Γ σ0 (some (.int v)) σ) : V Γ M σ0 r σ pc L [.int v] := by
  subst hr
  refine ⟨Nat.le_refl _, Nat.le_refl _, fun p l e s m args below meth c H locs ls hT hl => ?_⟩
  exact W.iret hT.1.1 hT.1.2.1 (hT.1.2.2.2.2.2.1.trans hM) (fun t ht hW => Qcn.of hT ht hW) hT.2.2.2.2.2.2.2.2.2.1.2.2 hd hT.1.2.2.2.2.2.2.1
theorem r_zret {b : Bool} (hM : M.2.2.2.1 = some .boolean) (hd : decode M.2.1 pc = .ok (.ireturn, 1)) (hr : r = mkR Γ σ0 (some (.int (b2i b))) σ) : V Γ M σ0 r σ pc L [.int (b2i b)] := by
  subst hr
  refine ⟨Nat.le_refl _, Nat.le_refl _, fun p l e s m args below meth c H locs ls hT hl => ?_⟩
  exact W.zret hT.1.1 hT.1.2.1 (hT.1.2.2.2.2.2.1.trans hM) (by cases b <;> decide +kernel) (fun t ht hW => Qcn.of hT ht hW) hT.2.2.2.2.2.2.2.2.2.1.2.2 hd hT.1.2.2.2.2.2.2.1
theorem r_lret {v : Int64} (hM : M.2.2.2.1 = some .long) (hd : decode M.2.1 pc = .ok (.lreturn, 1)) (hr : r = mkR Γ σ0 (some (.long v)) σ) : V Γ M σ0 r σ pc L [.long v] := by
  subst hr
  refine ⟨Nat.le_refl _, Nat.le_refl _, fun p l e s m args below meth c H locs ls hT hl => ?_⟩
  exact W.lret hT.1.1 hT.1.2.1 (hT.1.2.2.2.2.2.1.trans hM) (fun t ht hW => Qcn.of hT ht hW) hT.2.2.2.2.2.2.2.2.2.1.2.2 hd hT.1.2.2.2.2.2.2.1
theorem r_vret (hM : M.2.2.2.1 = none) (hd : decode M.2.1 pc = .ok (.return_, 1)) (hr : r = mkR Γ σ0 (none) σ) : V Γ M σ0 r σ pc L [] := by
  subst hr
  refine ⟨Nat.le_refl _, Nat.le_refl _, fun p l e s m args below meth c H locs ls hT hl => ?_⟩
  exact W.vret hT.1.1 hT.1.2.1 (hT.1.2.2.2.2.2.1.trans hM) (fun t ht hW => Qcn.of hT ht hW) hT.2.2.2.2.2.2.2.2.2.1.2.2 hd hT.1.2.2.2.2.2.2.1
theorem r_aret {x : Option Nat} {rt : FieldType} (hM : M.2.2.2.1 = some rt) (hrt : (∃ n, rt = .object n) ∨ ∃ t, rt = .array t) (hd : decode M.2.1 pc = .ok (.areturn, 1)) (hr : r = mkR Γ σ0 (some (va_rf x)) σ) : V Γ M σ0 r σ pc L [va_rf x] := by
  subst hr
  refine ⟨Nat.le_refl _, Nat.le_refl _, fun p l e s m args below meth c H locs ls hT hl => ?_⟩
  exact W.aret hT.1.1 hT.1.2.1 (hT.1.2.2.2.2.2.1.trans hM) hrt (by cases x with | none => exact Or.inl rfl | some y => exact Or.inr ⟨y, rfl⟩) (fun t ht hW => Qcn.of hT ht hW) hT.2.2.2.2.2.2.2.2.2.1.2.2 hd hT.1.2.2.2.2.2.2.1
theorem r_mmin {index : Nat} {x y : Int32} (hd : decode M.2.1 pc = .ok (.invokestatic index, 3)) (hlk : Cond.methodLink M.1 index Lib.Math.min.name ∈ GW) (hst : Cond.static Lib.Math.min.name ∈ GW) (hin : Cond.initialized "java/lang/Math" ∈ GW) (hco : Cond.code Lib.Math.min.name Lib.Math.min.code 2 (some .int) ∈ GW) (hf : 1 ≤ M.2.2.2.2.2.1 ∧ 8 + 13 ≤ M.2.2.2.2.2.2) (hR : st.length ≤ 4) (k : V Γ M σ0 r σ (pc + 3) L (.int (minI x y) :: st)) : V Γ M σ0 r σ pc L (.int y :: .int x :: st) := by
  refine ⟨k.1, k.2.1, fun p l e s m args below meth c H locs ls hT hl => ?_⟩
  have hw := hT.1.2.2.2.2.1
  exact va_mmin hT.1.1 hT.1.2.1 (hT.1.2.2.1.trans hl.1.symm) hT.1.2.2.2.1 (hw _ hlk) (hw _ hst) (hw _ hin) (hw _ hco) hf.1 (Nat.le_trans (Nat.add_le_add_right (cat_le hR) _) hf.2) (Nat.sub_le_sub_right k.1 _) (Nat.sub_le_sub_right k.2.1 _) hd (k.2.2 p l e s m args below meth c H locs ls hT hl)
theorem r_mmax {index : Nat} {x y : Int32} (hd : decode M.2.1 pc = .ok (.invokestatic index, 3)) (hlk : Cond.methodLink M.1 index Lib.Math.max.name ∈ GW) (hst : Cond.static Lib.Math.max.name ∈ GW) (hin : Cond.initialized "java/lang/Math" ∈ GW) (hco : Cond.code Lib.Math.max.name Lib.Math.max.code 2 (some .int) ∈ GW) (hf : 1 ≤ M.2.2.2.2.2.1 ∧ 8 + 13 ≤ M.2.2.2.2.2.2) (hR : st.length ≤ 4) (k : V Γ M σ0 r σ (pc + 3) L (.int (maxI x y) :: st)) : V Γ M σ0 r σ pc L (.int y :: .int x :: st) := by
  refine ⟨k.1, k.2.1, fun p l e s m args below meth c H locs ls hT hl => ?_⟩
  have hw := hT.1.2.2.2.2.1
  exact va_mmax hT.1.1 hT.1.2.1 (hT.1.2.2.1.trans hl.1.symm) hT.1.2.2.2.1 (hw _ hlk) (hw _ hst) (hw _ hin) (hw _ hco) hf.1 (Nat.le_trans (Nat.add_le_add_right (cat_le hR) _) hf.2) (Nat.sub_le_sub_right k.1 _) (Nat.sub_le_sub_right k.2.1 _) hd (k.2.2 p l e s m args below meth c H locs ls hT hl)
theorem r_mabs {index : Nat} {x : Int32} (hd : decode M.2.1 pc = .ok (.invokestatic index, 3)) (hlk : Cond.methodLink M.1 index Lib.Math.abs.name ∈ GW) (hst : Cond.static Lib.Math.abs.name ∈ GW) (hin : Cond.initialized "java/lang/Math" ∈ GW) (hco : Cond.code Lib.Math.abs.name Lib.Math.abs.code 1 (some .int) ∈ GW) (hf : 1 ≤ M.2.2.2.2.2.1 ∧ 8 + 13 ≤ M.2.2.2.2.2.2) (hR : st.length ≤ 4) (k : V Γ M σ0 r σ (pc + 3) L (.int (absI x) :: st)) : V Γ M σ0 r σ pc L (.int x :: st) := by
  refine ⟨k.1, k.2.1, fun p l e s m args below meth c H locs ls hT hl => ?_⟩
  have hw := hT.1.2.2.2.2.1
  exact va_mabs hT.1.1 hT.1.2.1 (hT.1.2.2.1.trans hl.1.symm) hT.1.2.2.2.1 (hw _ hlk) (hw _ hst) (hw _ hin) (hw _ hco) hf.1 (Nat.le_trans (Nat.add_le_add_right (cat_le hR) _) hf.2) (Nat.sub_le_sub_right k.1 _) (Nat.sub_le_sub_right k.2.1 _) hd (k.2.2 p l e s m args below meth c H locs ls hT hl)
theorem r_mminL {index : Nat} {x y : Int64} (hd : decode M.2.1 pc = .ok (.invokestatic index, 3)) (hlk : Cond.methodLink M.1 index Lib.MathLoose.min_long.x ∈ GW) (hst : Cond.static Lib.MathLoose.min_long.x ∈ GW) (hin : Cond.initialized "java/lang/Math" ∈ GW) (hco : Cond.code Lib.MathLoose.min_long.x Lib.MathLoose.min_long.code 4 (some .long) ∈ GW) (hf : 1 ≤ M.2.2.2.2.2.1 ∧ 8 + 15 ≤ M.2.2.2.2.2.2) (hR : st.length ≤ 4) (k : V Γ M σ0 r σ (pc + 3) L (.long (minL x y) :: st)) : V Γ M σ0 r σ pc L (.long y :: .long x :: st) := by
  refine ⟨k.1, k.2.1, fun p l e s m args below meth c H locs ls hT hl => ?_⟩
  have hw := hT.1.2.2.2.2.1
  exact va_mmin_long hT.1.1 hT.1.2.1 (hT.1.2.2.1.trans hl.1.symm) hT.1.2.2.2.1 (hw _ hlk) (hw _ hst) (hw _ hin) (hw _ hco) hf.1 (Nat.le_trans (Nat.add_le_add_right (cat_le hR) _) hf.2) (Nat.sub_le_sub_right k.1 _) (Nat.sub_le_sub_right k.2.1 _) hd (k.2.2 p l e s m args below meth c H locs ls hT hl)
theorem r_mmaxL {index : Nat} {x y : Int64} (hd : decode M.2.1 pc = .ok (.invokestatic index, 3)) (hlk : Cond.methodLink M.1 index Lib.MathLoose.max_long.x ∈ GW) (hst : Cond.static Lib.MathLoose.max_long.x ∈ GW) (hin : Cond.initialized "java/lang/Math" ∈ GW) (hco : Cond.code Lib.MathLoose.max_long.x Lib.MathLoose.max_long.code 4 (some .long) ∈ GW) (hf : 1 ≤ M.2.2.2.2.2.1 ∧ 8 + 15 ≤ M.2.2.2.2.2.2) (hR : st.length ≤ 4) (k : V Γ M σ0 r σ (pc + 3) L (.long (maxL x y) :: st)) : V Γ M σ0 r σ pc L (.long y :: .long x :: st) := by
  refine ⟨k.1, k.2.1, fun p l e s m args below meth c H locs ls hT hl => ?_⟩
  have hw := hT.1.2.2.2.2.1
  exact va_mmax_long hT.1.1 hT.1.2.1 (hT.1.2.2.1.trans hl.1.symm) hT.1.2.2.2.1 (hw _ hlk) (hw _ hst) (hw _ hin) (hw _ hco) hf.1 (Nat.le_trans (Nat.add_le_add_right (cat_le hR) _) hf.2) (Nat.sub_le_sub_right k.1 _) (Nat.sub_le_sub_right k.2.1 _) hd (k.2.2 p l e s m args below meth c H locs ls hT hl)
theorem r_objInit {index : Nat} {a : Nat} (hd : decode M.2.1 pc = .ok (.invokespecial index, 3)) (hlk : Cond.methodLink M.1 index Lib.objectInit ∈ GW) (hin : Cond.instanceMethod Lib.objectInit ∈ GW) (hco : Cond.code Lib.objectInit ⟨#[0xb1]⟩ 1 none ∈ GW) (hf : 1 ≤ M.2.2.2.2.2.1 ∧ 8 + 12 ≤ M.2.2.2.2.2.2) (hR : st.length ≤ 4) (k : V Γ M σ0 r σ (pc + 3) L st) : V Γ M σ0 r σ pc L (va_rf (some a) :: st) := by
  refine ⟨k.1, k.2.1, fun p l e s m args below meth c H locs ls hT hl => ?_⟩
  have hw := hT.1.2.2.2.2.1
  exact W.objInit hT.1.1 hT.1.2.1 hT.1.2.2.2.1 (hw _ hlk) (hw _ hin) (hw _ hco) rfl (hl.1.trans hT.1.2.2.1.symm) rfl hd hf.1 (by show 2 * 0 + _ + 12 ≤ _; rw [Nat.mul_zero, Nat.zero_add]; exact Nat.le_trans (Nat.add_le_add_right (cat_le hR) _) hf.2) (k.2.2 p l e s m args below meth c H locs ls hT hl)
end RW
