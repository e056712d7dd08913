/-! PURE SIDE: numbers, maps, loops -/
theorem nl (n : Nat) : (@OfNat.ofNat Int32 n _) = nI n := by cases n <;> rfl
theorem nI_mul (a b : Nat) : nI a * nI b = nI (a * b) := by
  simp [nI, Int32.ofNat_mul]
theorem nI_sub {a b : Nat} (h : b ≤ a) : nI a - nI b = nI (a - b) := by
  rw [show a = (a - b) + b by omega, ← nI_add, Nat.add_sub_cancel]
  simp
theorem nI_ix {n N : Nat} (h : n < N) (hN : N < 2 ^ 31) : (0 ≤ (nI n).toInt ∧ (nI n).toInt < (N : Int)) := by
  rw [nI_toInt (by omega)]
  omega
theorem nI_b {n : Nat} : nI n = Int32.ofNat n := rfl
/-! the maps: each getter behind each setter -/
theorem gT_sI (σ : Mem) (a k : Nat) (v : Int32) : gT (sI σ a k v) = gT σ := by cases σ; rfl
theorem gT_sL (σ : Mem) (a k : Nat) (v : Int64) : gT (sL σ a k v) = gT σ := by cases σ; rfl
theorem gT_sR (σ : Mem) (a k : Nat) (v : Option Nat) : gT (sR σ a k v) = gT σ := by cases σ; rfl
theorem gT_sB (σ : Mem) (a k : Nat) (v : Bool) : gT (sB σ a k v) = gT σ := by cases σ; rfl
theorem gN_sI (σ : Mem) (a k : Nat) (v : Int32) : gN (sI σ a k v) = gN σ := by cases σ; rfl
theorem gN_sL (σ : Mem) (a k : Nat) (v : Int64) : gN (sL σ a k v) = gN σ := by cases σ; rfl
theorem gN_sR (σ : Mem) (a k : Nat) (v : Option Nat) : gN (sR σ a k v) = gN σ := by cases σ; rfl
theorem gN_sB (σ : Mem) (a k : Nat) (v : Bool) : gN (sB σ a k v) = gN σ := by cases σ; rfl
theorem gU_sI (σ : Mem) (a k : Nat) (v : Int32) : gU (sI σ a k v) = gU σ := by cases σ; rfl
theorem gU_sL (σ : Mem) (a k : Nat) (v : Int64) : gU (sL σ a k v) = gU σ := by cases σ; rfl
theorem gU_sR (σ : Mem) (a k : Nat) (v : Option Nat) : gU (sR σ a k v) = gU σ := by cases σ; rfl
theorem gU_sB (σ : Mem) (a k : Nat) (v : Bool) : gU (sB σ a k v) = gU σ := by cases σ; rfl
theorem gI_sL (σ : Mem) (a k : Nat) (v : Int64) : gI (sL σ a k v) = gI σ := by cases σ; rfl
theorem gI_sR (σ : Mem) (a k : Nat) (v : Option Nat) : gI (sR σ a k v) = gI σ := by cases σ; rfl
theorem gI_sB (σ : Mem) (a k : Nat) (v : Bool) : gI (sB σ a k v) = gI σ := by cases σ; rfl
theorem gL_sI (σ : Mem) (a k : Nat) (v : Int32) : gL (sI σ a k v) = gL σ := by cases σ; rfl
theorem gL_sR (σ : Mem) (a k : Nat) (v : Option Nat) : gL (sR σ a k v) = gL σ := by cases σ; rfl
theorem gL_sB (σ : Mem) (a k : Nat) (v : Bool) : gL (sB σ a k v) = gL σ := by cases σ; rfl
theorem gR_sI (σ : Mem) (a k : Nat) (v : Int32) : gR (sI σ a k v) = gR σ := by cases σ; rfl
theorem gR_sL (σ : Mem) (a k : Nat) (v : Int64) : gR (sL σ a k v) = gR σ := by cases σ; rfl
theorem gR_sB (σ : Mem) (a k : Nat) (v : Bool) : gR (sB σ a k v) = gR σ := by cases σ; rfl
theorem gB_sI (σ : Mem) (a k : Nat) (v : Int32) : gB (sI σ a k v) = gB σ := by cases σ; rfl
theorem gB_sL (σ : Mem) (a k : Nat) (v : Int64) : gB (sL σ a k v) = gB σ := by cases σ; rfl
theorem gB_sR (σ : Mem) (a k : Nat) (v : Option Nat) : gB (sR σ a k v) = gB σ := by cases σ; rfl
theorem gI_sI (σ : Mem) (a k b j : Nat) (v : Int32) : gI (sI σ a k v) b j = if b = a ∧ j = k then v else gI σ b j := by cases σ; rfl
theorem gL_sL (σ : Mem) (a k b j : Nat) (v : Int64) : gL (sL σ a k v) b j = if b = a ∧ j = k then v else gL σ b j := by cases σ; rfl
theorem gR_sR (σ : Mem) (a k b j : Nat) (v : Option Nat) : gR (sR σ a k v) b j = if b = a ∧ j = k then v else gR σ b j := by cases σ; rfl
theorem gB_sB (σ : Mem) (a k b j : Nat) (v : Bool) : gB (sB σ a k v) b j = if b = a ∧ j = k then v else gB σ b j := by cases σ; rfl
theorem gT_nw (σ : Mem) (t : Nat × Nat) (w b : Nat) : gT (nw σ t w) b = if b = gN σ then t else gT σ b := by cases σ; rfl
theorem gN_nw (σ : Mem) (t : Nat × Nat) (w : Nat) : gN (nw σ t w) = gN σ + 1 := by cases σ; rfl
theorem gU_nw (σ : Mem) (t : Nat × Nat) (w : Nat) : gU (nw σ t w) = gU σ + w := by cases σ; rfl
theorem gI_nw (σ : Mem) (t : Nat × Nat) (w b j : Nat) : gI (nw σ t w) b j = if b = gN σ then 0 else gI σ b j := by by_cases h : b = gN σ <;> simp [gI, nw, up1, h]
theorem gL_nw (σ : Mem) (t : Nat × Nat) (w b j : Nat) : gL (nw σ t w) b j = if b = gN σ then 0 else gL σ b j := by by_cases h : b = gN σ <;> simp [gL, nw, up1, h]
theorem gR_nw (σ : Mem) (t : Nat × Nat) (w b j : Nat) : gR (nw σ t w) b j = if b = gN σ then none else gR σ b j := by by_cases h : b = gN σ <;> simp [gR, nw, up1, h]
theorem gB_nw (σ : Mem) (t : Nat × Nat) (w b j : Nat) : gB (nw σ t w) b j = if b = gN σ then false else gB σ b j := by by_cases h : b = gN σ <;> simp [gB, nw, up1, h]
theorem gT_nwC (σ : Mem) (a b : Nat) : gT (nwC σ a) b = if b = gN σ then gT σ a else gT σ b := by cases σ; rfl
theorem gN_nwC (σ : Mem) (a : Nat) : gN (nwC σ a) = gN σ + 1 := by cases σ; rfl
theorem gU_nwC (σ : Mem) (a : Nat) : gU (nwC σ a) = gU σ + (gT σ a).2 := by cases σ; rfl
theorem gI_nwC (σ : Mem) (a b j : Nat) : gI (nwC σ a) b j = if b = gN σ then gI σ a j else gI σ b j := by by_cases h : b = gN σ <;> simp [gI, nwC, up1, h]
theorem gL_nwC (σ : Mem) (a b j : Nat) : gL (nwC σ a) b j = if b = gN σ then gL σ a j else gL σ b j := by by_cases h : b = gN σ <;> simp [gL, nwC, up1, h]
theorem gR_nwC (σ : Mem) (a b j : Nat) : gR (nwC σ a) b j = if b = gN σ then gR σ a j else gR σ b j := by by_cases h : b = gN σ <;> simp [gR, nwC, up1, h]
theorem gB_nwC (σ : Mem) (a b j : Nat) : gB (nwC σ a) b j = if b = gN σ then gB σ a j else gB σ b j := by by_cases h : b = gN σ <;> simp [gB, nwC, up1, h]
/-! operations that go through -/
theorem ldI_ok {σ : Mem} {ci k a : Nat} (h : (gT σ a).1 = ci) : ldI σ ci k (some a) = some (gI σ a k) := by simp [ldI, h]
theorem ldL_ok {σ : Mem} {ci k a : Nat} (h : (gT σ a).1 = ci) : ldL σ ci k (some a) = some (gL σ a k) := by simp [ldL, h]
theorem ldR_ok {σ : Mem} {ci k a : Nat} (h : (gT σ a).1 = ci) : ldR σ ci k (some a) = some (gR σ a k) := by simp [ldR, h]
theorem ldB_ok {σ : Mem} {ci k a : Nat} (h : (gT σ a).1 = ci) : ldB σ ci k (some a) = some (gB σ a k) := by simp [ldB, h]
theorem stI_ok {σ : Mem} {ci k a : Nat} {v : Int32} (h : (gT σ a).1 = ci) : stI σ ci k (some a) v = some (sI σ a k v) := by simp [stI, h]
theorem stL_ok {σ : Mem} {ci k a : Nat} {v : Int64} (h : (gT σ a).1 = ci) : stL σ ci k (some a) v = some (sL σ a k v) := by simp [stL, h]
theorem stR_ok {σ : Mem} {ci k a : Nat} {v : Option Nat} (h : (gT σ a).1 = ci) : stR σ ci k (some a) v = some (sR σ a k v) := by simp [stR, h]
theorem stB_ok {σ : Mem} {ci k a : Nat} {v : Bool} (h : (gT σ a).1 = ci) : stB σ ci k (some a) v = some (sB σ a k v) := by simp [stB, h]
theorem chk_ok {σ : Mem} {ci a : Nat} (h : (gT σ a).1 = ci) : chk σ ci (some a) = some a := by simp [chk, h]
theorem ixb_ok {σ : Mem} {t a i N : Nat} (h : gT σ a = (100 + t, N)) (hi : i < N) (hN : N < 2 ^ 31) : ixb σ t a (nI i) = true := ixb_iff.mpr ⟨by rw [h], by rw [h]; exact nI_ix hi hN⟩
theorem raI_ok {σ : Mem} {t a i N : Nat} (h : gT σ a = (100 + t, N)) (hi : i < N) (hN : N < 2 ^ 31) : raI σ t (some a) (nI i) = some (gI σ a i) := by simp [raI, ixb_ok h hi hN, nI_clamp (show i < 2 ^ 31 by omega)]
theorem raL_ok {σ : Mem} {t a i N : Nat} (h : gT σ a = (100 + t, N)) (hi : i < N) (hN : N < 2 ^ 31) : raL σ t (some a) (nI i) = some (gL σ a i) := by simp [raL, ixb_ok h hi hN, nI_clamp (show i < 2 ^ 31 by omega)]
theorem raR_ok {σ : Mem} {t a i N : Nat} (h : gT σ a = (100 + t, N)) (hi : i < N) (hN : N < 2 ^ 31) : raR σ t (some a) (nI i) = some (gR σ a i) := by simp [raR, ixb_ok h hi hN, nI_clamp (show i < 2 ^ 31 by omega)]
theorem raB_ok {σ : Mem} {t a i N : Nat} (h : gT σ a = (100 + t, N)) (hi : i < N) (hN : N < 2 ^ 31) : raB σ t (some a) (nI i) = some (gB σ a i) := by simp [raB, ixb_ok h hi hN, nI_clamp (show i < 2 ^ 31 by omega)]
theorem waI_ok {σ : Mem} {t a i N : Nat} {v : Int32} (h : gT σ a = (100 + t, N)) (hi : i < N) (hN : N < 2 ^ 31) : waI σ t (some a) (nI i) v = some (sI σ a i v) := by simp [waI, ixb_ok h hi hN, nI_clamp (show i < 2 ^ 31 by omega)]
theorem waL_ok {σ : Mem} {t a i N : Nat} {v : Int64} (h : gT σ a = (100 + t, N)) (hi : i < N) (hN : N < 2 ^ 31) : waL σ t (some a) (nI i) v = some (sL σ a i v) := by simp [waL, ixb_ok h hi hN, nI_clamp (show i < 2 ^ 31 by omega)]
theorem waB_ok {σ : Mem} {t a i N : Nat} {v : Bool} (h : gT σ a = (100 + t, N)) (hi : i < N) (hN : N < 2 ^ 31) : waB σ t (some a) (nI i) v = some (sB σ a i v) := by simp [waB, ixb_ok h hi hN, nI_clamp (show i < 2 ^ 31 by omega)]
theorem waR_ok {σ : Mem} {t ci a i N : Nat} {v : Option Nat} (h : gT σ a = (100 + t, N)) (hi : i < N) (hN : N < 2 ^ 31) (hv : okR σ ci v = true) : waR σ t ci (some a) (nI i) v = some (sR σ a i v) := by simp [waR, ixb_ok h hi hN, nI_clamp (show i < 2 ^ 31 by omega), hv]
theorem alen_ok {σ : Mem} {t a N : Nat} (h : gT σ a = (100 + t, N)) : alen σ t (some a) = some (nI N) := by simp [alen, h, nI]
theorem nwA_ok {σ : Mem} {t n : Nat} (h : n ≤ 2000000) : nwA σ t (nI n) = some (nw σ (100 + t, n) n) := by
  have h1 : (nI n).toInt = (n : Int) := nI_toInt (by omega)
  have h2 : (nI n).toNatClampNeg = n := nI_clamp (by omega)
  simp only [nwA, h1, h2]
  rw [if_pos (by omega)]
/-! the reference's arrays -/
theorem rdI_ok {R : RS} {c N i : Nat} (hi : i < N) (hN : N < 2 ^ 31) : rdI R c N (nI i) = some (R.1 c i) := by rw [rdI, if_pos (nI_ix hi hN), nI_clamp (by omega)]
theorem rdL_ok {R : RS} {c N i : Nat} (hi : i < N) (hN : N < 2 ^ 31) : rdL R c N (nI i) = some (R.2.1 c i) := by rw [rdL, if_pos (nI_ix hi hN), nI_clamp (by omega)]
theorem rdB_ok {R : RS} {c N i : Nat} (hi : i < N) (hN : N < 2 ^ 31) : rdB R c N (nI i) = some (R.2.2 c i) := by rw [rdB, if_pos (nI_ix hi hN), nI_clamp (by omega)]
theorem wrI_ok {R : RS} {c N i : Nat} {v : Int32} (hi : i < N) (hN : N < 2 ^ 31) : wrI R c N (nI i) v = some (up2 R.1 c i v, R.2) := by rw [wrI, if_pos (nI_ix hi hN), nI_clamp (by omega)]
theorem wrL_ok {R : RS} {c N i : Nat} {v : Int64} (hi : i < N) (hN : N < 2 ^ 31) : wrL R c N (nI i) v = some (R.1, up2 R.2.1 c i v, R.2.2) := by rw [wrL, if_pos (nI_ix hi hN), nI_clamp (by omega)]
theorem wrB_ok {R : RS} {c N i : Nat} {v : Bool} (hi : i < N) (hN : N < 2 ^ 31) : wrB R c N (nI i) v = some (R.1, R.2.1, up2 R.2.2 c i v) := by rw [wrB, if_pos (nI_ix hi hN), nI_clamp (by omega)]
