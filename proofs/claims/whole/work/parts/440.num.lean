/-! numbers, comparisons as propositions on naturals; loops by functions -/
theorem iEq {a b : Nat} (ha : a < 2147483648) (hb : b < 2147483648) : (nI a = nI b) = (a = b) := propext (nI_eq ha hb)
theorem iLe {a b : Nat} (ha : a < 2147483648) (hb : b < 2147483648) : (nI a ≤ nI b) = (a ≤ b) := propext (nI_leI ha hb)
theorem iLt {a b : Nat} (ha : a < 2147483648) (hb : b < 2147483648) : (nI a < nI b) = (a < b) := propext (nI_ltI ha hb)
theorem iSub {a b : Nat} (h : b ≤ a) : nI a - nI b = nI (a - b) := nI_sub h
theorem nI_neg_toInt {a : Nat} (h : a < 2147483648) : (-nI a).toInt = -(a : Int) := by
  have e : -nI a = Int32.ofInt (-(a : Int)) := by
    rw [Int32.ofInt_neg]
    rfl
  rw [e, Int32.toInt_ofInt, show Int32.size = 4294967296 from rfl, Int.bmod_def]
  omega
theorem iEqN {a b : Nat} (ha : a < 2147483648) (hb : 0 < b ∧ b < 2147483648) : (nI a = -nI b) = False := by
  refine eq_false (fun h => ?_)
  have h := congrArg Int32.toInt h
  rw [nI_toInt ha, nI_neg_toInt hb.2] at h
  omega
theorem iNEq {a b : Nat} (ha : a < 2147483648) (hb : 0 < b ∧ b < 2147483648) : (-nI b = nI a) = False := by
  refine eq_false (fun h => ?_)
  have h := congrArg Int32.toInt h
  rw [nI_toInt ha, nI_neg_toInt hb.2] at h
  omega
theorem iNN {a b : Nat} (ha : a < 2147483648) (hb : b < 2147483648) : (-nI a = -nI b) = (a = b) := by
  rw [eq_iff_iff, ← Int32.toInt_inj, nI_neg_toInt ha, nI_neg_toInt hb]
  omega
theorem iLtN {a b : Nat} (ha : a < 2147483648) (hb : b < 2147483648) : (nI a < -nI b) = False := by
  refine eq_false (fun h => ?_)
  rw [Int32.lt_iff_toInt_lt, nI_toInt ha, nI_neg_toInt hb] at h
  omega
theorem iNLt {a b : Nat} (ha : a < 2147483648) (hb : 0 < b ∧ b < 2147483648) : (-nI b < nI a) = True := by
  refine eq_true ?_
  rw [Int32.lt_iff_toInt_lt, nI_toInt ha, nI_neg_toInt hb.2]
  omega
theorem iLeN {a b : Nat} (ha : a < 2147483648) (hb : 0 < b ∧ b < 2147483648) : (nI a ≤ -nI b) = False := by
  refine eq_false (fun h => ?_)
  rw [Int32.le_iff_toInt_le, nI_toInt ha, nI_neg_toInt hb.2] at h
  omega
theorem iNLe {a b : Nat} (ha : a < 2147483648) (hb : b < 2147483648) : (-nI b ≤ nI a) = True := by
  refine eq_true ?_
  rw [Int32.le_iff_toInt_le, nI_toInt ha, nI_neg_toInt hb]
  omega
theorem iAddN {a b : Nat} (h : b ≤ a) : nI a + -nI b = nI (a - b) := by
  rw [← nI_sub h, Int32.sub_eq_add_neg]
theorem iNAdd {a b : Nat} (h : a ≤ b) : -nI a + nI b = nI (b - a) := by
  rw [Int32.add_comm]
  exact iAddN h
theorem bm32 {a : Nat} (h : a < 2147483648) : Int.bmod (a : Int) 4294967296 = a := by
  rw [Int.bmod_def]
  omega
theorem bm64 {a : Nat} (h : a < 9223372036854775808) : Int.bmod (a : Int) 18446744073709551616 = a := by
  rw [Int.bmod_def]
  omega
theorem iMin {a b : Nat} (ha : a < 2147483648) (hb : b < 2147483648) : minI (nI a) (nI b) = nI (min a b) := by
  simp only [minI, iLt hb ha]
  split
  · rw [Nat.min_eq_right (by omega)]
  · rw [Nat.min_eq_left (by omega)]
theorem iMax {a b : Nat} (ha : a < 2147483648) (hb : b < 2147483648) : maxI (nI a) (nI b) = nI (max a b) := by
  simp only [maxI, iLt ha hb]
  split
  · rw [Nat.max_eq_right (by omega)]
  · rw [Nat.max_eq_left (by omega)]
theorem iDiv {a b : Nat} (ha : a < 2147483648) (hb : b < 2147483648) : nI a / nI b = nI (a / b) := by
  apply Int32.toInt_inj.mp
  have h1 : a / b ≤ a := Nat.div_le_self a b
  rw [Int32.toInt_div, nI_toInt ha, nI_toInt hb, nI_toInt (by omega)]
  have : Int.tdiv (a : Int) (b : Int) = ((a / b : Nat) : Int) := by
    rw [Int.tdiv_eq_ediv_of_nonneg (by omega)]
    rfl
  rw [this]
  exact bm32 (by omega)
theorem iRem {a b : Nat} (ha : a < 2147483648) (hb : b < 2147483648) : remI (nI a) (nI b) = nI (a % b) := by
  unfold remI
  have h1 : a / b * b ≤ a := Nat.div_mul_le_self a b
  rw [iDiv ha hb, nI_mul, nI_sub h1]
  congr 1
  have := Nat.div_add_mod a b
  rw [Nat.mul_comm] at this
  omega
theorem iAndM (x : Int32) (m : Nat) (hm : m < 2147483648) : ∃ b, b ≤ m ∧ x &&& nI m = nI b := by
  refine ⟨(x.toBitVec &&& BitVec.ofNat 32 m).toNat, ?_, ?_⟩
  · rw [BitVec.toNat_and]
    have := Nat.and_le_right (n := x.toBitVec.toNat) (m := (BitVec.ofNat 32 m).toNat)
    rw [BitVec.toNat_ofNat] at this ⊢
    omega
  · apply Int32.toBitVec_inj.mp
    rw [Int32.toBitVec_and]
    show x.toBitVec &&& BitVec.ofNat 32 m = BitVec.ofNat 32 _
    rw [BitVec.ofNat_toNat]
    simp
/-! longs -/
theorem ll (n : Nat) : (@OfNat.ofNat Int64 n _) = lN n := by cases n <;> rfl
theorem lToInt {n : Nat} (h : n < 9223372036854775808) : (lN n).toInt = (n : Int) := by
  show (Int64.ofNat n).toInt = _
  rw [Int64.toInt_ofNat', show Int64.size = 18446744073709551616 from rfl]
  exact bm64 h
theorem lEq {a b : Nat} (ha : a < 9223372036854775808) (hb : b < 9223372036854775808) : (lN a = lN b) = (a = b) := by
  rw [eq_iff_iff, ← Int64.toInt_inj, lToInt ha, lToInt hb]
  omega
theorem lLe {a b : Nat} (ha : a < 9223372036854775808) (hb : b < 9223372036854775808) : (lN a ≤ lN b) = (a ≤ b) := by
  rw [eq_iff_iff, Int64.le_iff_toInt_le, lToInt ha, lToInt hb]
  omega
theorem lLt {a b : Nat} (ha : a < 9223372036854775808) (hb : b < 9223372036854775808) : (lN a < lN b) = (a < b) := by
  rw [eq_iff_iff, Int64.lt_iff_toInt_lt, lToInt ha, lToInt hb]
  omega
theorem lDiv {a b : Nat} (ha : a < 9223372036854775808) (hb : b < 9223372036854775808) : lN a / lN b = lN (a / b) := by
  apply Int64.toInt_inj.mp
  have h1 : a / b ≤ a := Nat.div_le_self a b
  rw [Int64.toInt_div, lToInt ha, lToInt hb, lToInt (by omega)]
  have : Int.tdiv (a : Int) (b : Int) = ((a / b : Nat) : Int) := by
    rw [Int.tdiv_eq_ediv_of_nonneg (by omega)]
    rfl
  rw [this]
  exact bm64 (by omega)
theorem lRem {a b : Nat} (ha : a < 9223372036854775808) (hb : b < 9223372036854775808) : remL (lN a) (lN b) = lN (a % b) := by
  unfold remL
  have h1 : a / b * b ≤ a := Nat.div_mul_le_self a b
  rw [lDiv ha hb, lN_mul, lN_sub h1]
  congr 1
  have := Nat.div_add_mod a b
  rw [Nat.mul_comm] at this
  omega
theorem lMin {a b : Nat} (ha : a < 9223372036854775808) (hb : b < 9223372036854775808) : minL (lN a) (lN b) = lN (min a b) := by
  simp only [minL, lLt hb ha]
  split
  · rw [Nat.min_eq_right (by omega)]
  · rw [Nat.min_eq_left (by omega)]
/-- an int: below 0, or a number -/
theorem i32_cases (x : Int32) : x < 0 ∨ ∃ j : Nat, j < 2147483648 ∧ x = nI j := by
  by_cases h : x < 0
  · exact Or.inl h
  · exact Or.inr (nI_of h)
theorem neg_lt {x : Int32} (h : x < 0) {b : Nat} (hb : b < 2147483648) : x < nI b := by
  rw [Int32.lt_iff_toInt_lt] at h ⊢
  rw [nI_toInt hb]
  have : (0 : Int32).toInt = 0 := by decide
  omega
theorem neg_nle {x : Int32} (h : x < 0) {b : Nat} (hb : b < 2147483648) : ¬ nI b ≤ x := Int32.not_le.mpr (neg_lt h hb)
theorem neg_ne {x : Int32} (h : x < 0) {b : Nat} (hb : b < 2147483648) : ¬ x = nI b := fun e => by
  have := neg_lt h hb
  rw [e] at this
  exact Int32.lt_irrefl this
/-! the maps, for simp -/
theorem gI_sIs (σ : Mem) (a k : Nat) (v : Int32) : gI (sI σ a k v) a k = v := by rw [gI_sI, if_pos ⟨rfl, rfl⟩]
theorem gL_sLs (σ : Mem) (a k : Nat) (v : Int64) : gL (sL σ a k v) a k = v := by rw [gL_sL, if_pos ⟨rfl, rfl⟩]
theorem gR_sRs (σ : Mem) (a k : Nat) (v : Option Nat) : gR (sR σ a k v) a k = v := by rw [gR_sR, if_pos ⟨rfl, rfl⟩]
theorem gB_sBs (σ : Mem) (a k : Nat) (v : Bool) : gB (sB σ a k v) a k = v := by rw [gB_sB, if_pos ⟨rfl, rfl⟩]
theorem gI_sIn {σ : Mem} {a k b j : Nat} {v : Int32} (h : ¬ (b = a ∧ j = k)) : gI (sI σ a k v) b j = gI σ b j := by rw [gI_sI, if_neg h]
theorem gL_sLn {σ : Mem} {a k b j : Nat} {v : Int64} (h : ¬ (b = a ∧ j = k)) : gL (sL σ a k v) b j = gL σ b j := by rw [gL_sL, if_neg h]
theorem gR_sRn {σ : Mem} {a k b j : Nat} {v : Option Nat} (h : ¬ (b = a ∧ j = k)) : gR (sR σ a k v) b j = gR σ b j := by rw [gR_sR, if_neg h]
theorem gB_sBn {σ : Mem} {a k b j : Nat} {v : Bool} (h : ¬ (b = a ∧ j = k)) : gB (sB σ a k v) b j = gB σ b j := by rw [gB_sB, if_neg h]
theorem raI_k {σ : Mem} {t a i : Nat} (h : (gT σ a).1 = 100 + t) (hi : i < (gT σ a).2) (hN : i < 2147483648) : raI σ t (some a) (nI i) = some (gI σ a i) := by
  have : ixb σ t a (nI i) = true := ixb_iff.mpr ⟨h, by rw [nI_toInt hN]; omega, by rw [nI_toInt hN]; omega⟩
  simp [raI, this, nI_clamp (show i < 2 ^ 31 by omega)]
theorem raL_k {σ : Mem} {t a i : Nat} (h : (gT σ a).1 = 100 + t) (hi : i < (gT σ a).2) (hN : i < 2147483648) : raL σ t (some a) (nI i) = some (gL σ a i) := by
  have : ixb σ t a (nI i) = true := ixb_iff.mpr ⟨h, by rw [nI_toInt hN]; omega, by rw [nI_toInt hN]; omega⟩
  simp [raL, this, nI_clamp (show i < 2 ^ 31 by omega)]
theorem raR_k {σ : Mem} {t a i : Nat} (h : (gT σ a).1 = 100 + t) (hi : i < (gT σ a).2) (hN : i < 2147483648) : raR σ t (some a) (nI i) = some (gR σ a i) := by
  have : ixb σ t a (nI i) = true := ixb_iff.mpr ⟨h, by rw [nI_toInt hN]; omega, by rw [nI_toInt hN]; omega⟩
  simp [raR, this, nI_clamp (show i < 2 ^ 31 by omega)]
theorem raB_k {σ : Mem} {t a i : Nat} (h : (gT σ a).1 = 100 + t) (hi : i < (gT σ a).2) (hN : i < 2147483648) : raB σ t (some a) (nI i) = some (gB σ a i) := by
  have : ixb σ t a (nI i) = true := ixb_iff.mpr ⟨h, by rw [nI_toInt hN]; omega, by rw [nI_toInt hN]; omega⟩
  simp [raB, this, nI_clamp (show i < 2 ^ 31 by omega)]
theorem waI_k {σ : Mem} {t a i : Nat} {v : Int32} (h : (gT σ a).1 = 100 + t) (hi : i < (gT σ a).2) (hN : i < 2147483648) : waI σ t (some a) (nI i) v = some (sI σ a i v) := by
  have : ixb σ t a (nI i) = true := ixb_iff.mpr ⟨h, by rw [nI_toInt hN]; omega, by rw [nI_toInt hN]; omega⟩
  simp [waI, this, nI_clamp (show i < 2 ^ 31 by omega)]
theorem waL_k {σ : Mem} {t a i : Nat} {v : Int64} (h : (gT σ a).1 = 100 + t) (hi : i < (gT σ a).2) (hN : i < 2147483648) : waL σ t (some a) (nI i) v = some (sL σ a i v) := by
  have : ixb σ t a (nI i) = true := ixb_iff.mpr ⟨h, by rw [nI_toInt hN]; omega, by rw [nI_toInt hN]; omega⟩
  simp [waL, this, nI_clamp (show i < 2 ^ 31 by omega)]
theorem waB_k {σ : Mem} {t a i : Nat} {v : Bool} (h : (gT σ a).1 = 100 + t) (hi : i < (gT σ a).2) (hN : i < 2147483648) : waB σ t (some a) (nI i) v = some (sB σ a i v) := by
  have : ixb σ t a (nI i) = true := ixb_iff.mpr ⟨h, by rw [nI_toInt hN]; omega, by rw [nI_toInt hN]; omega⟩
  simp [waB, this, nI_clamp (show i < 2 ^ 31 by omega)]
theorem waR_k {σ : Mem} {t ci a i b : Nat} (h : (gT σ a).1 = 100 + t) (hi : i < (gT σ a).2) (hN : i < 2147483648) (hv : (gT σ b).1 = ci) : waR σ t ci (some a) (nI i) (some b) = some (sR σ a i (some b)) := by
  have : ixb σ t a (nI i) = true := ixb_iff.mpr ⟨h, by rw [nI_toInt hN]; omega, by rw [nI_toInt hN]; omega⟩
  simp [waR, this, nI_clamp (show i < 2 ^ 31 by omega), okR, hv]
theorem alen_k {σ : Mem} {t a : Nat} (h : (gT σ a).1 = 100 + t) : alen σ t (some a) = some (nI (gT σ a).2) := by simp [alen, h, nI]
/-! loops -/
/-- the first place from i on, at most k further, where p fails -/
def run (p : Nat → Bool) : Nat → Nat → Nat
  | 0, i => i
  | k + 1, i => if p i = true then run p k (i + 1) else i
theorem run_ge (p : Nat → Bool) : ∀ k i, i ≤ run p k i ∧ run p k i ≤ i + k
  | 0, i => ⟨Nat.le_refl _, Nat.le_refl _⟩
  | k + 1, i => by
    unfold run
    split
    · have := run_ge p k (i + 1); omega
    · omega
theorem run_in (p : Nat → Bool) : ∀ k i j, i ≤ j → j < run p k i → p j = true
  | 0, i, j, h1, h2 => by unfold run at h2; omega
  | k + 1, i, j, h1, h2 => by
    unfold run at h2
    by_cases h : p i = true
    · rw [if_pos h] at h2
      by_cases e : j = i
      · rw [e]; exact h
      · exact run_in p k (i + 1) j (by omega) h2
    · rw [if_neg h] at h2
      omega
theorem run_out (p : Nat → Bool) : ∀ k i, run p k i < i + k → p (run p k i) = false
  | 0, i, h => by unfold run at h; omega
  | k + 1, i, h => by
    unfold run at h ⊢
    by_cases e : p i = true
    · rw [if_pos e] at h ⊢
      exact run_out p k (i + 1) (by omega)
    · rw [if_neg e]
      exact Bool.eq_false_iff.mpr e
theorem run_eq {p : Nat → Bool} {k i r : Nat} (h1 : i ≤ r) (h2 : r ≤ i + k) (h3 : ∀ j, i ≤ j → j < r → p j = true) (h4 : r < i + k → p r = false) : run p k i = r := by
  have a1 := run_ge p k i
  rcases Nat.lt_trichotomy (run p k i) r with h | h | h
  · have := run_out p k i (by omega)
    rw [h3 _ (by omega) h] at this
    cases this
  · exact h
  · have := run_in p k i r h1 h
    rw [h4 (by omega)] at this
    cases this
/-- a loop that looks for the first place -/
theorem lp_run {β : Type} {f : Int32 → Option (Int32 ⊕ β)} {p : Nat → Bool} {b : β} (k i : Nat) (hs : ∀ j, i ≤ j → j < i + k → p j = true → f (nI j) = some (.inl (nI (j + 1)))) (he : f (nI (run p k i)) = some (.inr b)) : lp f (nI i) = some b := by
  have h1 := run_ge p k i
  have := lp_seq (f := f) (fun j => nI (i + j)) (m := run p k i - i) (b := b) (fun j hj => hs (i + j) (by omega) (by omega) (run_in p k i _ (by omega) (by omega))) (by rw [Nat.add_sub_cancel' h1.1]; exact he)
  exact this
/-- sums and counts below a number -/
def sN (c : Nat → Nat) : Nat → Nat
  | 0 => 0
  | n + 1 => sN c n + c n
def cN (p : Nat → Bool) (n : Nat) : Nat := sN (fun i => if p i = true then 1 else 0) n
theorem sN_le {c : Nat → Nat} {M : Nat} (h : ∀ i, c i ≤ M) : ∀ n, sN c n ≤ n * M
  | 0 => by simp [sN]
  | n + 1 => by
    have := sN_le h n
    have := h n
    rw [sN, Nat.succ_mul]
    omega
theorem sN_congr {c d : Nat → Nat} : ∀ n, (∀ i, i < n → c i = d i) → sN c n = sN d n
  | 0, _ => rfl
  | n + 1, h => by
    rw [sN, sN, sN_congr n (fun i hi => h i (by omega)), h n (by omega)]
theorem cN_le (p : Nat → Bool) (n : Nat) : cN p n ≤ n := by
  have := sN_le (c := fun i => if p i = true then 1 else 0) (M := 1) (fun i => by split <;> omega) n
  unfold cN
  omega
theorem cN_s (p : Nat → Bool) (n : Nat) : cN p (n + 1) = cN p n + (if p n = true then 1 else 0) := rfl
theorem cN_congr {p q : Nat → Bool} (n : Nat) (h : ∀ i, i < n → p i = q i) : cN p n = cN q n := sN_congr n (fun i hi => by rw [h i hi])
/-- a loop that adds up: counter and sum -/
theorem lp_sum {β : Type} {f : Int32 × Int32 → Option ((Int32 × Int32) ⊕ β)} {c : Nat → Nat} {b : β} (k i0 : Nat) (hs : ∀ j, j < k → f (nI (sN c j), nI (i0 + j)) = some (.inl (nI (sN c j + c j), nI (i0 + j + 1)))) (he : f (nI (sN c k), nI (i0 + k)) = some (.inr b)) : lp f (nI 0, nI i0) = some b :=
  lp_seq (f := f) (fun j => (nI (sN c j), nI (i0 + j))) (m := k) (b := b) (fun j hj => hs j hj) he
