/-! THE JUDGEMENT: V Γ M σ0 r σ pc L st: a method M, begun at the memory σ0, now at pc with the memory σ, the locals L and the stack st, comes to its end with r (answer and memory) -/
abbrev W0 : Type := va_G × (Nat → ClassId) × Nat × (Nat → Nat) × (Nat → Nat) × (Nat × Nat × (Nat → Int32))
/-- own class, code, locals, return type, a constructor, frames, words of locals -/
abbrev MD : Type := String × ByteArray × Nat × Option FieldType × Bool × Nat × Nat
def cnN (ci : Nat) : String := match ci with
  | 0 => RX0
  | 1 => RX1
  | 2 => RX2
  | 3 => RX3
  | 4 => RX4
  | 5 => RX5
  | 6 => RX6
  | 7 => RX7
  | 8 => RX8
  | 9 => RX9
  | 10 => RX10
  | 11 => RX11
  | _ => RX12
def cnT (ci : Nat) : u_T := match ci with
  | 0 => TX0
  | 1 => TX1
  | 2 => TX2
  | 3 => TX3
  | 4 => TX4
  | 5 => TX5
  | 6 => TX6
  | 7 => TX7
  | 8 => TX8
  | 9 => TX9
  | 10 => TX10
  | 11 => TX11
  | _ => TX12
theorem ci_all {P : Nat → Prop} (h0 : P 0) (h1 : P 1) (h2 : P 2) (h3 : P 3) (h4 : P 4) (h5 : P 5) (h6 : P 6) (h7 : P 7) (h8 : P 8) (h9 : P 9) (h10 : P 10) (h11 : P 11) (h12 : P 12) (ci : Nat) (h : ci < 13) : P ci := by
  match ci, h with
  | 0, _ => exact h0
  | 1, _ => exact h1
  | 2, _ => exact h2
  | 3, _ => exact h3
  | 4, _ => exact h4
  | 5, _ => exact h5
  | 6, _ => exact h6
  | 7, _ => exact h7
  | 8, _ => exact h8
  | 9, _ => exact h9
  | 10, _ => exact h10
  | 11, _ => exact h11
  | 12, _ => exact h12
  | n + 13, h => exact absurd h (by omega)
theorem vw_get (ci : Nat) (h : ci < 13) : vwCl[ci]? = some (cnN ci, cnT ci, fN ci) := ci_all (P := fun ci => vwCl[ci]? = some (cnN ci, cnT ci, fN ci)) rfl rfl rfl rfl rfl rfl rfl rfl rfl rfl rfl rfl rfl ci h
theorem vw_nm (ci : Nat) (h : ci < 13) : ∀ a, a < fN ci → ∀ b, b < fN ci → a ≠ b → (cnT ci a).2.1 ≠ (cnT ci b).2.1 := ci_all (P := fun ci => ∀ a, a < fN ci → ∀ b, b < fN ci → a ≠ b → (cnT ci a).2.1 ≠ (cnT ci b).2.1) nmX0 nmX1 nmX2 nmX3 nmX4 nmX5 nmX6 nmX7 nmX8 nmX9 nmX10 nmX11 nmX12 ci h
theorem vw_ty (ci : Nat) (h : ci < 13) : ∀ k, k < fN ci → parseFieldDescriptor (cnT ci k).2.2.1 = some (fTy ci k) := ci_all (P := fun ci => ∀ k, k < fN ci → parseFieldDescriptor (cnT ci k).2.2.1 = some (fTy ci k)) tyX0_ok tyX1_ok tyX2_ok tyX3_ok tyX4_ok tyX5_ok tyX6_ok tyX7_ok tyX8_ok tyX9_ok tyX10_ok tyX11_ok tyX12_ok ci h
theorem gw_mem {w : Cond} (i : Nat) (h : lw_tbl[i]? = some w) (g : goodWord w = true) : w ∈ GW := List.mem_filter.mpr ⟨List.mem_of_getElem? h, g⟩
theorem gw_good {w : Cond} (h : w ∈ GW) : (w.onTables && w.keeps) = true ∨ ∃ ty, w = .arrayClass ty := good_of_word (List.mem_filter.mp h).2
theorem vw_in0 : ∀ w ∈ u_ws RX0 TX0 5, w ∈ GW := by decide +kernel
theorem vw_in1 : ∀ w ∈ u_ws RX1 TX1 7, w ∈ GW := by decide +kernel
theorem vw_in2 : ∀ w ∈ u_ws RX2 TX2 8, w ∈ GW := by decide +kernel
theorem vw_in3 : ∀ w ∈ u_ws RX3 TX3 7, w ∈ GW := by decide +kernel
theorem vw_in4 : ∀ w ∈ u_ws RX4 TX4 15, w ∈ GW := by decide +kernel
theorem vw_in5 : ∀ w ∈ u_ws RX5 TX5 2, w ∈ GW := by decide +kernel
theorem vw_in6 : ∀ w ∈ u_ws RX6 TX6 4, w ∈ GW := by decide +kernel
theorem vw_in7 : ∀ w ∈ u_ws RX7 TX7 3, w ∈ GW := by decide +kernel
theorem vw_in8 : ∀ w ∈ u_ws RX8 TX8 4, w ∈ GW := by decide +kernel
theorem vw_in9 : ∀ w ∈ u_ws RX9 TX9 7, w ∈ GW := by decide +kernel
theorem vw_in10 : ∀ w ∈ u_ws RX10 TX10 2, w ∈ GW := by decide +kernel
theorem vw_in11 : ∀ w ∈ u_ws RX11 TX11 15, w ∈ GW := by decide +kernel
theorem vw_in12 : ∀ w ∈ u_ws RX12 TX12 71, w ∈ GW := by decide +kernel
