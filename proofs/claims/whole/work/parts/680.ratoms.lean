/-! the reference's parser: numbers, ranges, fields -/
def wFl : Nat → Nat → Nat → Prop := fun t c j => t = 0 ∧ c = 0 ∧ 40 ≤ j ∧ j ≤ 45
theorem wRd_wFl : ∀ t c j, wRd t c j → wFl t c j := fun t c j z => by unfold wRd at z; unfold wFl; omega
theorem rp_fl {R : RS} {v : Int32} : Rp wFl R (pI R 45 v) := Rp.pI ⟨rfl, rfl, by decide, by decide⟩
theorem fl45 {R : RS} {v : Int32} : (pI R 45 v).1 0 45 = v := by simp only [pI, pL, pB, up2_s, up2_ne]
theorem nI_n1 {a : Nat} (h : a < 2147483648) : nI a ≠ -1 := fun z => by
  have e : (nI a = -nI 1) = False := iEqN h (by omega)
  have z : nI a = -nI 1 := z
  rw [e] at z
  exact z
