/-! reading the text -/
theorem here_lt {tl ati r : Int32} {zt : Nat → Int32} (hr : r = m_here tl ati zt) (c : r = 32) : ati.toNatClampNeg < tl.toNatClampNeg := by
  unfold m_here at hr
  by_cases q : tl.toNatClampNeg ≤ ati.toNatClampNeg
  · rw [if_pos q] at hr
    rw [hr] at c
    exact absurd c (by decide)
  · omega
theorem sg_step {a n : Nat} (h : a < 80) (h2 : 80 < a + (n + 1)) : nI (a + 1) = nI (nI (a + 1)).toNatClampNeg ∧ (nI (a + 1)).toNatClampNeg ≤ 80 ∧ 80 < (nI (a + 1)).toNatClampNeg + n := by
  have e : (nI (a + 1)).toNatClampNeg = a + 1 := nI_clamp (by omega)
  rw [e]
  exact ⟨rfl, by omega, by omega⟩

