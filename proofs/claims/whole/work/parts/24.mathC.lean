/-! a tick's single values -/
theorem fol13 {w : Nat → Int32} (h : mG w) (u : Int32) : mlo 13 ≤ (m_greater (w 13) u).toInt ∧ (m_greater (w 13) u).toInt ≤ mhi 13 := by
  have c := h.c13
  have r := fb_rng (m_greater (w 13) u)
  have e := greater_r (w 13) u
  exact ⟨by show (0 : Int) ≤ _; omega, by show _ ≤ (2147483647 : Int); omega⟩
theorem fol_its {w : Nat → Int32} (h : mG w) : m_lesser 7 (w 13 / 125) = nI (m_lesser 7 (w 13 / 125)).toNatClampNeg ∧ (m_lesser 7 (w 13 / 125)).toNatClampNeg < 8 := by
  have c := h.c13
  have e : (m_lesser 7 (w 13 / 125)).toInt = min 7 ((w 13).toInt / 125) := by
    rw [lesser_r, zdiv rfl (show ((125 : Int32)).toInt = 125 by decide) c.1 (by omega)]
    rfl
  have b := nI_cl (a := m_lesser 7 (w 13 / 125)) (by omega)
  exact ⟨b.1, by omega⟩
theorem tick9 {w : Nat → Int32} (h : mG w) : mlo 9 ≤ (m_greater 0 (w 9 - 1)).toInt ∧ (m_greater 0 (w 9 - 1)).toInt ≤ mhi 9 := by
  have c := h.c9
  have z0 : ((0 : Int32)).toInt = 0 := by decide
  have e : (m_greater 0 (w 9 - 1)).toInt = max 0 ((w 9).toInt - 1) := by
    rw [greater_r, zsub rfl (show ((1 : Int32)).toInt = 1 by decide) (by omega) (by omega), z0]
  exact ⟨by show (0 : Int) ≤ _; omega, by show _ ≤ (1000 : Int); omega⟩
theorem nextState_v (zs : Nat → Int32) (u : Int32) : m_nextState zs u = 0 ∨ m_nextState zs u = 1 ∨ m_nextState zs u = 2 ∨ m_nextState zs u = 3 := by
  unfold m_nextState m_nextState_j39 m_nextState_j61 m_nextState_j66
  repeat' split
  all_goals first | exact Or.inl rfl | exact Or.inr (Or.inl rfl) | exact Or.inr (Or.inr (Or.inl rfl)) | exact Or.inr (Or.inr (Or.inr rfl))
theorem nextState_m (zs : Nat → Int32) (u : Int32) : mlo 7 ≤ (m_nextState zs u).toInt ∧ (m_nextState zs u).toInt ≤ mhi 7 := by
  rcases nextState_v zs u with h | h | h | h <;> rw [h] <;> exact ⟨by decide, by decide⟩
theorem nextState_n (zs : Nat → Int32) (u : Int32) : m_nextState zs u = nI (m_nextState zs u).toNatClampNeg ∧ (m_nextState zs u).toNatClampNeg < 4 := by
  rcases nextState_v zs u with h | h | h | h <;> rw [h] <;> exact ⟨by decide, by decide⟩

