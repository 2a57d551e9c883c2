theorem add_gR {go gc ti ki va : Int32} {gt gk gv : Nat → Int32} {u : Int32 × Int32 × (Nat → Int32) × (Nat → Int32) × (Nat → Int32)} (hu : u = x_X3_add go gc gt gk gv ti ki va) (h : gR go gc) : gR u.1 u.2.1 := by
  rw [hu]
  unfold x_X3_add
  simp only [spLet_x]
  have e30 : ((30 : Int32)).toInt = 30 := by decide
  split
  · rename_i c
    obtain ⟨h1, h2⟩ := slotOf_n (b := 1) h.1 (by decide)
    refine ⟨?_, h.2⟩
    show 0 ≤ (x_X3_slotOf go 1).toInt ∧ (x_X3_slotOf go 1).toInt < 30
    rw [h1, nI_toInt (by omega)]
    omega
  · rename_i c
    have c2 : ¬ 30 ≤ gc.toInt := fun k => c (Int32.le_iff_toInt_le.mpr (by rw [e30]; exact k))
    refine ⟨h.1, ?_⟩
    show 0 ≤ (gc + 1).toInt ∧ (gc + 1).toInt ≤ 30
    rw [zadd rfl (show ((1 : Int32)).toInt = 1 by decide) (by have := h.2; omega) (by have := h.2; omega)]
    have := h.2
    omega

