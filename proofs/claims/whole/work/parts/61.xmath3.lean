theorem enter_gR {nst nti go gc sta ut : Int32} {gt gk gv : Nat → Int32} {u : Int32 × Int32 × Int32 × (Nat → Int32) × (Nat → Int32) × (Nat → Int32)} (hu : u = x_X8_enterState nst nti go gc gt gk gv sta ut) (h : gR go gc) : gR u.2.1 u.2.2.1 := by
  rw [hu]
  unfold x_X8_enterState
  simp only [spLet_x]
  split
  · exact h
  · split
    · exact add_gR rfl (add_gR rfl h)
    · exact add_gR rfl h

