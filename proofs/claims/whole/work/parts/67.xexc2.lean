theorem okN_no {p mos : Int32} {k : Nat} (ep : p = (3 : Int32) <<< (nI k &&& 31)) (h : ¬ mos &&& p = p) : ¬ oppo mos k := fun q => h (by rw [ep]; exact q)
theorem okN_yes {p mos : Int32} {k : Nat} (ep : p = (3 : Int32) <<< (nI k &&& 31)) (h : mos &&& p = p) : oppo mos k := by rw [ep] at h; exact h
abbrev okNi (mos : Int32) (k n : Nat) : Prop := k ≤ 8 ∧ k % 2 = 0 ∧ (∀ j, j < k → j % 2 = 0 → ¬ oppo mos j) ∧ 8 < k + 2 * n
theorem okN_bad {mos : Int32} {k n : Nat} (hi : okNi mos k n) (hk : k < 8) (h : oppo mos k) : ¬ okN mos := fun q => q k (by
  have := hi.2.1
  rcases (show k = 0 ∨ k = 2 ∨ k = 4 ∨ k = 6 by omega) with rfl | rfl | rfl | rfl <;> decide) h
theorem okN_step {mos : Int32} {k n : Nat} (hi : okNi mos k (n + 1)) (hk : k < 8) (h : ¬ oppo mos k) : okNi mos (k + 2) n := by
  obtain ⟨h1, h2, h3, h4⟩ := hi
  refine ⟨by omega, by omega, fun j hj hj2 => ?_, by omega⟩
  by_cases e : j < k
  · exact h3 j e hj2
  · rw [show j = k by omega]; exact h
theorem okN_end {mos : Int32} {k n : Nat} (hi : okNi mos k n) (hk : 8 ≤ k) : okN mos := fun j hj => hi.2.2.1 j (by
  simp only [List.mem_cons, List.not_mem_nil, or_false] at hj
  omega) (by
  simp only [List.mem_cons, List.not_mem_nil, or_false] at hj
  omega)

