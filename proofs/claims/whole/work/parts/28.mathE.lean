theorem keep_j {svc x : Int32} (ex : x = svc - 1) (hs : svc = nI svc.toNatClampNeg) (h4 : svc.toNatClampNeg = 4) : x = nI x.toNatClampNeg ∧ x.toNatClampNeg < 4 := by
  have e : x = nI 3 := by
    rw [ex, hs, h4]
    decide
  rw [e]
  exact ⟨by decide, by decide⟩
/-- a test of a range that came out true, false -/
theorem in_t {v lo hi r : Int32} (hr : r = m_in v lo hi) (h : ¬ r = 0) : lo.toInt ≤ v.toInt ∧ v.toInt ≤ hi.toInt := by
  unfold m_in at hr
  by_cases q : v < lo
  · rw [if_pos q] at hr; exact absurd hr h
  · rw [if_neg q] at hr
    by_cases q2 : hi < v
    · rw [if_pos q2] at hr; exact absurd hr h
    · have h1 : ¬ v.toInt < lo.toInt := fun z => q (Int32.lt_iff_toInt_lt.mpr z)
      have h2 : ¬ hi.toInt < v.toInt := fun z => q2 (Int32.lt_iff_toInt_lt.mpr z)
      omega
theorem in_n {v hi r : Int32} {n : Nat} (hn : hi.toInt = n) (hr : r = m_in v 0 hi) (h : ¬ r = 0) : v = nI v.toNatClampNeg ∧ v.toNatClampNeg ≤ n := by
  obtain ⟨h1, h2⟩ := in_t hr h
  have z : ((0 : Int32)).toInt = 0 := by decide
  have b := nI_cl (a := v) (by omega)
  exact ⟨b.1, by omega⟩

