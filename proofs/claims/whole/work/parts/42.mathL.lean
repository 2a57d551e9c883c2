theorem ro_1 {tl a h x r : Int32} {zt : Nat → Int32} (hh : h = m_here tl a zt) (ex : x = h) (hr : r = m_firstMotion x) (c : ¬ r = -1) : a.toNatClampNeg < tl.toNatClampNeg := by
  refine here_in hh (fun q => c ?_)
  rw [hr, ex, q]
  decide
theorem ro_c {tl a h x k : Int32} {zt : Nat → Int32} (hk : ¬ k = -1) (hh : h = m_here tl a zt) (ex : x = h) (c : x = k) : a.toNatClampNeg < tl.toNatClampNeg := here_in hh (fun q => hk (by rw [← c, ex, q]))

