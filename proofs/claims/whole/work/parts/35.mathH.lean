theorem un_n {svc x : Int32} (hs : svc = nI svc.toNatClampNeg) (h4 : svc.toNatClampNeg ≤ 4) (c : ¬ svc.toNatClampNeg = 0) (ex : x = svc - 1) : x = nI x.toNatClampNeg ∧ x.toNatClampNeg ≤ 3 := by
  have e : x = nI (svc.toNatClampNeg - 1) := by rw [ex]; exact nsub hs rfl (by omega)
  have e2 : x.toNatClampNeg = svc.toNatClampNeg - 1 := by rw [e]; exact nI_clamp (by omega)
  refine ⟨by rw [e2]; exact e, by omega⟩

