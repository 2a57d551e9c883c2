theorem isPlace_n {t ro co r : Int32} (hr : r = m_isPlace t ro co) (h : ¬ r = 0) : t = nI t.toNatClampNeg ∧ t.toNatClampNeg < 4 ∧ ro = nI ro.toNatClampNeg ∧ ro.toNatClampNeg < 4 ∧ co = nI co.toNatClampNeg ∧ co.toNatClampNeg < 6 := by
  unfold m_isPlace at hr
  simp only [spLet_x] at hr
  by_cases q1 : m_in t 0 3 = 0
  · rw [if_pos q1] at hr; exact absurd hr h
  · rw [if_neg q1] at hr
    by_cases q2 : m_in ro 0 3 = 0
    · rw [if_pos q2] at hr; exact absurd hr h
    · rw [if_neg q2] at hr
      by_cases q3 : m_in co 0 5 = 0
      · rw [if_pos q3] at hr; exact absurd hr h
      · obtain ⟨a1, a2⟩ := in_n (n := 3) (by decide) rfl q1
        obtain ⟨b1, b2⟩ := in_n (n := 3) (by decide) rfl q2
        obtain ⟨c1, c2⟩ := in_n (n := 5) (by decide) rfl q3
        exact ⟨a1, by omega, b1, by omega, c1, by omega⟩
theorem rz_n {zs : Nat → Int32} {ix r : Int32} (hz : zs 18 = nI (zs 18).toNatClampNeg) (hr : r = m_in ix 0 (zs 18 - 1)) (h : ¬ r = 0) : ix = nI ix.toNatClampNeg ∧ ix.toNatClampNeg < (zs 18).toNatClampNeg := by
  obtain ⟨h1, h2⟩ := in_t hr h
  have z : ((0 : Int32)).toInt = 0 := by decide
  have b := nI_cl (a := ix) (by omega)
  have hn : (zs 18).toNatClampNeg < 2 ^ 31 := by
    have := fb_rng (zs 18)
    have e : (zs 18).toNatClampNeg = (zs 18).toInt.toNat := rfl
    omega
  have e2 : (zs 18).toInt = (zs 18).toNatClampNeg := by rw [hz]; rw [nI_toInt hn, nI_clamp hn]
  have e3 : (zs 18 - 1).toInt = (zs 18).toInt - 1 := zsub rfl (show ((1 : Int32)).toInt = 1 by decide) (by omega) (by omega)
  exact ⟨b.1, by omega⟩
theorem rz_i {zs f : Nat → Int32} {x : Int32} {n : Nat} (ef : f = upd zs 18 x) (ex : x = zs 18 - 1) (hz : zs 18 = nI (zs 18).toNatClampNeg) (h : n < (zs 18).toNatClampNeg) : f 18 = nI ((zs 18).toNatClampNeg - 1) := by
  rw [ef, pk_us, ex]
  exact nsub hz rfl (by omega)
theorem sb_z {zs a b c d : Nat → Int32} {x y z w : Int32} (ea : a = upd zs 0 x) (eb : b = upd a 1 y) (ec : c = upd b 2 z) (ed : d = upd c 3 w) (h : mG zs) : d 18 = nI (d 18).toNatClampNeg ∧ (d 18).toNatClampNeg ≤ 6 := by
  have e : d 18 = zs 18 := by rw [ed, pk_un (by omega), ec, pk_un (by omega), eb, pk_un (by omega), ea, pk_un (by omega)]
  rw [e]
  exact h.zones
theorem colR0 (x : Int32) : ¬ m_columnRadius x = 0 := by
  unfold m_columnRadius
  repeat' split
  all_goals decide

