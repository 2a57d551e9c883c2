abbrev roT : Type := Int32 × Int32 × Int32 × (Nat → Int32) × (Nat → Int32)
def roP (a : Int32) (u : roT) : Prop := aG u.2.1 ∧ u.2.2.1 = nI u.2.2.1.toNatClampNeg ∧ 3 * u.2.2.1.toNatClampNeg ≤ u.2.1.toNatClampNeg ∧ a.toNatClampNeg ≤ u.2.1.toNatClampNeg ∧ (¬ u.1 = 0 → a.toNatClampNeg + 1 ≤ u.2.1.toNatClampNeg)
theorem ro_j81 {tl a o b v : Int32} {zt zm zk : Nat → Int32} (h80 : tl.toNatClampNeg ≤ 80) (ho : o = nI o.toNatClampNeg) (h3 : 3 * o.toNatClampNeg ≤ a.toNatClampNeg) (hb : aG b) (h1 : a.toNatClampNeg + 1 ≤ b.toNatClampNeg) : roP a (m_readsOrder_j81 tl o zt zm zk v b) := by
  have hn := number_q (u := m_number tl b zt) rfl h80 hb.1 hb.2
  have hs := sign_q (u := m_sign tl (m_number tl b zt).2 zt) rfl h80 hn.1.1 hn.1.2
  unfold m_readsOrder_j81 m_readsOrder_j131
  simp only [spLet_x]
  split
  · exact ⟨hn.1, ho, by show 3 * o.toNatClampNeg ≤ (m_number tl b zt).2.toNatClampNeg; omega, by show _ ≤ (m_number tl b zt).2.toNatClampNeg; omega, fun q => absurd rfl q⟩
  · next c =>
    split
    · next c2 =>
      have l := ro_c (k := 59) (by decide) hs.1 rfl c2
      obtain ⟨g, e⟩ := aG.inc (a := (m_sign tl (m_number tl b zt).2 zt).2.toNatClampNeg) (by omega)
      have q := hn.2.2 c
      have eo : (nI (o.toNatClampNeg + 1)).toNatClampNeg = o.toNatClampNeg + 1 := nI_clamp (by have := hb.2; omega)
      have fin : ∀ x y : Nat → Int32, roP a ((1 : Int32), nI ((m_sign tl (m_number tl b zt).2 zt).2.toNatClampNeg + 1), nI (o.toNatClampNeg + 1), x, y) := fun x y => ⟨g, by show nI (o.toNatClampNeg + 1) = nI (nI (o.toNatClampNeg + 1)).toNatClampNeg; rw [eo], by show 3 * (nI (o.toNatClampNeg + 1)).toNatClampNeg ≤ (nI ((m_sign tl (m_number tl b zt).2 zt).2.toNatClampNeg + 1)).toNatClampNeg; rw [eo, e]; omega, by show _ ≤ (nI ((m_sign tl (m_number tl b zt).2 zt).2.toNatClampNeg + 1)).toNatClampNeg; rw [e]; omega, fun _ => by show _ ≤ (nI ((m_sign tl (m_number tl b zt).2 zt).2.toNatClampNeg + 1)).toNatClampNeg; rw [e]; omega⟩
      split <;> exact fin _ _
    · exact ⟨hs.2.1, ho, by show 3 * o.toNatClampNeg ≤ (m_sign tl (m_number tl b zt).2 zt).2.toNatClampNeg; omega, by show _ ≤ (m_sign tl (m_number tl b zt).2 zt).2.toNatClampNeg; omega, fun q => absurd rfl q⟩
theorem readsOrder_q {tl a o : Int32} {zt zm zk : Nat → Int32} {u : roT} (hu : u = m_readsOrder tl a o zt zm zk) (h80 : tl.toNatClampNeg ≤ 80) (ha : aG a) (ho : o = nI o.toNatClampNeg) (h3 : 3 * o.toNatClampNeg ≤ a.toNatClampNeg) : roP a u := by
  have hs := sign_q (u := m_sign tl a zt) rfl h80 ha.1 ha.2
  have fail0 : ∀ b : Int32, aG b → a.toNatClampNeg ≤ b.toNatClampNeg → roP a ((0 : Int32), b, o, zm, zk) := fun b hb h => ⟨hb, ho, by show 3 * o.toNatClampNeg ≤ b.toNatClampNeg; omega, h, fun q => absurd rfl q⟩
  have j23 : ∀ r, (m_sign tl a zt).2.toNatClampNeg < tl.toNatClampNeg → roP a (m_readsOrder_j23 tl o zt zm zk (m_sign tl a zt) r) := by
    intro r l
    obtain ⟨g, e⟩ := aG.inc (a := (m_sign tl a zt).2.toNatClampNeg) (by omega)
    have hs2 := sign_q (u := m_sign tl (nI ((m_sign tl a zt).2.toNatClampNeg + 1)) zt) rfl h80 g.1 g.2
    have j57 : ∀ x, (m_sign tl (nI ((m_sign tl a zt).2.toNatClampNeg + 1)) zt).2.toNatClampNeg < tl.toNatClampNeg → roP a (m_readsOrder_j57 tl o zt zm zk r (m_sign tl (nI ((m_sign tl a zt).2.toNatClampNeg + 1)) zt) x) := by
      intro x l2
      obtain ⟨g2, e2⟩ := aG.inc (a := (m_sign tl (nI ((m_sign tl a zt).2.toNatClampNeg + 1)) zt).2.toNatClampNeg) (by omega)
      unfold m_readsOrder_j57 m_readsOrder_j69
      simp only [spLet_x]
      split <;> exact ro_j81 h80 ho h3 g2 (by omega)
    unfold m_readsOrder_j23
    simp only [spLet_x]
    split
    · exact ro_j81 h80 ho h3 g (by omega)
    · split
      · next c => exact j57 _ (ro_c (k := 43) (by decide) hs2.1 rfl c)
      · split
        · next c => exact j57 _ (ro_c (k := 45) (by decide) hs2.1 rfl c)
        · exact fail0 _ hs2.2.1 (by omega)
  rw [hu]
  unfold m_readsOrder
  simp only [spLet_x]
  split
  · split
    · next c => exact j23 _ (ro_c (k := 119) (by decide) hs.1 rfl c)
    · exact fail0 _ hs.2.1 hs.2.2
  · next c => exact j23 _ (ro_1 hs.1 rfl rfl c)
def rF (v : Int32) (a n : Nat) : Prop := (v = 0 → 0 < n) ∧ (¬ v = 0 → 81 < a + n)
theorem rF_0 {v : Int32} {a : Nat} (h : rF v a 0) (ha : a ≤ 80) : False := by
  by_cases q : v = 0
  · exact absurd (h.1 q) (by omega)
  · have := h.2 q
    omega
theorem rF_s {v x : Int32} {a b c n : Nat} (h : rF v a (n + 1)) (hv : ¬ v = 0) (ha : a ≤ 80) (hab : a ≤ b) (hc : ¬ x = 0 → b + 1 ≤ c) : rF x c n := by
  have := h.2 hv
  exact ⟨fun _ => by omega, fun q => by have := hc q; omega⟩

