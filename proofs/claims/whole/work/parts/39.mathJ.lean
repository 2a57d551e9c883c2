theorem here_ge {tl a : Int32} {zt : Nat → Int32} (h : tl.toNatClampNeg ≤ a.toNatClampNeg) : m_here tl a zt = -1 := by
  unfold m_here
  rw [if_pos h]
theorem here_in {tl a h : Int32} {zt : Nat → Int32} (hr : h = m_here tl a zt) (c : ¬ h = -1) : a.toNatClampNeg < tl.toNatClampNeg := by
  by_cases q : tl.toNatClampNeg ≤ a.toNatClampNeg
  · rw [here_ge q] at hr; exact absurd hr c
  · omega
def aG (a : Int32) : Prop := a = nI a.toNatClampNeg ∧ a.toNatClampNeg ≤ 80
theorem aG.inc {a : Nat} (h : a < 80) : aG (nI (a + 1)) ∧ (nI (a + 1)).toNatClampNeg = a + 1 := by
  have e : (nI (a + 1)).toNatClampNeg = a + 1 := nI_clamp (by omega)
  refine ⟨⟨by rw [e], by omega⟩, e⟩
theorem sign_p {tl : Int32} {zt : Nat → Int32} (h80 : tl.toNatClampNeg ≤ 80) : ∀ (n : Nat) (a : Int32), aG a → 80 < a.toNatClampNeg + n → (spIter (fun _ => default) (m_sign_b0 tl zt) n a).1 = m_here tl (spIter (fun _ => default) (m_sign_b0 tl zt) n a).2 zt ∧ aG (spIter (fun _ => default) (m_sign_b0 tl zt) n a).2 ∧ a.toNatClampNeg ≤ (spIter (fun _ => default) (m_sign_b0 tl zt) n a).2.toNatClampNeg := by
  intro n
  induction n with
  | zero => intro a ha h; have := ha.2; omega
  | succ n ih =>
    intro a ha h
    show (m_sign_b0 tl zt (spIter (fun _ => default) (m_sign_b0 tl zt) n) a).1 = m_here tl (m_sign_b0 tl zt (spIter (fun _ => default) (m_sign_b0 tl zt) n) a).2 zt ∧ aG (m_sign_b0 tl zt (spIter (fun _ => default) (m_sign_b0 tl zt) n) a).2 ∧ a.toNatClampNeg ≤ (m_sign_b0 tl zt (spIter (fun _ => default) (m_sign_b0 tl zt) n) a).2.toNatClampNeg
    generalize spIter (fun _ => default) (m_sign_b0 tl zt) n = R at ih ⊢
    unfold m_sign_b0
    simp only [spLet_x]
    split
    · next c =>
      have l := here_lt rfl c
      obtain ⟨g, e⟩ := aG.inc (a := a.toNatClampNeg) (by omega)
      obtain ⟨h1, h2, h3⟩ := ih _ g (by omega)
      exact ⟨h1, h2, by omega⟩
    · exact ⟨rfl, ha, Nat.le_refl _⟩
theorem sign_q {tl a : Int32} {zt : Nat → Int32} {u : Int32 × Int32} (hu : u = m_sign tl a zt) (h80 : tl.toNatClampNeg ≤ 80) (h1 : a = nI a.toNatClampNeg) (h2 : a.toNatClampNeg ≤ 80) : u.1 = m_here tl u.2 zt ∧ aG u.2 ∧ a.toNatClampNeg ≤ u.2.toNatClampNeg := by
  rw [hu]
  exact sign_p h80 81 a ⟨h1, h2⟩ (by omega)
theorem nu_lt {tl a h r : Int32} {zt : Nat → Int32} (hh : h = m_here tl a zt) (hr : r = m_in h 48 57) (c : ¬ r = 0) : a.toNatClampNeg < tl.toNatClampNeg := by
  refine here_in hh (fun q => ?_)
  have a := in_t hr c
  rw [q] at a
  exact absurd a.1 (by decide)

