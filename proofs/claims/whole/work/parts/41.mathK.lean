theorem number_q {tl a : Int32} {zt : Nat → Int32} {u : Int32 × Int32} (hu : u = m_number tl a zt) (h80 : tl.toNatClampNeg ≤ 80) (h1 : a = nI a.toNatClampNeg) (h2 : a.toNatClampNeg ≤ 80) : aG u.2 ∧ a.toNatClampNeg ≤ u.2.toNatClampNeg ∧ (¬ u.1 = 0 → a.toNatClampNeg + 1 ≤ u.2.toNatClampNeg) := by
  have key : ∀ (n k : Nat) (v b : Int32), aG b → k ≤ 2 → 2 < k + n → a.toNatClampNeg + k ≤ b.toNatClampNeg → (k = 0 → v = 0) → aG (spIter (fun _ _ _ => default) (m_number_b20 tl zt) n v k b).2 ∧ a.toNatClampNeg ≤ (spIter (fun _ _ _ => default) (m_number_b20 tl zt) n v k b).2.toNatClampNeg ∧ (¬ (spIter (fun _ _ _ => default) (m_number_b20 tl zt) n v k b).1 = 0 → a.toNatClampNeg + 1 ≤ (spIter (fun _ _ _ => default) (m_number_b20 tl zt) n v k b).2.toNatClampNeg) := by
    intro n
    induction n with
    | zero => intro k v b _ h3 h4; omega
    | succ n ih =>
      intro k v b hb h3 h4 h5 h6
      show aG (m_number_b20 tl zt (spIter (fun _ _ _ => default) (m_number_b20 tl zt) n) v k b).2 ∧ a.toNatClampNeg ≤ (m_number_b20 tl zt (spIter (fun _ _ _ => default) (m_number_b20 tl zt) n) v k b).2.toNatClampNeg ∧ (¬ (m_number_b20 tl zt (spIter (fun _ _ _ => default) (m_number_b20 tl zt) n) v k b).1 = 0 → a.toNatClampNeg + 1 ≤ (m_number_b20 tl zt (spIter (fun _ _ _ => default) (m_number_b20 tl zt) n) v k b).2.toNatClampNeg)
      generalize spIter (fun _ _ _ => default) (m_number_b20 tl zt) n = R at ih ⊢
      have out : aG (m_number_j68 tl zt v b).2 ∧ a.toNatClampNeg ≤ (m_number_j68 tl zt v b).2.toNatClampNeg ∧ (¬ (m_number_j68 tl zt v b).1 = 0 → a.toNatClampNeg + 1 ≤ (m_number_j68 tl zt v b).2.toNatClampNeg) := by
        unfold m_number_j68
        simp only [spLet_x]
        split
        · refine ⟨hb, by show _ ≤ b.toNatClampNeg; omega, fun q => ?_⟩
          by_cases e : k = 0
          · exact absurd (h6 e) q
          · show _ ≤ b.toNatClampNeg; omega
        · exact ⟨hb, by show _ ≤ b.toNatClampNeg; omega, fun q => absurd rfl q⟩
      unfold m_number_b20
      simp only [spLet_x]
      split
      · exact out
      · split
        · exact out
        · next c =>
          have l := nu_lt rfl rfl c
          obtain ⟨g, e⟩ := aG.inc (a := b.toNatClampNeg) (by omega)
          exact ih (k + 1) _ _ g (by omega) (by omega) (by omega) (fun q => by omega)
  have hs := sign_q (u := m_sign tl a zt) rfl h80 h1 h2
  rw [hu]
  unfold m_number
  simp only [spLet_x]
  split
  · exact ⟨hs.2.1, hs.2.2, fun q => absurd rfl q⟩
  · obtain ⟨g1, g2, g3⟩ := key 3 0 0 _ hs.2.1 (by omega) (by omega) (by have := hs.2.2; omega) (fun _ => rfl)
    exact ⟨g1, g2, g3⟩

