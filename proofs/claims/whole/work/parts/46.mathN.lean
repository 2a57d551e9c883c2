/-- the orders' ticks that were read -/
def zkP (z : Nat → Int32) (n : Nat) : Prop := ∀ j, j < n → z j = nI (z j).toNatClampNeg ∧ (z j).toNatClampNeg ≤ 99
theorem number_v {tl a : Int32} {zt : Nat → Int32} : 0 ≤ (m_number tl a zt).1.toInt ∧ (m_number tl a zt).1.toInt ≤ 99 := by
  have z0 : ((0 : Int32)).toInt = 0 := by decide
  have key : ∀ (n k : Nat) (v b : Int32), k ≤ 2 → 2 < k + n → 0 ≤ v.toInt → (k = 0 → v.toInt ≤ 0) → (k = 1 → v.toInt ≤ 9) → v.toInt ≤ 99 → 0 ≤ (spIter (fun _ _ _ => default) (m_number_b20 tl zt) n v k b).1.toInt ∧ (spIter (fun _ _ _ => default) (m_number_b20 tl zt) n v k b).1.toInt ≤ 99 := by
    intro n
    induction n with
    | zero => intro k v b h3 h4; omega
    | succ n ih =>
      intro k v b h3 h4 h5 h6 h7 h8
      show 0 ≤ (m_number_b20 tl zt (spIter (fun _ _ _ => default) (m_number_b20 tl zt) n) v k b).1.toInt ∧ (m_number_b20 tl zt (spIter (fun _ _ _ => default) (m_number_b20 tl zt) n) v k b).1.toInt ≤ 99
      generalize spIter (fun _ _ _ => default) (m_number_b20 tl zt) n = R at ih ⊢
      have out : 0 ≤ (m_number_j68 tl zt v b).1.toInt ∧ (m_number_j68 tl zt v b).1.toInt ≤ 99 := by
        unfold m_number_j68
        simp only [spLet_x]
        split
        · exact ⟨h5, h8⟩
        · exact ⟨by show 0 ≤ ((0 : Int32)).toInt; omega, by show ((0 : Int32)).toInt ≤ 99; omega⟩
      unfold m_number_b20
      simp only [spLet_x]
      split
      · exact out
      · split
        · exact out
        · next ck c =>
          have d := in_t (r := m_in (m_here tl b zt) 48 57) rfl c
          have d48 : ((48 : Int32)).toInt = 48 := by decide
          have d57 : ((57 : Int32)).toInt = 57 := by decide
          have hk : k = 0 ∨ k = 1 := by omega
          have e : (10 * v + m_here tl b zt - 48).toInt = 10 * v.toInt + (m_here tl b zt).toInt - 48 := zsub (zadd (zmul (show ((10 : Int32)).toInt = 10 by decide) rfl (by omega) (by omega)) rfl (by omega) (by omega)) d48 (by omega) (by omega)
          refine ih (k + 1) _ _ (by omega) (by omega) (by rw [e]; omega) (fun q => by omega) (fun q => ?_) (by rw [e]; omega)
          have := h6 (by omega)
          rw [e]
          omega
  unfold m_number
  simp only [spLet_x]
  split
  · exact ⟨by show 0 ≤ ((0 : Int32)).toInt; omega, by show ((0 : Int32)).toInt ≤ 99; omega⟩
  · exact key 3 0 0 _ (by omega) (by omega) (by omega) (fun _ => by omega) (fun q => by omega) (by omega)
theorem ro_j81_z {tl o b v : Int32} {zt zm zk : Nat → Int32} (ho : o.toNatClampNeg < 1000) (hz : zkP zk o.toNatClampNeg) : zkP (m_readsOrder_j81 tl o zt zm zk v b).2.2.2.2 (m_readsOrder_j81 tl o zt zm zk v b).2.2.1.toNatClampNeg := by
  have hv := number_v (tl := tl) (a := b) (zt := zt)
  unfold m_readsOrder_j81 m_readsOrder_j131
  simp only [spLet_x]
  split
  · exact hz
  · split
    · have fin : zkP (upd zk o.toNatClampNeg (m_number tl b zt).1) (nI (o.toNatClampNeg + 1)).toNatClampNeg := by
        rw [nI_clamp (by omega)]
        intro j hj
        by_cases e : j = o.toNatClampNeg
        · subst e
          rw [pk_us]
          have q := nI_cl hv.1
          exact ⟨q.1, by omega⟩
        · rw [pk_un e]
          exact hz j (by omega)
      split <;> exact fin
    · exact hz
theorem readsOrder_z {tl a o : Int32} {zt zm zk : Nat → Int32} (ho : o.toNatClampNeg < 1000) (hz : zkP zk o.toNatClampNeg) : zkP (m_readsOrder tl a o zt zm zk).2.2.2.2 (m_readsOrder tl a o zt zm zk).2.2.1.toNatClampNeg := by
  have j57 : ∀ r u x, zkP (m_readsOrder_j57 tl o zt zm zk r u x).2.2.2.2 (m_readsOrder_j57 tl o zt zm zk r u x).2.2.1.toNatClampNeg := by
    intro r u x
    unfold m_readsOrder_j57 m_readsOrder_j69
    simp only [spLet_x]
    split
    · exact ro_j81_z ho hz
    · exact ro_j81_z ho hz
  have j23 : ∀ r u, zkP (m_readsOrder_j23 tl o zt zm zk u r).2.2.2.2 (m_readsOrder_j23 tl o zt zm zk u r).2.2.1.toNatClampNeg := by
    intro r u
    unfold m_readsOrder_j23
    simp only [spLet_x]
    split
    · exact ro_j81_z ho hz
    · split
      · exact j57 _ _ _
      · split
        · exact j57 _ _ _
        · exact hz
  unfold m_readsOrder
  simp only [spLet_x]
  split
  · split
    · exact j23 _ _
    · exact hz
  · exact j23 _ _
theorem readsAll_q {tl : Int32} {zt zm zk : Nat → Int32} {u : roT} (hu : u = m_readsAll tl zt zm zk) (h80 : tl.toNatClampNeg ≤ 80) : u.2.2.1 = nI u.2.2.1.toNatClampNeg ∧ u.2.2.1.toNatClampNeg ≤ 26 ∧ zkP u.2.2.2.2 u.2.2.1.toNatClampNeg ∧ aG u.2.1 := by
  have key : ∀ (n : Nat) (v a o : Int32) (wm wk : Nat → Int32), aG a → o = nI o.toNatClampNeg → 3 * o.toNatClampNeg ≤ a.toNatClampNeg → rF v a.toNatClampNeg n → zkP wk o.toNatClampNeg → (spIter (fun _ _ _ _ _ => default) (m_readsAll_b12 tl zt) n v a o wm wk).2.2.1 = nI (spIter (fun _ _ _ _ _ => default) (m_readsAll_b12 tl zt) n v a o wm wk).2.2.1.toNatClampNeg ∧ (spIter (fun _ _ _ _ _ => default) (m_readsAll_b12 tl zt) n v a o wm wk).2.2.1.toNatClampNeg ≤ 26 ∧ zkP (spIter (fun _ _ _ _ _ => default) (m_readsAll_b12 tl zt) n v a o wm wk).2.2.2.2 (spIter (fun _ _ _ _ _ => default) (m_readsAll_b12 tl zt) n v a o wm wk).2.2.1.toNatClampNeg ∧ aG (spIter (fun _ _ _ _ _ => default) (m_readsAll_b12 tl zt) n v a o wm wk).2.1 := by
    intro n
    induction n with
    | zero => intro v a o wm wk ha _ _ hf; exact (rF_0 hf ha.2).elim
    | succ n ih =>
      intro v a o wm wk ha ho h3 hf hz
      have hs := sign_q (u := m_sign tl a zt) rfl h80 ha.1 ha.2
      have hr := readsOrder_q (u := m_readsOrder tl (m_sign tl a zt).2 o zt wm wk) rfl h80 hs.2.1 ho (by omega)
      have hzz := readsOrder_z (tl := tl) (a := (m_sign tl a zt).2) (zt := zt) (zm := wm) (o := o) (zk := wk) (by have := ha.2; omega) hz
      show (m_readsAll_b12 tl zt (spIter (fun _ _ _ _ _ => default) (m_readsAll_b12 tl zt) n) v a o wm wk).2.2.1 = nI (m_readsAll_b12 tl zt (spIter (fun _ _ _ _ _ => default) (m_readsAll_b12 tl zt) n) v a o wm wk).2.2.1.toNatClampNeg ∧ (m_readsAll_b12 tl zt (spIter (fun _ _ _ _ _ => default) (m_readsAll_b12 tl zt) n) v a o wm wk).2.2.1.toNatClampNeg ≤ 26 ∧ zkP (m_readsAll_b12 tl zt (spIter (fun _ _ _ _ _ => default) (m_readsAll_b12 tl zt) n) v a o wm wk).2.2.2.2 (m_readsAll_b12 tl zt (spIter (fun _ _ _ _ _ => default) (m_readsAll_b12 tl zt) n) v a o wm wk).2.2.1.toNatClampNeg ∧ aG (m_readsAll_b12 tl zt (spIter (fun _ _ _ _ _ => default) (m_readsAll_b12 tl zt) n) v a o wm wk).2.1
      generalize spIter (fun _ _ _ _ _ => default) (m_readsAll_b12 tl zt) n = R at ih ⊢
      unfold m_readsAll_b12
      simp only [spLet_x]
      split
      · exact ⟨ho, by show o.toNatClampNeg ≤ 26; have := ha.2; omega, hz, ha⟩
      · next c =>
        split
        · exact ⟨ho, by show o.toNatClampNeg ≤ 26; have := ha.2; omega, hz, hs.2.1⟩
        · exact ih _ _ _ _ _ hr.1 hr.2.1 hr.2.2.1 (rF_s hf c ha.2 hs.2.2 hr.2.2.2.2) hzz
  rw [hu]
  exact key 82 1 0 0 zm zk ⟨rfl, by decide⟩ rfl (by decide) ⟨fun q => absurd q (by decide), fun _ => by decide⟩ (fun j hj => absurd hj (by show ¬ j < 0; omega))

