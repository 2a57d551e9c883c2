theorem in_n2 {v lo hi r : Int32} {n : Nat} (h0 : 0 ≤ lo.toInt) (hn : hi.toInt = n) (hr : r = m_in v lo hi) (h : ¬ r = 0) : v = nI v.toNatClampNeg ∧ v.toNatClampNeg ≤ n := by
  obtain ⟨h1, h2⟩ := in_t hr h
  have b := nI_cl (a := v) (by omega)
  exact ⟨b.1, by omega⟩
theorem follow_j41_G {w : Nat → Int32} (h : mG w) (u : Int32) : mG (m_follow_j41 u w) := by
  have hf : mG (upd w 13 (m_greater (w 13) u)) := h.upd fun _ => fol13 h u
  unfold m_follow_j41
  simp only [spLet_x]
  split
  · split
    · exact log_G (((hf.upd fun _ => ⟨by decide, by decide⟩).upd fun _ => ⟨by decide, by decide⟩).upd fun _ => mfree (by omega) _) _ _
    · exact hf
  · exact h
theorem follow_G {zs : Nat → Int32} (h : mG zs) (tb u : Int32) : mG (m_follow zs tb u) := by
  unfold m_follow
  simp only [spLet_x]
  split
  · exact follow_j41_G h u
  · split
    · split
      · exact follow_j41_G ((h.upd fun _ => ⟨by decide, by decide⟩).upd fun _ => ⟨by decide, by decide⟩) u
      · exact follow_j41_G h u
    · exact follow_j41_G h u
theorem tick_j124_G {w : Nat → Int32} (h : mG w) (a b c d e f : Int32) (p : Nat → Int32) : mG (m_tick_j124 a b c d e f w p).2.2.2.1 := by
  unfold m_tick_j124
  simp only [spLet_x]
  split <;> exact follow_G (h.upd fun _ => mfree (by omega) _) _ _
theorem tick_j106_G {w : Nat → Int32} (h : mG w) (a b c d e f g : Int32) (p : Nat → Int32) : mG (m_tick_j106 a b c d e f g w p).2.2.2.1 := by
  unfold m_tick_j106
  simp only [spLet_x]
  split
  · exact tick_j124_G h _ _ _ _ _ _ _
  · split
    · exact tick_j124_G (log_G h _ _) _ _ _ _ _ _ _
    · exact tick_j124_G h _ _ _ _ _ _ _
theorem tick_G {zs : Nat → Int32} (h : mG zs) (mm mr : Int32) (zp : Nat → Int32) (mos : Int32) : mG (m_tick mm mr zs zp mos).2.2.2.1 := by
  have ha : ∀ x, mG (upd zs 8 x) := fun x => h.upd fun _ => mfree8 _
  have hb : ∀ x, mG (upd (upd zs 8 x) 9 (m_greater 0 (upd zs 8 x 9 - 1))) := fun x => (ha x).upd fun _ => tick9 (ha x)
  have hc : ∀ x y, mG (upd (m_move mm mr (upd (upd zs 8 x) 9 (m_greater 0 (upd zs 8 x 9 - 1))) zp mos).2.2.2.1 11 y) := fun x y => (move_G (hb x) _ _ _ _).upd fun _ => mfree11 _
  unfold m_tick m_tick_j83
  simp only [spLet_x]
  split
  · split
    · exact tick_j106_G ((hc _ _).upd fun _ => nextState_m _ _) _ _ _ _ _ _ _ _
    · exact tick_j106_G (log_G ((hc _ _).upd fun _ => nextState_m _ _) _ _) _ _ _ _ _ _ _ _
  · split
    · exact tick_j106_G ((hc _ _).upd fun _ => nextState_m _ _) _ _ _ _ _ _ _ _
    · exact tick_j106_G (log_G ((hc _ _).upd fun _ => nextState_m _ _) _ _) _ _ _ _ _ _ _ _
theorem mr_step {x y : Int32} {n : Nat} (hi : 299 ≤ x.toInt ∧ x.toInt ≤ 3000 ∧ x.toInt < 299 + ((n + 1 : Nat) : Int)) (c : ¬ x < 300) (ey : y = x + (-1)) : 299 ≤ y.toInt ∧ y.toInt ≤ 3000 ∧ y.toInt < 299 + (n : Int) := by
  have c2 : ¬ x.toInt < 300 := fun q => c (Int32.lt_iff_toInt_lt.mpr (by rw [show ((300 : Int32)).toInt = 300 by decide]; exact q))
  have e : y.toInt = x.toInt + -1 := by rw [ey]; exact zadd rfl (by decide) (by omega) (by omega)
  omega
theorem way_n {fr to r1 r2 w : Int32} (h1 : r1 = m_in fr 0 3599) (n1 : ¬ r1 = 0) (h2 : r2 = m_in to 0 3599) (n2 : ¬ r2 = 0) (ew : w = (to - fr + 3600) - (to - fr + 3600) / 3600 * 3600) : w = nI w.toNatClampNeg ∧ w.toNatClampNeg ≤ 3599 := by
  have a := in_t h1 n1
  have b := in_t h2 n2
  have z0 : ((0 : Int32)).toInt = 0 := by decide
  have z1 : ((3599 : Int32)).toInt = 3599 := by decide
  have e : w.toInt = (to.toInt - fr.toInt + 3600) % 3600 := by
    rw [ew]
    exact zrem (zadd (zsub rfl rfl (by omega) (by omega)) l_3600 (by omega) (by omega)) l_3600 (by omega) (by omega)
  have q := nI_cl (a := w) (by omega)
  exact ⟨q.1, by omega⟩
theorem ev_n {zs : Nat → Int32} (h : mG zs) {ix r : Int32} (hr : r = m_in ix 0 (zs 143 - 1)) (n : ¬ r = 0) : ix = nI ix.toNatClampNeg ∧ ix.toNatClampNeg < 30 := by
  have a := in_t hr n
  have c := h.c143
  have z0 : ((0 : Int32)).toInt = 0 := by decide
  have e : (zs 143 - 1).toInt = (zs 143).toInt - 1 := zsub rfl l_1 (by omega) (by omega)
  have q := nI_cl (a := ix) (by omega)
  exact ⟨q.1, by omega⟩
theorem sp_step {v y : Int64} {z : Int32} {k n : Nat} (ey : y = v + z.toInt64) (hi : -(2147483648 * (k : Int)) ≤ v.toInt ∧ v.toInt ≤ 2147483648 * (k : Int) ∧ k ≤ 8 ∧ 8 < k + (n + 1)) (c : ¬ 8 ≤ k) : -(2147483648 * ((k + 1 : Nat) : Int)) ≤ y.toInt ∧ y.toInt ≤ 2147483648 * ((k + 1 : Nat) : Int) ∧ k + 1 ≤ 8 ∧ 8 < k + 1 + n := by
  have r := fb_rng z
  have e : y.toInt = v.toInt + z.toInt := by rw [ey]; exact ladd' rfl (zi2l rfl) (by omega) (by omega)
  omega
theorem lg_0 {x : Int64} (h : ¬ lg_cmp x 0 = 0) : ¬ x.toInt = 0 := by
  intro q
  have e : x = 0 := Int64.toInt_inj.mp (by rw [q]; decide)
  rw [e] at h
  exact h (by decide)
theorem sp_ne {v : Int64} {k n : Nat} (hi : -(2147483648 * (k : Int)) ≤ v.toInt ∧ v.toInt ≤ 2147483648 * (k : Int) ∧ k ≤ 8 ∧ 8 < k + n) (c : ¬ lg_cmp v 0 = 0) : ¬ 512 * v = 0 := by
  have h := lg_0 c
  have e : (512 * v).toInt = 512 * v.toInt := lmul' (show ((512 : Int64)).toInt = 512 by decide) rfl (by omega) (by omega)
  intro q
  have z : (512 * v).toInt = 0 := by rw [q]; decide
  omega

