/-! both sides: the motions -/
def bv (w : Nat → Int32) : Int32 × Int32 × Int32 × Int32 × Int32 := (w 0, w 1, w 2, w 3, w 4)
theorem upd_o (f : Nat → Int32) (i : Nat) (v : Int32) {k : Nat} (h : ¬ k = i) : upd f i v k = f k := by unfold upd; rw [if_neg h]
theorem upd_s (f : Nat → Int32) (i : Nat) (v : Int32) : upd f i v i = v := by unfold upd; rw [if_pos rfl]
theorem j324_e (w : Nat → Int32) : m_carry_j324 w = upd w 3 (m_lesser (w 3) (m_height w - 200)) := by
  unfold m_carry_j324
  simp only [spLet_x]
theorem q_j250 {w : Nat → Int32} (h0 : 0 ≤ (w 1).toInt) (h1 : (w 1).toInt ≤ 850) : x_X0_move_j250 (w 0) (w 1) (w 2) (w 3) (w 4) = bv (m_carry_j324 w) := by
  have ht : x_X0_tip (w 0) (w 1) = m_height w := by rw [height_of]; exact q_tip h0 h1
  rw [j324_e]
  unfold x_X0_move_j250 bv
  simp only [spLet_x, ht]
  rw [upd_o w 3 _ (show ¬ 0 = 3 by decide), upd_o w 3 _ (show ¬ 1 = 3 by decide), upd_o w 3 _ (show ¬ 2 = 3 by decide), upd_o w 3 _ (show ¬ 4 = 3 by decide), upd_s, lesser_lt]
theorem q_slow (s : Int32) : x_X8_isSlow s = if s = 0 then 0 else 1 := rfl
theorem sp_t (zs : Nat → Int32) (a b : Int32) {α : Type} (F : Int32 → α) : (if x_X8_isSlow (zs 7) = 0 then F a else F b) = F (m_speed zs a b) := by
  unfold m_speed
  rw [q_slow]
  by_cases c : zs 7 = 0
  · rw [if_pos c, if_pos c, if_pos rfl]
  · rw [if_neg c, if_neg c, if_neg (by decide)]
theorem q_up (zs : Nat → Int32) (hG : mG zs) (t : Int32) (ht : t = m_speed zs 20 10) : x_X0_move_j60 (zs 0) (zs 1) (zs 2) (zs 3) (zs 4) (zs 6) t = bv (m_carry zs 0) := by
  have a1 := hG.c1
  have z1 : ¬ ((1 : Int32) = 0) := by decide
  unfold m_carry
  rw [if_pos rfl]
  unfold x_X0_move_j60 x_X0_hoistUp x_X0_takesUpLoad m_carry_j77
  simp only [spLet_x, ← ht]
  by_cases c : zs 6 ≤ 0
  · simp only [if_pos c, if_pos rfl]
    exact q_j250 (w := upd zs 3 (zs 3 + t)) a1.1 a1.2
  · by_cases d : (4 : Int32) ≤ zs 4
    · simp only [if_neg c, if_pos d, if_pos rfl]
      exact q_j250 (w := upd zs 3 (zs 3 + t)) a1.1 a1.2
    · simp only [if_neg c, if_neg d, if_neg z1]
      exact q_j250 (w := upd zs 4 (zs 4 + 1)) a1.1 a1.2
theorem q_down (zs : Nat → Int32) (hG : mG zs) (t : Int32) (ht : t = m_speed zs 20 10) : x_X0_move_j78 (zs 0) (zs 1) (zs 2) (zs 3) (zs 4) t = bv (m_carry zs 1) := by
  have a1 := hG.c1
  unfold m_carry
  rw [if_neg (show ¬ ((1 : Int32) = 0) by decide), if_pos rfl]
  unfold x_X0_move_j78 x_X0_hoistDown
  simp only [spLet_x, ← ht]
  by_cases c : zs 3 ≤ 0
  · simp only [if_pos c, ← greater_sw]
    exact q_j250 (w := upd zs 4 (m_greater 0 (zs 4 - 1))) a1.1 a1.2
  · simp only [if_neg c, ← greater_sw]
    exact q_j250 (w := upd zs 3 (m_greater 0 (zs 3 - t))) a1.1 a1.2
theorem q_bup (zs : Nat → Int32) (hG : mG zs) (t : Int32) (ht : t = m_speed zs 5 2) : x_X0_move_j98 (zs 0) (zs 1) (zs 2) (zs 3) (zs 4) t = bv (m_carry zs 2) := by
  have a1 := hG.c1
  have st := sp5 zs
  rw [← ht] at st
  unfold m_carry
  rw [if_neg (show ¬ ((2 : Int32) = 0) by decide), if_neg (show ¬ ((2 : Int32) = 1) by decide), if_pos rfl]
  unfold x_X0_move_j98
  simp only [spLet_x, ← ht]
  rw [← lesser_sw]
  have e : (m_lesser 850 (zs 1 + t)).toInt = min 850 ((zs 1).toInt + t.toInt) := by rw [lesser_r, zadd rfl rfl (by omega) (by omega), l_850]
  exact q_j250 (w := upd zs 1 (m_lesser 850 (zs 1 + t))) (by rw [upd_s, e]; omega) (by rw [upd_s, e]; omega)
theorem q_bdn (zs : Nat → Int32) (hG : mG zs) (t : Int32) (ht : t = m_speed zs 5 2) : x_X0_move_j125 (zs 0) (zs 1) (zs 2) (zs 3) (zs 4) t = bv (m_carry zs 3) := by
  have a1 := hG.c1
  have st := sp5 zs
  rw [← ht] at st
  unfold m_carry
  rw [if_neg (show ¬ ((3 : Int32) = 0) by decide), if_neg (show ¬ ((3 : Int32) = 1) by decide), if_neg (show ¬ ((3 : Int32) = 2) by decide), if_pos rfl]
  unfold x_X0_move_j125
  simp only [spLet_x, ← ht]
  rw [← greater_sw]
  have e : (m_greater 0 (zs 1 - t)).toInt = max 0 ((zs 1).toInt - t.toInt) := by rw [greater_r, zsub rfl rfl (by omega) (by omega), l_0]
  exact q_j250 (w := upd zs 1 (m_greater 0 (zs 1 - t))) (by rw [upd_s, e]; omega) (by rw [upd_s, e]; omega)
theorem q_ext (zs : Nat → Int32) (hG : mG zs) (t : Int32) (ht : t = m_speed zs 10 5) : x_X0_move_j151 (zs 0) (zs 1) (zs 2) (zs 3) (zs 4) t = bv (m_carry zs 4) := by
  have a1 := hG.c1
  unfold m_carry
  rw [if_neg (show ¬ ((4 : Int32) = 0) by decide), if_neg (show ¬ ((4 : Int32) = 1) by decide), if_neg (show ¬ ((4 : Int32) = 2) by decide), if_neg (show ¬ ((4 : Int32) = 3) by decide), if_pos rfl]
  unfold x_X0_move_j151
  simp only [spLet_x, ← ht]
  rw [← lesser_sw]
  exact q_j250 (w := upd zs 0 (m_lesser 6000 (zs 0 + t))) a1.1 a1.2
theorem q_ret (zs : Nat → Int32) (hG : mG zs) (t : Int32) (ht : t = m_speed zs 10 5) : x_X0_move_j179 (zs 0) (zs 1) (zs 2) (zs 3) (zs 4) t = bv (m_carry zs 5) := by
  have a1 := hG.c1
  unfold m_carry
  rw [if_neg (show ¬ ((5 : Int32) = 0) by decide), if_neg (show ¬ ((5 : Int32) = 1) by decide), if_neg (show ¬ ((5 : Int32) = 2) by decide), if_neg (show ¬ ((5 : Int32) = 3) by decide), if_neg (show ¬ ((5 : Int32) = 4) by decide), if_pos rfl]
  unfold x_X0_move_j179
  simp only [spLet_x, ← ht]
  rw [← greater_sw]
  exact q_j250 (w := upd zs 0 (m_greater 1000 (zs 0 - t))) a1.1 a1.2
theorem q_slr (zs : Nat → Int32) (hG : mG zs) (t : Int32) (ht : t = m_speed zs 15 7) : x_X0_move_j208 (zs 0) (zs 1) (zs 2) (zs 3) (zs 4) t = bv (m_carry zs 6) := by
  have a1 := hG.c1
  unfold m_carry
  rw [if_neg (show ¬ ((6 : Int32) = 0) by decide), if_neg (show ¬ ((6 : Int32) = 1) by decide), if_neg (show ¬ ((6 : Int32) = 2) by decide), if_neg (show ¬ ((6 : Int32) = 3) by decide), if_neg (show ¬ ((6 : Int32) = 4) by decide), if_neg (show ¬ ((6 : Int32) = 5) by decide), if_pos rfl]
  unfold x_X0_move_j208
  simp only [spLet_x, ← ht]
  exact q_j250 (w := upd zs 2 (zs 2 + t - (zs 2 + t) / 3600 * 3600)) a1.1 a1.2
theorem q_sll (zs : Nat → Int32) (hG : mG zs) (t : Int32) (ht : t = m_speed zs 15 7) : x_X0_move_j239 (zs 0) (zs 1) (zs 2) (zs 3) (zs 4) t = bv (m_carry zs 7) := by
  have a1 := hG.c1
  have e : zs 2 + 3600 - t = zs 2 - t + 3600 := by
    rw [Int32.sub_eq_add_neg, Int32.sub_eq_add_neg, Int32.add_assoc, Int32.add_comm 3600, Int32.add_assoc]
  unfold m_carry
  rw [if_neg (show ¬ ((7 : Int32) = 0) by decide), if_neg (show ¬ ((7 : Int32) = 1) by decide), if_neg (show ¬ ((7 : Int32) = 2) by decide), if_neg (show ¬ ((7 : Int32) = 3) by decide), if_neg (show ¬ ((7 : Int32) = 4) by decide), if_neg (show ¬ ((7 : Int32) = 5) by decide), if_neg (show ¬ ((7 : Int32) = 6) by decide)]
  unfold x_X0_move_j239
  simp only [spLet_x, ← ht, e]
  exact q_j250 (w := upd zs 2 (zs 2 - t + 3600 - (zs 2 - t + 3600) / 3600 * 3600)) a1.1 a1.2
theorem mo_cases {mo : Int32} (h0 : 0 ≤ mo.toInt) (h8 : mo.toInt < 8) : mo = 0 ∨ mo = 1 ∨ mo = 2 ∨ mo = 3 ∨ mo = 4 ∨ mo = 5 ∨ mo = 6 ∨ mo = 7 := by
  obtain ⟨e1, e2⟩ := nI_cl h0
  rw [e1]
  rcases (show mo.toNatClampNeg = 0 ∨ mo.toNatClampNeg = 1 ∨ mo.toNatClampNeg = 2 ∨ mo.toNatClampNeg = 3 ∨ mo.toNatClampNeg = 4 ∨ mo.toNatClampNeg = 5 ∨ mo.toNatClampNeg = 6 ∨ mo.toNatClampNeg = 7 by omega) with h | h | h | h | h | h | h | h <;> rw [h] <;> decide
theorem q_move (zs : Nat → Int32) (hG : mG zs) {mo : Int32} (h0 : 0 ≤ mo.toInt) (h8 : mo.toInt < 8) : x_X0_move (zs 0) (zs 1) (zs 2) (zs 3) (zs 4) (zs 6) mo (x_X8_isSlow (zs 7)) = bv (m_carry zs mo) := by
  unfold x_X0_move
  rcases mo_cases h0 h8 with h | h | h | h | h | h | h | h <;> subst h
  · rw [if_pos rfl, sp_t zs 20 10 (fun t => x_X0_move_j60 (zs 0) (zs 1) (zs 2) (zs 3) (zs 4) (zs 6) t)]; exact q_up zs hG _ rfl
  · rw [if_neg (by decide), if_pos rfl, sp_t zs 20 10 (fun t => x_X0_move_j78 (zs 0) (zs 1) (zs 2) (zs 3) (zs 4) t)]; exact q_down zs hG _ rfl
  · rw [if_neg (by decide), if_neg (by decide), if_pos rfl, sp_t zs 5 2 (fun t => x_X0_move_j98 (zs 0) (zs 1) (zs 2) (zs 3) (zs 4) t)]; exact q_bup zs hG _ rfl
  · rw [if_neg (by decide), if_neg (by decide), if_neg (by decide), if_pos rfl, sp_t zs 5 2 (fun t => x_X0_move_j125 (zs 0) (zs 1) (zs 2) (zs 3) (zs 4) t)]; exact q_bdn zs hG _ rfl
  · rw [if_neg (by decide), if_neg (by decide), if_neg (by decide), if_neg (by decide), if_pos rfl, sp_t zs 10 5 (fun t => x_X0_move_j151 (zs 0) (zs 1) (zs 2) (zs 3) (zs 4) t)]; exact q_ext zs hG _ rfl
  · rw [if_neg (by decide), if_neg (by decide), if_neg (by decide), if_neg (by decide), if_neg (by decide), if_pos rfl, sp_t zs 10 5 (fun t => x_X0_move_j179 (zs 0) (zs 1) (zs 2) (zs 3) (zs 4) t)]; exact q_ret zs hG _ rfl
  · rw [if_neg (by decide), if_neg (by decide), if_neg (by decide), if_neg (by decide), if_neg (by decide), if_neg (by decide), if_pos rfl, sp_t zs 15 7 (fun t => x_X0_move_j208 (zs 0) (zs 1) (zs 2) (zs 3) (zs 4) t)]; exact q_slr zs hG _ rfl
  · rw [if_neg (by decide), if_neg (by decide), if_neg (by decide), if_neg (by decide), if_neg (by decide), if_neg (by decide), if_neg (by decide), if_pos rfl, sp_t zs 15 7 (fun t => x_X0_move_j239 (zs 0) (zs 1) (zs 2) (zs 3) (zs 4) t)]; exact q_sll zs hG _ rfl
theorem q_atEnd (zs : Nat → Int32) (hG : mG zs) {mo : Int32} (h0 : 0 ≤ mo.toInt) (h8 : mo.toInt < 8) : x_X0_isAtEnd (zs 0) (zs 1) (zs 3) (zs 4) (zs 6) mo = m_isAtEnd zs mo := by
  have ht : x_X0_tip (zs 0) (zs 1) = m_height zs := by rw [height_of]; exact q_tip hG.c1.1 hG.c1.2
  have b4 := hG.c4
  have b6 := hG.c6
  have z1 : ¬ ((1 : Int32) = 0) := by decide
  unfold x_X0_isAtEnd m_isAtEnd m_isAtEnd_j60 x_X0_takesUpLoad
  simp only [spLet_x, ht]
  by_cases c : mo = 0
  · rw [if_pos c, if_pos c]
    by_cases d : zs 6 ≤ 0
    · have d2 : zs 6 = 0 := Int32.toInt_inj.mp (by have := (le_i l_0).mp d; rw [l_0]; omega)
      rw [if_pos d, if_pos rfl, if_pos d2]
      split <;> split <;> rfl
    · have d2 : ¬ zs 6 = 0 := fun k => d (by rw [k]; decide)
      rw [if_neg d, if_neg d2]
      by_cases f : (4 : Int32) ≤ zs 4
      · have f2 : zs 4 = 4 := Int32.toInt_inj.mp (by have := (i_le l_4).mp f; rw [l_4]; omega)
        rw [if_pos f, if_pos rfl, if_pos f2]
      · have f2 : ¬ zs 4 = 4 := fun k => f (by rw [k]; decide)
        rw [if_neg f, if_neg f2, if_neg z1]
  · rw [if_neg c, if_neg c]
