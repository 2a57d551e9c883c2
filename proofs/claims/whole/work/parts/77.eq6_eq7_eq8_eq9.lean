/-! both sides: the motions -/
def bv (w : Nat → Int32) : Int32 × Int32 × Int32 × Int32 × Int32 := (w 0, w 1, w 2, w 3, w 4)
theorem upd_o (f : Nat → Int32) (i : Nat) (v : Int32) {k : Nat} (h : ¬ k = i) : upd f i v k = f k := by unfold upd; rw [if_neg h]
theorem upd_s (f : Nat → Int32) (i : Nat) (v : Int32) : upd f i v i = v := by unfold upd; rw [if_pos rfl]
theorem j324_e (w : Nat → Int32) : m_carry_j324 w = upd w 3 (m_lesser (w 3) (m_height w - 200)) := by
  unfold m_carry_j324
  simp only [spLet_x]
theorem q_j250 {w : Nat → Int32} (h0 : 0 ≤ (w 1).toInt) (h1 : (w 1).toInt ≤ 850) : x_X0_move_j250 (w 0) (w 1) (w 2) (w 3) (w 4) = bv (m_carry_j324 w) := by
  have ht : x_X0_tip (w 0) (w 1) = m_height w := by rw [height_of]; exact q_tip h0 h1
  rw [j324_e]
  unfold x_X0_move_j250 bv
  simp only [spLet_x, ht]
  rw [upd_o w 3 _ (show ¬ 0 = 3 by decide), upd_o w 3 _ (show ¬ 1 = 3 by decide), upd_o w 3 _ (show ¬ 2 = 3 by decide), upd_o w 3 _ (show ¬ 4 = 3 by decide), upd_s, lesser_lt]
theorem q_slow (s : Int32) : x_X8_isSlow s = if s = 0 then 0 else 1 := rfl
theorem sp_t (zs : Nat → Int32) (a b : Int32) {α : Type} (F : Int32 → α) : (if x_X8_isSlow (zs 7) = 0 then F a else F b) = F (m_speed zs a b) := by
  unfold m_speed
  rw [q_slow]
  by_cases c : zs 7 = 0
  · rw [if_pos c, if_pos c, if_pos rfl]
  · rw [if_neg c, if_neg c, if_neg (by decide)]
theorem q_up (zs : Nat → Int32) (hG : mG zs) (t : Int32) (ht : t = m_speed zs 20 10) : x_X0_move_j60 (zs 0) (zs 1) (zs 2) (zs 3) (zs 4) (zs 6) t = bv (m_carry zs 0) := by
  have a1 := hG.c1
  have z1 : ¬ ((1 : Int32) = 0) := by decide
  unfold m_carry
  rw [if_pos rfl]
  unfold x_X0_move_j60 x_X0_hoistUp x_X0_takesUpLoad m_carry_j77
  simp only [spLet_x, ← ht]
  by_cases c : zs 6 ≤ 0
  · simp only [if_pos c, if_pos rfl]
    exact q_j250 (w := upd zs 3 (zs 3 + t)) a1.1 a1.2
  · by_cases d : (4 : Int32) ≤ zs 4
    · simp only [if_neg c, if_pos d, if_pos rfl]
      exact q_j250 (w := upd zs 3 (zs 3 + t)) a1.1 a1.2
    · simp only [if_neg c, if_neg d, if_neg z1]
      exact q_j250 (w := upd zs 4 (zs 4 + 1)) a1.1 a1.2
theorem q_down (zs : Nat → Int32) (hG : mG zs) (t : Int32) (ht : t = m_speed zs 20 10) : x_X0_move_j78 (zs 0) (zs 1) (zs 2) (zs 3) (zs 4) t = bv (m_carry zs 1) := by
  have a1 := hG.c1
  unfold m_carry
  rw [if_neg (show ¬ ((1 : Int32) = 0) by decide), if_pos rfl]
  unfold x_X0_move_j78 x_X0_hoistDown
  simp only [spLet_x, ← ht]
  by_cases c : zs 3 ≤ 0
  · simp only [if_pos c, ← greater_sw]
    exact q_j250 (w := upd zs 4 (m_greater 0 (zs 4 - 1))) a1.1 a1.2
  · simp only [if_neg c, ← greater_sw]
    exact q_j250 (w := upd zs 3 (m_greater 0 (zs 3 - t))) a1.1 a1.2
theorem q_bup (zs : Nat → Int32) (hG : mG zs) (t : Int32) (ht : t = m_speed zs 5 2) : x_X0_move_j98 (zs 0) (zs 1) (zs 2) (zs 3) (zs 4) t = bv (m_carry zs 2) := by
  have a1 := hG.c1
  have st := sp5 zs
  rw [← ht] at st
  unfold m_carry
  rw [if_neg (show ¬ ((2 : Int32) = 0) by decide), if_neg (show ¬ ((2 : Int32) = 1) by decide), if_pos rfl]
  unfold x_X0_move_j98
  simp only [spLet_x, ← ht]
  rw [← lesser_sw]
  have e : (m_lesser 850 (zs 1 + t)).toInt = min 850 ((zs 1).toInt + t.toInt) := by rw [lesser_r, zadd rfl rfl (by omega) (by omega), l_850]
  exact q_j250 (w := upd zs 1 (m_lesser 850 (zs 1 + t))) (by rw [upd_s, e]; omega) (by rw [upd_s, e]; omega)
theorem q_bdn (zs : Nat → Int32) (hG : mG zs) (t : Int32) (ht : t = m_speed zs 5 2) : x_X0_move_j125 (zs 0) (zs 1) (zs 2) (zs 3) (zs 4) t = bv (m_carry zs 3) := by
  have a1 := hG.c1
  have st := sp5 zs
  rw [← ht] at st
  unfold m_carry
  rw [if_neg (show ¬ ((3 : Int32) = 0) by decide), if_neg (show ¬ ((3 : Int32) = 1) by decide), if_neg (show ¬ ((3 : Int32) = 2) by decide), if_pos rfl]
  unfold x_X0_move_j125
  simp only [spLet_x, ← ht]
  rw [← greater_sw]
  have e : (m_greater 0 (zs 1 - t)).toInt = max 0 ((zs 1).toInt - t.toInt) := by rw [greater_r, zsub rfl rfl (by omega) (by omega), l_0]
  exact q_j250 (w := upd zs 1 (m_greater 0 (zs 1 - t))) (by rw [upd_s, e]; omega) (by rw [upd_s, e]; omega)
theorem q_ext (zs : Nat → Int32) (hG : mG zs) (t : Int32) (ht : t = m_speed zs 10 5) : x_X0_move_j151 (zs 0) (zs 1) (zs 2) (zs 3) (zs 4) t = bv (m_carry zs 4) := by
  have a1 := hG.c1
  unfold m_carry
  rw [if_neg (show ¬ ((4 : Int32) = 0) by decide), if_neg (show ¬ ((4 : Int32) = 1) by decide), if_neg (show ¬ ((4 : Int32) = 2) by decide), if_neg (show ¬ ((4 : Int32) = 3) by decide), if_pos rfl]
  unfold x_X0_move_j151
  simp only [spLet_x, ← ht]
  rw [← lesser_sw]
  exact q_j250 (w := upd zs 0 (m_lesser 6000 (zs 0 + t))) a1.1 a1.2
theorem q_ret (zs : Nat → Int32) (hG : mG zs) (t : Int32) (ht : t = m_speed zs 10 5) : x_X0_move_j179 (zs 0) (zs 1) (zs 2) (zs 3) (zs 4) t = bv (m_carry zs 5) := by
  have a1 := hG.c1
  unfold m_carry
  rw [if_neg (show ¬ ((5 : Int32) = 0) by decide), if_neg (show ¬ ((5 : Int32) = 1) by decide), if_neg (show ¬ ((5 : Int32) = 2) by decide), if_neg (show ¬ ((5 : Int32) = 3) by decide), if_neg (show ¬ ((5 : Int32) = 4) by decide), if_pos rfl]
  unfold x_X0_move_j179
  simp only [spLet_x, ← ht]
  rw [← greater_sw]
  exact q_j250 (w := upd zs 0 (m_greater 1000 (zs 0 - t))) a1.1 a1.2
theorem q_slr (zs : Nat → Int32) (hG : mG zs) (t : Int32) (ht : t = m_speed zs 15 7) : x_X0_move_j208 (zs 0) (zs 1) (zs 2) (zs 3) (zs 4) t = bv (m_carry zs 6) := by
  have a1 := hG.c1
  unfold m_carry
  rw [if_neg (show ¬ ((6 : Int32) = 0) by decide), if_neg (show ¬ ((6 : Int32) = 1) by decide), if_neg (show ¬ ((6 : Int32) = 2) by decide), if_neg (show ¬ ((6 : Int32) = 3) by decide), if_neg (show ¬ ((6 : Int32) = 4) by decide), if_neg (show ¬ ((6 : Int32) = 5) by decide), if_pos rfl]
  unfold x_X0_move_j208
  simp only [spLet_x, ← ht]
  exact q_j250 (w := upd zs 2 (zs 2 + t - (zs 2 + t) / 3600 * 3600)) a1.1 a1.2
theorem q_sll (zs : Nat → Int32) (hG : mG zs) (t : Int32) (ht : t = m_speed zs 15 7) : x_X0_move_j239 (zs 0) (zs 1) (zs 2) (zs 3) (zs 4) t = bv (m_carry zs 7) := by
  have a1 := hG.c1
  have e : zs 2 + 3600 - t = zs 2 - t + 3600 := by
    rw [Int32.sub_eq_add_neg, Int32.sub_eq_add_neg, Int32.add_assoc, Int32.add_comm 3600, Int32.add_assoc]
  unfold m_carry
  rw [if_neg (show ¬ ((7 : Int32) = 0) by decide), if_neg (show ¬ ((7 : Int32) = 1) by decide), if_neg (show ¬ ((7 : Int32) = 2) by decide), if_neg (show ¬ ((7 : Int32) = 3) by decide), if_neg (show ¬ ((7 : Int32) = 4) by decide), if_neg (show ¬ ((7 : Int32) = 5) by decide), if_neg (show ¬ ((7 : Int32) = 6) by decide)]
  unfold x_X0_move_j239
  simp only [spLet_x, ← ht, e]
  exact q_j250 (w := upd zs 2 (zs 2 - t + 3600 - (zs 2 - t + 3600) / 3600 * 3600)) a1.1 a1.2
theorem mo_cases {mo : Int32} (h0 : 0 ≤ mo.toInt) (h8 : mo.toInt < 8) : mo = 0 ∨ mo = 1 ∨ mo = 2 ∨ mo = 3 ∨ mo = 4 ∨ mo = 5 ∨ mo = 6 ∨ mo = 7 := by
  obtain ⟨e1, e2⟩ := nI_cl h0
  rw [e1]
  rcases (show mo.toNatClampNeg = 0 ∨ mo.toNatClampNeg = 1 ∨ mo.toNatClampNeg = 2 ∨ mo.toNatClampNeg = 3 ∨ mo.toNatClampNeg = 4 ∨ mo.toNatClampNeg = 5 ∨ mo.toNatClampNeg = 6 ∨ mo.toNatClampNeg = 7 by omega) with h | h | h | h | h | h | h | h <;> rw [h] <;> decide
theorem q_move (zs : Nat → Int32) (hG : mG zs) {mo : Int32} (h0 : 0 ≤ mo.toInt) (h8 : mo.toInt < 8) : x_X0_move (zs 0) (zs 1) (zs 2) (zs 3) (zs 4) (zs 6) mo (x_X8_isSlow (zs 7)) = bv (m_carry zs mo) := by
  unfold x_X0_move
  rcases mo_cases h0 h8 with h | h | h | h | h | h | h | h <;> subst h
  · rw [if_pos rfl, sp_t zs 20 10 (fun t => x_X0_move_j60 (zs 0) (zs 1) (zs 2) (zs 3) (zs 4) (zs 6) t)]; exact q_up zs hG _ rfl
  · rw [if_neg (by decide), if_pos rfl, sp_t zs 20 10 (fun t => x_X0_move_j78 (zs 0) (zs 1) (zs 2) (zs 3) (zs 4) t)]; exact q_down zs hG _ rfl
  · rw [if_neg (by decide), if_neg (by decide), if_pos rfl, sp_t zs 5 2 (fun t => x_X0_move_j98 (zs 0) (zs 1) (zs 2) (zs 3) (zs 4) t)]; exact q_bup zs hG _ rfl
  · rw [if_neg (by decide), if_neg (by decide), if_neg (by decide), if_pos rfl, sp_t zs 5 2 (fun t => x_X0_move_j125 (zs 0) (zs 1) (zs 2) (zs 3) (zs 4) t)]; exact q_bdn zs hG _ rfl
  · rw [if_neg (by decide), if_neg (by decide), if_neg (by decide), if_neg (by decide), if_pos rfl, sp_t zs 10 5 (fun t => x_X0_move_j151 (zs 0) (zs 1) (zs 2) (zs 3) (zs 4) t)]; exact q_ext zs hG _ rfl
  · rw [if_neg (by decide), if_neg (by decide), if_neg (by decide), if_neg (by decide), if_neg (by decide), if_pos rfl, sp_t zs 10 5 (fun t => x_X0_move_j179 (zs 0) (zs 1) (zs 2) (zs 3) (zs 4) t)]; exact q_ret zs hG _ rfl
  · rw [if_neg (by decide), if_neg (by decide), if_neg (by decide), if_neg (by decide), if_neg (by decide), if_neg (by decide), if_pos rfl, sp_t zs 15 7 (fun t => x_X0_move_j208 (zs 0) (zs 1) (zs 2) (zs 3) (zs 4) t)]; exact q_slr zs hG _ rfl
  · rw [if_neg (by decide), if_neg (by decide), if_neg (by decide), if_neg (by decide), if_neg (by decide), if_neg (by decide), if_neg (by decide), if_pos rfl, sp_t zs 15 7 (fun t => x_X0_move_j239 (zs 0) (zs 1) (zs 2) (zs 3) (zs 4) t)]; exact q_sll zs hG _ rfl
theorem q_atEnd (zs : Nat → Int32) (hG : mG zs) {mo : Int32} (h0 : 0 ≤ mo.toInt) (h8 : mo.toInt < 8) : x_X0_isAtEnd (zs 0) (zs 1) (zs 3) (zs 4) (zs 6) mo = m_isAtEnd zs mo := by
  have ht : x_X0_tip (zs 0) (zs 1) = m_height zs := by rw [height_of]; exact q_tip hG.c1.1 hG.c1.2
  have b4 := hG.c4
  have b6 := hG.c6
  have z1 : ¬ ((1 : Int32) = 0) := by decide
  unfold x_X0_isAtEnd m_isAtEnd m_isAtEnd_j60 x_X0_takesUpLoad
  simp only [spLet_x, ht]
  by_cases c : mo = 0
  · rw [if_pos c, if_pos c]
    by_cases d : zs 6 ≤ 0
    · have d2 : zs 6 = 0 := Int32.toInt_inj.mp (by have := (le_i l_0).mp d; rw [l_0]; omega)
      rw [if_pos d, if_pos rfl, if_pos d2]
      split <;> split <;> rfl
    · have d2 : ¬ zs 6 = 0 := fun k => d (by rw [k]; decide)
      rw [if_neg d, if_neg d2]
      by_cases f : (4 : Int32) ≤ zs 4
      · have f2 : zs 4 = 4 := Int32.toInt_inj.mp (by have := (i_le l_4).mp f; rw [l_4]; omega)
        rw [if_pos f, if_pos rfl, if_pos f2]
      · have f2 : ¬ zs 4 = 4 := fun k => f (by rw [k]; decide)
        rw [if_neg f, if_neg f2, if_neg z1]
  · rw [if_neg c, if_neg c]

/-! both sides: what is permitted -/
def cZon (zc : Int32) (zf zs : Nat → Int32) : Prop := zc = zs 18 ∧ ∀ k, k < 24 → zf k = zs (19 + k)
theorem q_vioC {zc : Int32} {zf zs : Nat → Int32} (hz : cZon zc zf zs) (hG : mG zs) {mo : Int32} : x_X7_violation zc zf (m_carry zs mo 0) (m_carry zs mo 1) (m_carry zs mo 2) = m_violation (m_carry zs mo) := by
  obtain ⟨rfl, h⟩ := hz
  have e := q_violation (zf := zf) (zs := m_carry zs mo) (fun k hk => by rw [carry_hi zs mo (by omega)]; exact h k hk) (carry_G hG mo)
  rw [carry_hi zs mo (k := 18) (by decide)] at e
  exact e
theorem worse_e (zs zp : Nat → Int32) (mo : Int32) : (m_isWorseZone zs zp mo).1 = if m_violation (m_carry zs mo) ≤ m_violation zs then 0 else 1 := by
  unfold m_isWorseZone
  simp only [spLet_x]
  split <;> rfl
theorem worse_p (zs zp : Nat → Int32) (mo : Int32) : (m_isWorseZone zs zp mo).2 = m_remember zs zp := by
  unfold m_isWorseZone
  simp only [spLet_x]
  split <;> rfl
/-- present and ahead -/
def uPre (zs : Nat → Int32) : Int32 := m_utilizationAt (mMas zs) (mRad zs) zs (zs 2)
def uAhd (zs : Nat → Int32) (t : Int32) : Int32 := m_utilizationAt (mMas zs) (mRad zs) zs (zs 2 + t - (zs 2 + t) / 3600 * 3600)
theorem over_e (mm mr : Int32) (zs : Nat → Int32) (mo : Int32) : (m_isOverloadAhead mm mr zs mo).1 = if mo < 6 then 0 else if zs 7 = 3 then 0 else if uAhd zs (if mo = 6 then 50 else 3550) < 1000 then 0 else if uAhd zs (if mo = 6 then 50 else 3550) ≤ uPre zs then 0 else 1 := by
  unfold m_isOverloadAhead m_isOverloadAhead_j45
  simp only [spLet_x, util_mr]
  by_cases c1 : mo < 6
  · rw [if_pos c1, if_pos c1]
  · rw [if_neg c1, if_neg c1]
    by_cases c2 : zs 7 = 3
    · rw [if_pos c2, if_pos c2]
    · rw [if_neg c2, if_neg c2]
      have hs : ∀ a : Int32, (if m_utilizationAt (mMas zs) (mRad zs) zs (zs 2 + a - (zs 2 + a) / 3600 * 3600) < 1000 then ((0 : Int32), mMas zs, mRad zs) else if m_utilizationAt (mMas zs) (mRad zs) zs (zs 2 + a - (zs 2 + a) / 3600 * 3600) ≤ m_utilizationAt (mMas zs) (mRad zs) zs (zs 2) then (0, mMas zs, mRad zs) else (1, mMas zs, mRad zs)).1 = if uAhd zs a < 1000 then 0 else if uAhd zs a ≤ uPre zs then 0 else 1 := fun a => by
        unfold uAhd uPre
        split
        · rfl
        · split <;> rfl
      by_cases c3 : mo = 6
      · rw [if_pos c3, hs, if_pos c3]
      · rw [if_neg c3, hs, if_neg c3]
/-- whether a motion is permitted, of the cells -/
def perM (zs : Nat → Int32) (mo : Int32) : Int32 :=
  if m_isAtEnd zs mo = 0 then (if zs 7 = 2 ∧ (mo = 0 ∨ mo = 3 ∨ mo = 4) then 0 else if m_violation (m_carry zs mo) ≤ m_violation zs then (if mo < 6 then 1 else if zs 7 = 3 then 1 else if uAhd zs (if mo = 6 then 50 else 3550) < 1000 then 1 else if uAhd zs (if mo = 6 then 50 else 3550) ≤ uPre zs then 1 else 0) else 0) else 0
theorem per_j (mm mr : Int32) (zs zp : Nat → Int32) (mo : Int32) : (m_isPermitted_j30 mm mr zs zp mo 0).1 = if m_isAtEnd zs mo = 0 then (if m_violation (m_carry zs mo) ≤ m_violation zs then (if mo < 6 then 1 else if zs 7 = 3 then 1 else if uAhd zs (if mo = 6 then 50 else 3550) < 1000 then 1 else if uAhd zs (if mo = 6 then 50 else 3550) ≤ uPre zs then 1 else 0) else 0) else 0 := by
  have z1 : ¬ ((1 : Int32) = 0) := by decide
  unfold m_isPermitted_j30
  simp only [spLet_x]
  by_cases c0 : m_isAtEnd zs mo = 0
  · rw [if_pos c0, if_pos c0, if_pos trivial, worse_e]
    by_cases c1 : m_violation (m_carry zs mo) ≤ m_violation zs
    · rw [if_pos c1, if_pos c1, if_pos rfl, over_e]
      by_cases c2 : mo < 6
      · rw [if_pos c2, if_pos c2, if_pos rfl]
      · rw [if_neg c2, if_neg c2]
        by_cases c3 : zs 7 = 3
        · rw [if_pos c3, if_pos c3, if_pos rfl]
        · rw [if_neg c3, if_neg c3]
          generalize uAhd zs (if mo = 6 then 50 else 3550) = q
          by_cases c4 : q < 1000
          · rw [if_pos c4, if_pos c4, if_pos rfl]
          · rw [if_neg c4, if_neg c4]
            by_cases c5 : q ≤ uPre zs
            · rw [if_pos c5, if_pos c5, if_pos rfl]
            · rw [if_neg c5, if_neg c5, if_neg z1]
    · rw [if_neg c1, if_neg c1, if_neg z1]
  · rw [if_neg c0, if_neg c0]
theorem per_k (mm mr : Int32) (zs zp : Nat → Int32) (mo : Int32) : (m_isPermitted_j30 mm mr zs zp mo 1).1 = 0 := by
  have z1 : ¬ ((1 : Int32) = 0) := by decide
  unfold m_isPermitted_j30
  simp only [spLet_x]
  by_cases c0 : m_isAtEnd zs mo = 0
  · rw [if_pos c0, if_neg z1]
  · rw [if_neg c0]
theorem per_m (mm mr : Int32) (zs zp : Nat → Int32) (mo : Int32) : (m_isPermitted mm mr zs zp mo).1 = perM zs mo := by
  unfold m_isPermitted m_isPermitted_j25 m_isPermitted_j29 perM
  by_cases c : zs 7 = 2
  · rw [if_pos c]
    by_cases d0 : mo = 0
    · rw [if_pos d0, per_k, if_pos (show zs 7 = 2 ∧ (mo = 0 ∨ mo = 3 ∨ mo = 4) from ⟨c, Or.inl d0⟩), ite_self]
    · rw [if_neg d0]
      by_cases d1 : mo = 3
      · rw [if_pos d1, per_k, if_pos (show zs 7 = 2 ∧ (mo = 0 ∨ mo = 3 ∨ mo = 4) from ⟨c, Or.inr (Or.inl d1)⟩), ite_self]
      · rw [if_neg d1]
        by_cases d2 : mo = 4
        · rw [if_pos d2, per_k, if_pos (show zs 7 = 2 ∧ (mo = 0 ∨ mo = 3 ∨ mo = 4) from ⟨c, Or.inr (Or.inr d2)⟩), ite_self]
        · rw [if_neg d2, per_j, if_neg (show ¬ (zs 7 = 2 ∧ (mo = 0 ∨ mo = 3 ∨ mo = 4)) from fun h => by rcases h.2 with k | k | k <;> contradiction)]
  · rw [if_neg c, per_j, if_neg (show ¬ (zs 7 = 2 ∧ (mo = 0 ∨ mo = 3 ∨ mo = 4)) from fun h => c h.1)]
theorem q_j120 {cw : Int32} {cv ce cs zs : Nat → Int32} (hc : cTab cw cv ce cs zs) (hG : mG zs) (t : Int32) (ht : t.toInt = 50 ∨ t.toInt = 3550) : x_X8_isPermitted_j120 (zs 0) (zs 1) (zs 2) (zs 4) (zs 6) (zs 5) cw cv ce cs t = if uAhd zs t < 1000 then 1 else if uAhd zs t ≤ uPre zs then 1 else 0 := by
  have b2 := hG.c2
  have e := zrem (zadd (x := zs 2) (y := t) rfl rfl (by omega) (by omega)) l_3600 (by omega) (by omega)
  unfold x_X8_isPermitted_j120
  simp only [spLet_x]
  rw [q_utilN hc hG (by rw [e]; omega) (by rw [e]; omega), q_utilN hc hG b2.1 (by omega)]
  show (if uAhd zs t < 1000 then (1 : Int32) else if uPre zs < uAhd zs t then 0 else 1) = _
  by_cases c : uAhd zs t < 1000
  · rw [if_pos c, if_pos c]
  · rw [if_neg c, if_neg c]
    by_cases d : uPre zs < uAhd zs t
    · rw [if_pos d, if_neg (Int32.not_le.mpr d)]
    · rw [if_neg d, if_pos (Int32.not_lt.mp d)]
theorem q_permitted {cw zc : Int32} {cv ce cs zf zs : Nat → Int32} (hc : cTab cw cv ce cs zs) (hz : cZon zc zf zs) (hG : mG zs) {mo : Int32} (h0 : 0 ≤ mo.toInt) (h8 : mo.toInt < 8) : x_X8_isPermitted (zs 7) (zs 0) (zs 1) (zs 2) (zs 3) (zs 4) (zs 6) (zs 5) cw cv ce cs zc zf mo = perM zs mo := by
  have z1 : ¬ ((1 : Int32) = 0) := by decide
  have ev : x_X7_violation zc zf (zs 0) (zs 1) (zs 2) = m_violation zs := by obtain ⟨rfl, h⟩ := hz; exact q_violation h hG
  have ej : x_X8_isPermitted_j36 (zs 7) (zs 0) (zs 1) (zs 2) (zs 3) (zs 4) (zs 6) (zs 5) cw cv ce cs zc zf mo = if m_violation (m_carry zs mo) ≤ m_violation zs then (if mo < 6 then 1 else if zs 7 = 3 then 1 else if uAhd zs (if mo = 6 then 50 else 3550) < 1000 then 1 else if uAhd zs (if mo = 6 then 50 else 3550) ≤ uPre zs then 1 else 0) else 0 := by
    unfold x_X8_isPermitted_j36 x_X8_tryMotion
    simp only [spLet_x, q_move zs hG h0 h8, bv]
    rw [q_vioC hz hG, ev, q_j120 hc hG 50 (Or.inl (by decide)), q_j120 hc hG 3550 (Or.inr (by decide))]
    by_cases c1 : m_violation (m_carry zs mo) ≤ m_violation zs
    · rw [if_pos c1, if_pos c1]
      by_cases c2 : mo < 6
      · rw [if_pos c2, if_pos c2]
      · rw [if_neg c2, if_neg c2]
        by_cases c3 : zs 7 = 3
        · rw [if_pos c3, if_pos c3]
        · rw [if_neg c3, if_neg c3]
          by_cases c4 : mo = 6
          · rw [if_pos c4, if_pos c4]
          · rw [if_neg c4, if_neg c4]
    · rw [if_neg c1, if_neg c1]
  unfold x_X8_isPermitted perM x_X8_addsMoment
  simp only [spLet_x, q_atEnd zs hG h0 h8, ej]
  by_cases c0 : m_isAtEnd zs mo = 0
  · rw [if_pos c0, if_pos c0]
    by_cases c : zs 7 = 2
    · rw [if_pos c]
      by_cases d0 : mo = 0
      · rw [if_pos d0, if_neg z1, if_pos (show zs 7 = 2 ∧ (mo = 0 ∨ mo = 3 ∨ mo = 4) from ⟨c, Or.inl d0⟩)]
      · rw [if_neg d0]
        by_cases d1 : mo = 3
        · rw [if_pos d1, if_neg z1, if_pos (show zs 7 = 2 ∧ (mo = 0 ∨ mo = 3 ∨ mo = 4) from ⟨c, Or.inr (Or.inl d1)⟩)]
        · rw [if_neg d1]
          by_cases d2 : mo = 4
          · rw [if_pos d2, if_neg z1, if_pos (show zs 7 = 2 ∧ (mo = 0 ∨ mo = 3 ∨ mo = 4) from ⟨c, Or.inr (Or.inr d2)⟩)]
          · rw [if_neg d2, if_pos rfl, if_neg (show ¬ (zs 7 = 2 ∧ (mo = 0 ∨ mo = 3 ∨ mo = 4)) from fun h => by rcases h.2 with k | k | k <;> contradiction)]
    · rw [if_neg c, if_neg (show ¬ (zs 7 = 2 ∧ (mo = 0 ∨ mo = 3 ∨ mo = 4)) from fun h => c h.1)]
  · rw [if_neg c0, if_neg c0]

/-! both sides: the log -/
/-- the cells behind k move three places down -/
def shf (w : Nat → Int32) (k : Nat) : Nat → Int32 := fun q => if 144 + k ≤ q ∧ q < 231 then w (q + 3) else w q
theorem shf_s (w : Nat → Int32) (k : Nat) (hk : k < 87) : shf (upd w (144 + k) (w (144 + k + 3))) (k + 1) = shf w k := by
  funext q
  unfold shf upd
  by_cases h : q = 144 + k
  · subst h
    rw [if_neg (by omega), if_pos rfl, if_pos (by omega)]
  · by_cases h2 : 144 + (k + 1) ≤ q ∧ q < 231
    · rw [if_pos h2, if_neg (by omega), if_pos (by omega)]
    · rw [if_neg h2, if_neg h, if_neg (by omega)]
theorem log_loop (kd vl : Int32) : ∀ (n k : Nat) (w : Nat → Int32), k ≤ 87 → 87 < k + n → spIter (fun _ _ => default) (m_log_b15 kd vl) n k w = m_log_j61 kd vl (upd (shf w k) 143 (shf w k 143 - 1)) := by
  intro n
  induction n with
  | zero => intro k w h h1; omega
  | succ n ih =>
    intro k w h h1
    show m_log_b15 kd vl (spIter (fun _ _ => default) (m_log_b15 kd vl) n) k w = _
    generalize spIter (fun _ _ => default) (m_log_b15 kd vl) n = R at ih ⊢
    unfold m_log_b15
    simp only [spLet_x]
    by_cases c : 87 ≤ k
    · have e : shf w k = w := by
        funext q
        unfold shf
        rw [if_neg (by omega)]
      rw [if_pos c, e]
    · rw [if_neg c]
      have := ih (k + 1) (upd w (144 + k) (w (144 + k + 3))) (by omega) (by omega)
      rw [shf_s w k (by omega)] at this
      exact this
/-- a new event at place c -/
theorem j61_at {w : Nat → Int32} {c : Nat} (hc : w 143 = nI c) (h30 : c < 30) (kd vl : Int32) :
    (∀ q, q < 143 ∨ 234 ≤ q → m_log_j61 kd vl w q = w q) ∧ m_log_j61 kd vl w 143 = nI (c + 1) ∧ (m_log_j61 kd vl w (144 + 3 * c) = w 8 ∧ m_log_j61 kd vl w (145 + 3 * c) = kd ∧ m_log_j61 kd vl w (146 + 3 * c) = vl) ∧ ∀ q, 144 ≤ q → q < 144 + 3 * c → m_log_j61 kd vl w q = w q := by
  have e : (w 143).toNatClampNeg = c := by rw [hc, nI_clamp (by omega)]
  have i1 : 144 + 3 * c + 1 = 145 + 3 * c := by omega
  have i2 : 144 + 3 * c + 2 = 146 + 3 * c := by omega
  unfold m_log_j61
  simp only [spLet_x, e, i1, i2]
  refine ⟨fun q hq => ?_, ?_, ⟨?_, ?_, ?_⟩, fun q h1 h2 => ?_⟩
  · rw [upd_o _ _ _ (by omega), upd_o _ _ _ (by omega), upd_o _ _ _ (by omega), upd_o _ _ _ (by omega)]
  · rw [upd_s, upd_o _ _ _ (by omega), upd_o _ _ _ (by omega), upd_o _ _ _ (by omega), hc]
    exact nadd rfl rfl
  · rw [upd_o _ _ _ (by omega), upd_o _ _ _ (by omega), upd_o _ _ _ (by omega), upd_s]
  · rw [upd_o _ _ _ (by omega), upd_o _ _ _ (by omega), upd_s]
  · rw [upd_o _ _ _ (by omega), upd_s]
  · rw [upd_o _ _ _ (by omega), upd_o _ _ _ (by omega), upd_o _ _ _ (by omega), upd_o _ _ _ (by omega)]
theorem log_at {zs : Nat → Int32} {c : Nat} (hc : zs 143 = nI c) (h30 : c ≤ 30) (kd vl : Int32) :
    (∀ q, q < 143 ∨ 234 ≤ q → m_log zs kd vl q = zs q) ∧ m_log zs kd vl 143 = nI (if c = 30 then 30 else c + 1) ∧ (m_log zs kd vl (144 + 3 * (if c = 30 then 29 else c)) = zs 8 ∧ m_log zs kd vl (145 + 3 * (if c = 30 then 29 else c)) = kd ∧ m_log zs kd vl (146 + 3 * (if c = 30 then 29 else c)) = vl) ∧ ∀ q, 144 ≤ q → q < 144 + 3 * (if c = 30 then 29 else c) → m_log zs kd vl q = zs (if c = 30 then q + 3 else q) := by
  have e : (zs 143).toNatClampNeg = c := by rw [hc, nI_clamp (by omega)]
  unfold m_log
  rw [e]
  by_cases h : c = 30
  · simp only [if_pos h]
    rw [log_loop kd vl 88 0 zs (by omega) (by omega)]
    have e2 : upd (shf zs 0) 143 (shf zs 0 143 - 1) 143 = nI 29 := by
      rw [upd_s]
      unfold shf
      rw [if_neg (by omega), hc, h]
      rfl
    obtain ⟨a1, a2, a3, a4⟩ := j61_at (w := upd (shf zs 0) 143 (shf zs 0 143 - 1)) (c := 29) e2 (by omega) kd vl
    have o : ∀ q, q < 143 ∨ 234 ≤ q → upd (shf zs 0) 143 (shf zs 0 143 - 1) q = zs q := fun q hq => by
      rw [upd_o _ _ _ (by omega)]
      unfold shf
      rw [if_neg (by omega)]
    refine ⟨fun q hq => by rw [a1 q hq, o q hq], a2, ⟨by rw [a3.1, o 8 (by omega)], a3.2.1, a3.2.2⟩, fun q h1 h2 => ?_⟩
    rw [a4 q h1 h2, upd_o _ _ _ (by omega)]
    unfold shf
    rw [if_pos (by omega)]
  · simp only [if_neg h]
    exact j61_at hc (by omega) kd vl
/-- the ring and the cells hold the same events -/
def logR (go gc : Int32) (gt gk gv zs : Nat → Int32) : Prop := ∃ o c : Nat, go = nI o ∧ gc = nI c ∧ o < 30 ∧ c ≤ 30 ∧ zs 143 = nI c ∧ ∀ i, i < c → gt ((o + i) % 30) = zs (144 + 3 * i) ∧ gk ((o + i) % 30) = zs (145 + 3 * i) ∧ gv ((o + i) % 30) = zs (146 + 3 * i)
theorem slot_n {o i : Nat} (ho : o < 30) (hi : i ≤ 30) : x_X3_slotOf (nI o) (nI i) = nI ((o + i) % 30) := by
  have h1 := nI_toInt (n := o) (by omega)
  have h2 := nI_toInt (n := i) (by omega)
  rw [slotOf_e (by omega) (by omega), nI_clamp (by omega), nI_clamp (by omega)]
theorem q_add {go gc : Int32} {gt gk gv zs : Nat → Int32} (h : logR go gc gt gk gv zs) (kd vl : Int32) : logR (x_X3_add go gc gt gk gv (zs 8) kd vl).1 (x_X3_add go gc gt gk gv (zs 8) kd vl).2.1 (x_X3_add go gc gt gk gv (zs 8) kd vl).2.2.1 (x_X3_add go gc gt gk gv (zs 8) kd vl).2.2.2.1 (x_X3_add go gc gt gk gv (zs 8) kd vl).2.2.2.2 (m_log zs kd vl) := by
  obtain ⟨o, c, rfl, rfl, ho, hc, hz, hr⟩ := h
  obtain ⟨-, a2, a3, a4⟩ := log_at hz hc kd vl
  have z30 : ((30 : Int32)).toInt = 30 := by decide
  have ec := nI_toInt (n := c) (by omega)
  have es := slot_n ho hc
  have es1 : x_X3_slotOf (nI o) 1 = nI ((o + 1) % 30) := slot_n ho (i := 1) (by omega)
  unfold x_X3_add
  simp only [spLet_x, es, es1, nI_clamp (show (o + c) % 30 < 2147483648 by omega)]
  by_cases h30 : c = 30
  · simp only [if_pos h30] at a2 a3 a4
    rw [if_pos (Int32.le_iff_toInt_le.mpr (by omega))]
    refine ⟨(o + 1) % 30, c, rfl, rfl, by omega, hc, by rw [a2, h30], fun i hi => ?_⟩
    have es2 : (o + c) % 30 = o := by omega
    show upd gt ((o + c) % 30) (zs 8) (((o + 1) % 30 + i) % 30) = _ ∧ upd gk ((o + c) % 30) kd (((o + 1) % 30 + i) % 30) = _ ∧ upd gv ((o + c) % 30) vl (((o + 1) % 30 + i) % 30) = _
    by_cases hi9 : i = 29
    · have e9 : ((o + 1) % 30 + i) % 30 = (o + c) % 30 := by omega
      rw [e9, upd_s, upd_s, upd_s, hi9]
      exact ⟨a3.1.symm, a3.2.1.symm, a3.2.2.symm⟩
    · have e9 : ((o + 1) % 30 + i) % 30 = (o + (i + 1)) % 30 := by omega
      obtain ⟨r1, r2, r3⟩ := hr (i + 1) (by omega)
      rw [e9, upd_o _ _ _ (by omega), upd_o _ _ _ (by omega), upd_o _ _ _ (by omega), r1, r2, r3, a4 _ (by omega) (by omega), a4 _ (by omega) (by omega), a4 _ (by omega) (by omega)]
      exact ⟨by congr 1, by congr 1, by congr 1⟩
  · simp only [if_neg h30] at a2 a3 a4
    rw [if_neg (fun k => by have := Int32.le_iff_toInt_le.mp k; omega)]
    refine ⟨o, c + 1, rfl, nadd rfl rfl, ho, by omega, a2, fun i hi => ?_⟩
    show upd gt ((o + c) % 30) (zs 8) ((o + i) % 30) = _ ∧ upd gk ((o + c) % 30) kd ((o + i) % 30) = _ ∧ upd gv ((o + c) % 30) vl ((o + i) % 30) = _
    by_cases hi9 : i = c
    · rw [hi9, upd_s, upd_s, upd_s]
      exact ⟨a3.1.symm, a3.2.1.symm, a3.2.2.symm⟩
    · obtain ⟨r1, r2, r3⟩ := hr i (by omega)
      rw [upd_o _ _ _ (by omega), upd_o _ _ _ (by omega), upd_o _ _ _ (by omega), r1, r2, r3, a4 _ (by omega) (by omega), a4 _ (by omega) (by omega), a4 _ (by omega) (by omega)]
      exact ⟨rfl, rfl, rfl⟩

/-! both sides: a tick's later half -/
def bitk (k : Nat) : Int32 := (1 : Int32) <<< ((nI k) &&& 31)
theorem bit_d1 : ∀ n, n < 256 → ∀ k, k < 8 → (decide (nI n &&& bitk k = 0) = !decide ((nI n >>> ((nI k) &&& 31)) &&& 1 = 1)) ∧ (nI n &&& bitk k = 0 ∨ nI n &&& bitk k = bitk k) ∧ decide (nI n &&& bitk k = 0) = decide ((nI n >>> ((nI k) &&& 31)) &&& 1 = 0) := by decide +kernel
theorem bit_d2 : ∀ n, n < 256 → ∀ k, k < 8 → (nI n ||| bitk k) = nI (nI n ||| bitk k).toNatClampNeg ∧ (nI n ||| bitk k).toNatClampNeg < 256 := by decide +kernel
theorem q_next (zs : Nat → Int32) (u : Int32) : x_X8_nextState (zs 7) (zs 9) u = m_nextState zs u := by
  have z1 : ¬ ((1 : Int32) = 0) := by decide
  have n12 : ¬ ((1 : Int32) = 2) := by decide
  have n21 : ¬ ((2 : Int32) = 1) := by decide
  unfold x_X8_nextState x_X8_nextState_j16 x_X8_nextState_j33 x_X8_nextState_j66 x_X8_nextState_j81 m_nextState m_nextState_j39 m_nextState_j61 m_nextState_j66
  by_cases a : zs 9 ≤ 0 <;> by_cases b : zs 7 = 2 <;> by_cases c : (1000 : Int32) ≤ u <;> by_cases d : u < 950 <;> by_cases e : (900 : Int32) ≤ u <;> by_cases g : zs 7 = 1 <;> by_cases j : u < 850 <;> simp_all
def eS (w : Nat → Int32) (r u : Int32) : Nat → Int32 := if r = w 7 then upd w 7 r else if r.toNatClampNeg = 2 then m_log (m_log (upd w 7 r) 1 r) 2 u else m_log (upd w 7 r) 1 r
theorem upd_id (w : Nat → Int32) (i : Nat) {v : Int32} (h : v = w i) : upd w i v = w := by
  funext q
  by_cases e : q = i
  · rw [e, upd_s, h]
  · rw [upd_o _ _ _ e]
theorem log_o {zs : Nat → Int32} (hG : mG zs) (kd vl : Int32) {q : Nat} (hq : q < 143 ∨ 234 ≤ q) : m_log zs kd vl q = zs q := by
  obtain ⟨e1, e2⟩ := hG.ev
  exact (log_at e1 e2 kd vl).1 q hq
theorem logR_u {go gc : Int32} {gt gk gv zs zt : Nat → Int32} (h : logR go gc gt gk gv zs) (hq : ∀ q, 143 ≤ q → q < 234 → zt q = zs q) : logR go gc gt gk gv zt := by
  obtain ⟨o, c, e1, e2, e3, e4, e5, e6⟩ := h
  refine ⟨o, c, e1, e2, e3, e4, by rw [hq 143 (by omega) (by omega)]; exact e5, fun i hi => ?_⟩
  rw [hq _ (by omega) (by omega), hq _ (by omega) (by omega), hq _ (by omega) (by omega)]
  exact e6 i hi
theorem upd7_G {w : Nat → Int32} (hG : mG w) {r : Int32} (hr : r = nI r.toNatClampNeg) (h4 : r.toNatClampNeg < 4) : mG (upd w 7 r) := by
  have e := nI_toInt (n := r.toNatClampNeg) (by omega)
  rw [← hr] at e
  exact mG.upd hG fun _ => ⟨by rw [e]; show (0 : Int) ≤ _; omega, by rw [e]; show _ ≤ (3 : Int); omega⟩
theorem eS_G {w : Nat → Int32} (hG : mG w) {r : Int32} (u : Int32) (hr : r = nI r.toNatClampNeg) (h4 : r.toNatClampNeg < 4) : mG (eS w r u) := by
  have h7 := upd7_G hG hr h4
  unfold eS
  split
  · exact h7
  · split
    · exact log_G (log_G h7 _ _) _ _
    · exact log_G h7 _ _
theorem eS_o {w : Nat → Int32} (hG : mG w) {r : Int32} (u : Int32) (hr : r = nI r.toNatClampNeg) (h4 : r.toNatClampNeg < 4) {q : Nat} (hq : q < 143 ∨ 234 ≤ q) : eS w r u q = upd w 7 r q := by
  have h7 := upd7_G hG hr h4
  unfold eS
  split
  · rfl
  · split
    · rw [log_o (log_G h7 _ _) _ _ hq, log_o h7 _ _ hq]
    · rw [log_o h7 _ _ hq]
theorem q_enter {go gc : Int32} {gt gk gv w : Nat → Int32} (h : logR go gc gt gk gv w) (hG : mG w) {r : Int32} (u : Int32) (hr : r = nI r.toNatClampNeg) (h4 : r.toNatClampNeg < 4) :
    ∃ go' gc' gt' gk' gv', x_X8_enterState (w 7) (w 8) go gc gt gk gv r u = (r, go', gc', gt', gk', gv') ∧ logR go' gc' gt' gk' gv' (eS w r u) := by
  have h7 := upd7_G hG hr h4
  have hu : logR go gc gt gk gv (upd w 7 r) := logR_u h fun q h1 h2 => upd_o _ _ _ (by omega)
  unfold x_X8_enterState eS
  by_cases c : r = w 7
  · rw [if_pos c, if_pos c]
    exact ⟨go, gc, gt, gk, gv, by rw [c], hu⟩
  · rw [if_neg c, if_neg c]
    have a1 := q_add hu 1 r
    have t8 : upd w 7 r 8 = w 8 := upd_o _ _ _ (by decide)
    rw [t8] at a1
    simp only [spLet_x]
    by_cases d : r = 2
    · have d2 : r.toNatClampNeg = 2 := by rw [d]; rfl
      rw [if_pos d, if_pos d2]
      have a2 := q_add a1 2 u
      rw [log_o h7 1 r (q := 8) (by omega), t8] at a2
      exact ⟨_, _, _, _, _, rfl, a2⟩
    · have d2 : ¬ r.toNatClampNeg = 2 := fun k => d (by rw [hr, k]; rfl)
      rw [if_neg d, if_neg d2]
      exact ⟨_, _, _, _, _, rfl, a1⟩
/-- the statistics of both sides -/
def lifR (yg : Int32) (ys yl zs : Nat → Int32) : Prop := yg = (if zs 12 = 0 then -1 else zs 13) ∧ (∀ k, k < 4 → ys k = zs (234 + k)) ∧ ∀ k, k < 8 → yl k = zs (238 + k)
theorem lift01 {zs : Nat → Int32} (hG : mG zs) : zs 12 = 0 ∨ zs 12 = 1 := by
  have b := hG.c12
  by_cases c : (zs 12).toInt = 0
  · exact Or.inl (Int32.toInt_inj.mp (by rw [c, l_0]))
  · exact Or.inr (Int32.toInt_inj.mp (by rw [l_1]; omega))
theorem q_j34 {go gc : Int32} {gt gk gv f : Nat → Int32} (h : logR go gc gt gk gv f) (hG : mG f) {yg : Int32} {ys yl : Nat → Int32} (hl : lifR yg ys yl f) (u : Int32) :
    ∃ go' gc' gt' gk' gv' yg' ys' yl', x_X5_countTick_j34 (f 8) (f 4) go gc gt gk gv u yg ys yl = (go', gc', gt', gk', gv', yg', ys', yl') ∧ logR go' gc' gt' gk' gv' (m_follow_j41 u f) ∧ lifR yg' ys' yl' (m_follow_j41 u f) := by
  have z1 : ¬ ((1 : Int32) = 0) := by decide
  have z01 : ¬ ((0 : Int32) = 1) := by decide
  obtain ⟨l1, l2, l3⟩ := hl
  have b13 := hG.c13
  unfold x_X5_countTick_j34 x_X5_countTick_j54 m_follow_j41 x_X6_followLift
  simp only [spLet_x]
  rcases lift01 hG with c | c
  · -- no lift
    rw [if_pos c] at l1
    have hn : ¬ (0 : Int32) ≤ yg := by rw [l1]; decide
    simp only [if_neg hn, c]
    rw [if_neg z01]
    refine ⟨go, gc, gt, gk, gv, yg, ys, yl, ?_, h, by rw [if_pos c]; exact l1, l2, l3⟩
    split <;> rfl
  · rw [if_neg (by rw [c]; exact z1)] at l1
    have hp : (0 : Int32) ≤ yg := Int32.le_iff_toInt_le.mpr (by rw [l1, l_0]; omega)
    have eg : (if yg < u then u else yg) = m_greater (f 13) u := by rw [greater_lt, l1]
    have g4 : upd f 13 (m_greater (f 13) u) 4 = f 4 := upd_o _ _ _ (by decide)
    have gG : mG (upd f 13 (m_greater (f 13) u)) := mG.upd hG fun _ => fol13 hG u
    simp only [if_pos hp, eg, if_pos c, g4]
    by_cases d : f 4 = 0
    · rw [if_pos d]
      simp only [if_neg z1]
      have e13 : upd f 13 (m_greater (f 13) u) 13 = m_greater (f 13) u := upd_s _ _ _
      obtain ⟨i1, i2⟩ := fol_its gG
      rw [e13] at i1 i2
      have el : (if (7 : Int32) < m_greater (f 13) u / 125 then (7 : Int32) else m_greater (f 13) u / 125) = m_lesser 7 (m_greater (f 13) u / 125) := (lesser_sw _ _).symm
      rw [el, e13]
      generalize m_lesser 7 (m_greater (f 13) u / 125) = r at i1 i2
      have hne : ¬ r = -1 := fun k => by rw [k] at i1; exact absurd i1 (by decide)
      rw [if_neg hne, if_pos d]
      have hq : ∀ q, q < 238 → ¬ q = 12 → ¬ q = 13 → upd (upd (upd (upd f 13 (m_greater (f 13) u)) 12 0) 13 0) (238 + r.toNatClampNeg) (upd (upd (upd f 13 (m_greater (f 13) u)) 12 0) 13 0 (238 + r.toNatClampNeg) + 1) q = f q := fun q h1 h2 h3 => by
        rw [upd_o _ _ _ (by omega), upd_o _ _ _ (by omega), upd_o _ _ _ (by omega), upd_o _ _ _ (by omega)]
      have hL : logR go gc gt gk gv (upd (upd (upd (upd f 13 (m_greater (f 13) u)) 12 0) 13 0) (238 + r.toNatClampNeg) (upd (upd (upd f 13 (m_greater (f 13) u)) 12 0) 13 0 (238 + r.toNatClampNeg) + 1)) := logR_u h fun q h1 h2 => hq q (by omega) (by omega) (by omega)
      have G2 : mG (upd (upd (upd (upd f 13 (m_greater (f 13) u)) 12 0) 13 0) (238 + r.toNatClampNeg) (upd (upd (upd f 13 (m_greater (f 13) u)) 12 0) 13 0 (238 + r.toNatClampNeg) + 1)) := mG.upd (mG.upd (mG.upd gG fun _ => ⟨by decide, by decide⟩) fun _ => ⟨by decide, by decide⟩) fun _ => mfree (by omega) _
      have e8 := hq 8 (by omega) (by omega) (by omega)
      have ek : ∀ k, k < 8 → upd (upd (upd (upd f 13 (m_greater (f 13) u)) 12 0) 13 0) (238 + r.toNatClampNeg) (upd (upd (upd f 13 (m_greater (f 13) u)) 12 0) 13 0 (238 + r.toNatClampNeg) + 1) (238 + k) = upd yl r.toNatClampNeg (yl r.toNatClampNeg + 1) k := fun k hk => by
        by_cases e : k = r.toNatClampNeg
        · rw [e, upd_s, upd_s, upd_o _ _ _ (by omega), upd_o _ _ _ (by omega), upd_o _ _ _ (by omega), l3 _ i2]
        · rw [upd_o _ _ _ (by omega), upd_o _ _ _ (by omega), upd_o _ _ _ (by omega), upd_o _ _ _ (by omega), upd_o _ _ _ e, l3 _ hk]
      have e12 : upd (upd (upd (upd f 13 (m_greater (f 13) u)) 12 0) 13 0) (238 + r.toNatClampNeg) (upd (upd (upd f 13 (m_greater (f 13) u)) 12 0) 13 0 (238 + r.toNatClampNeg) + 1) 12 = 0 := by rw [upd_o _ _ _ (by omega), upd_o _ _ _ (by omega), upd_s]
      generalize upd (upd (upd (upd f 13 (m_greater (f 13) u)) 12 0) 13 0) (238 + r.toNatClampNeg) (upd (upd (upd f 13 (m_greater (f 13) u)) 12 0) 13 0 (238 + r.toNatClampNeg) + 1) = W at hq hL G2 e8 ek e12
      have a := q_add hL 3 r
      rw [e8] at a
      refine ⟨_, _, _, _, _, _, _, _, rfl, a, ?_, fun k hk => ?_, fun k hk => ?_⟩
      · rw [log_o G2 _ _ (by omega), e12, if_pos rfl]
      · rw [log_o G2 _ _ (by omega), hq _ (by omega) (by omega) (by omega)]; exact l2 k hk
      · rw [log_o G2 _ _ (by omega)]; exact (ek k hk).symm
    · rw [if_neg d]
      simp only [if_true, if_neg d]
      refine ⟨_, _, _, _, _, _, _, _, rfl, logR_u h fun q h1 h2 => upd_o _ _ _ (by omega), ?_, fun k hk => ?_, fun k hk => ?_⟩
      · rw [upd_o _ _ _ (by decide), c, if_neg z1, upd_s]
      · rw [upd_o _ _ _ (by omega)]; exact l2 k hk
      · rw [upd_o _ _ _ (by omega)]; exact l3 k hk
theorem j41_G {f : Nat → Int32} (hG : mG f) (u : Int32) : mG (m_follow_j41 u f) := follow_j41_G hG u
theorem q_count {go gc : Int32} {gt gk gv w : Nat → Int32} (h : logR go gc gt gk gv w) (hG : mG w) {yg r : Int32} {ys yl : Nat → Int32} (hl : lifR yg ys yl w) (hr : r = nI r.toNatClampNeg) (h4 : r.toNatClampNeg < 4) (tb u : Int32) :
    ∃ go' gc' gt' gk' gv' yg' ys' yl', x_X5_countTick r (w 8) (w 4) go gc gt gk gv yg ys yl tb u = (go', gc', gt', gk', gv', yg', ys', yl') ∧ logR go' gc' gt' gk' gv' (m_follow (upd w (234 + r.toNatClampNeg) (w (234 + r.toNatClampNeg) + 1)) tb u) ∧ lifR yg' ys' yl' (m_follow (upd w (234 + r.toNatClampNeg) (w (234 + r.toNatClampNeg) + 1)) tb u) := by
  obtain ⟨l1, l2, l3⟩ := hl
  have ei := nI_toInt (n := r.toNatClampNeg) (by omega)
  rw [← hr] at ei
  have ec : x_X6_countState ys r = upd ys r.toNatClampNeg (ys r.toNatClampNeg + 1) := by
    unfold x_X6_countState
    simp only [spLet_x]
    rw [if_neg (fun k => by have := (lt_i l_0).mp k; omega), if_neg (fun k => by have := (i_le l_4).mp k; omega)]
  have hf : ∀ q, q < 234 → upd w (234 + r.toNatClampNeg) (w (234 + r.toNatClampNeg) + 1) q = w q := fun q hq => upd_o _ _ _ (by omega)
  have hL := logR_u h (zt := upd w (234 + r.toNatClampNeg) (w (234 + r.toNatClampNeg) + 1)) fun q h1 h2 => hf q h2
  have hT : lifR yg (upd ys r.toNatClampNeg (ys r.toNatClampNeg + 1)) yl (upd w (234 + r.toNatClampNeg) (w (234 + r.toNatClampNeg) + 1)) := by
    refine ⟨by rw [hf 12 (by omega), hf 13 (by omega)]; exact l1, fun k hk => ?_, fun k hk => ?_⟩
    · by_cases e : k = r.toNatClampNeg
      · rw [e, upd_s, upd_s, l2 _ h4]
      · rw [upd_o _ _ _ e, upd_o _ _ _ (by omega), l2 _ hk]
    · rw [upd_o _ _ _ (by omega)]; exact l3 k hk
  have G : mG (upd w (234 + r.toNatClampNeg) (w (234 + r.toNatClampNeg) + 1)) := mG.upd hG fun _ => mfree (by omega) _
  have e8 := hf 8 (by omega)
  have e4 := hf 4 (by omega)
  unfold x_X5_countTick
  simp only [spLet_x, ec, ← e8, ← e4]
  generalize upd w (234 + r.toNatClampNeg) (w (234 + r.toNatClampNeg) + 1) = f at hL hT G ⊢
  generalize upd ys r.toNatClampNeg (ys r.toNatClampNeg + 1) = ys' at hT ⊢
  unfold m_follow
  by_cases c : (4 : Int32) ≤ tb
  · rw [if_pos c, if_pos c]
    exact q_j34 hL G hT u
  · rw [if_neg c, if_neg c]
    by_cases d : f 4 = 4
    · rw [if_pos d, if_pos d]
      simp only [spLet_x]
      unfold x_X6_beginLift
      rcases lift01 G with k | k
      · have eg : yg = -1 := by rw [hT.1, if_pos k]
        rw [if_pos eg, if_pos k]
        have o : ∀ q, ¬ q = 12 → ¬ q = 13 → upd (upd f 12 1) 13 0 q = f q := fun q h1 h2 => by rw [upd_o _ _ _ h2, upd_o _ _ _ h1]
        have e12 : upd (upd f 12 1) 13 0 12 = 1 := by rw [upd_o _ _ _ (by decide), upd_s]
        have e13 : upd (upd f 12 1) 13 0 13 = 0 := upd_s _ _ _
        have G2 : mG (upd (upd f 12 1) 13 0) := mG.upd (mG.upd G fun _ => ⟨by decide, by decide⟩) fun _ => ⟨by decide, by decide⟩
        rw [← o 8 (by decide) (by decide), ← o 4 (by decide) (by decide)]
        have a1 : logR go gc gt gk gv (upd (upd f 12 1) 13 0) := logR_u hL fun q h1 h2 => o q (by omega) (by omega)
        have a2 : lifR 0 ys' yl (upd (upd f 12 1) 13 0) := ⟨by rw [e12, if_neg (by decide), e13], fun q hq => by rw [o _ (by omega) (by omega)]; exact hT.2.1 q hq, fun q hq => by rw [o _ (by omega) (by omega)]; exact hT.2.2 q hq⟩
        exact q_j34 a1 G2 a2 u
      · have k0 : ¬ f 12 = 0 := by rw [k]; decide
        have eg : ¬ yg = -1 := fun e => by
          have e1 := hT.1
          rw [if_neg k0] at e1
          have b := G.c13
          rw [← e1, e] at b
          exact absurd b.1 (by decide)
        rw [if_neg eg, if_neg k0]
        exact q_j34 hL G hT u
    · rw [if_neg d, if_neg d]
      exact q_j34 hL G hT u

