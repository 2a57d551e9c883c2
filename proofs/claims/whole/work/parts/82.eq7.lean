/-! both sides: what is permitted -/
def cZon (zc : Int32) (zf zs : Nat → Int32) : Prop := zc = zs 18 ∧ ∀ k, k < 24 → zf k = zs (19 + k)
theorem q_vioC {zc : Int32} {zf zs : Nat → Int32} (hz : cZon zc zf zs) (hG : mG zs) {mo : Int32} : x_X7_violation zc zf (m_carry zs mo 0) (m_carry zs mo 1) (m_carry zs mo 2) = m_violation (m_carry zs mo) := by
  obtain ⟨rfl, h⟩ := hz
  have e := q_violation (zf := zf) (zs := m_carry zs mo) (fun k hk => by rw [carry_hi zs mo (by omega)]; exact h k hk) (carry_G hG mo)
  rw [carry_hi zs mo (k := 18) (by decide)] at e
  exact e
theorem worse_e (zs zp : Nat → Int32) (mo : Int32) : (m_isWorseZone zs zp mo).1 = if m_violation (m_carry zs mo) ≤ m_violation zs then 0 else 1 := by
  unfold m_isWorseZone
  simp only [spLet_x]
  split <;> rfl
theorem worse_p (zs zp : Nat → Int32) (mo : Int32) : (m_isWorseZone zs zp mo).2 = m_remember zs zp := by
  unfold m_isWorseZone
  simp only [spLet_x]
  split <;> rfl
/-- present and ahead -/
def uPre (zs : Nat → Int32) : Int32 := m_utilizationAt (mMas zs) (mRad zs) zs (zs 2)
def uAhd (zs : Nat → Int32) (t : Int32) : Int32 := m_utilizationAt (mMas zs) (mRad zs) zs (zs 2 + t - (zs 2 + t) / 3600 * 3600)
theorem over_e (mm mr : Int32) (zs : Nat → Int32) (mo : Int32) : (m_isOverloadAhead mm mr zs mo).1 = if mo < 6 then 0 else if zs 7 = 3 then 0 else if uAhd zs (if mo = 6 then 50 else 3550) < 1000 then 0 else if uAhd zs (if mo = 6 then 50 else 3550) ≤ uPre zs then 0 else 1 := by
  unfold m_isOverloadAhead m_isOverloadAhead_j45
  simp only [spLet_x, util_mr]
  by_cases c1 : mo < 6
  · rw [if_pos c1, if_pos c1]
  · rw [if_neg c1, if_neg c1]
    by_cases c2 : zs 7 = 3
    · rw [if_pos c2, if_pos c2]
    · rw [if_neg c2, if_neg c2]
      have hs : ∀ a : Int32, (if m_utilizationAt (mMas zs) (mRad zs) zs (zs 2 + a - (zs 2 + a) / 3600 * 3600) < 1000 then ((0 : Int32), mMas zs, mRad zs) else if m_utilizationAt (mMas zs) (mRad zs) zs (zs 2 + a - (zs 2 + a) / 3600 * 3600) ≤ m_utilizationAt (mMas zs) (mRad zs) zs (zs 2) then (0, mMas zs, mRad zs) else (1, mMas zs, mRad zs)).1 = if uAhd zs a < 1000 then 0 else if uAhd zs a ≤ uPre zs then 0 else 1 := fun a => by
        unfold uAhd uPre
        split
        · rfl
        · split <;> rfl
      by_cases c3 : mo = 6
      · rw [if_pos c3, hs, if_pos c3]
      · rw [if_neg c3, hs, if_neg c3]
/-- whether a motion is permitted, of the cells -/
def perM (zs : Nat → Int32) (mo : Int32) : Int32 :=
  if m_isAtEnd zs mo = 0 then (if zs 7 = 2 ∧ (mo = 0 ∨ mo = 3 ∨ mo = 4) then 0 else if m_violation (m_carry zs mo) ≤ m_violation zs then (if mo < 6 then 1 else if zs 7 = 3 then 1 else if uAhd zs (if mo = 6 then 50 else 3550) < 1000 then 1 else if uAhd zs (if mo = 6 then 50 else 3550) ≤ uPre zs then 1 else 0) else 0) else 0
theorem per_j (mm mr : Int32) (zs zp : Nat → Int32) (mo : Int32) : (m_isPermitted_j30 mm mr zs zp mo 0).1 = if m_isAtEnd zs mo = 0 then (if m_violation (m_carry zs mo) ≤ m_violation zs then (if mo < 6 then 1 else if zs 7 = 3 then 1 else if uAhd zs (if mo = 6 then 50 else 3550) < 1000 then 1 else if uAhd zs (if mo = 6 then 50 else 3550) ≤ uPre zs then 1 else 0) else 0) else 0 := by
  have z1 : ¬ ((1 : Int32) = 0) := by decide
  unfold m_isPermitted_j30
  simp only [spLet_x]
  by_cases c0 : m_isAtEnd zs mo = 0
  · rw [if_pos c0, if_pos c0, if_pos trivial, worse_e]
    by_cases c1 : m_violation (m_carry zs mo) ≤ m_violation zs
    · rw [if_pos c1, if_pos c1, if_pos rfl, over_e]
      by_cases c2 : mo < 6
      · rw [if_pos c2, if_pos c2, if_pos rfl]
      · rw [if_neg c2, if_neg c2]
        by_cases c3 : zs 7 = 3
        · rw [if_pos c3, if_pos c3, if_pos rfl]
        · rw [if_neg c3, if_neg c3]
          generalize uAhd zs (if mo = 6 then 50 else 3550) = q
          by_cases c4 : q < 1000
          · rw [if_pos c4, if_pos c4, if_pos rfl]
          · rw [if_neg c4, if_neg c4]
            by_cases c5 : q ≤ uPre zs
            · rw [if_pos c5, if_pos c5, if_pos rfl]
            · rw [if_neg c5, if_neg c5, if_neg z1]
    · rw [if_neg c1, if_neg c1, if_neg z1]
  · rw [if_neg c0, if_neg c0]
theorem per_k (mm mr : Int32) (zs zp : Nat → Int32) (mo : Int32) : (m_isPermitted_j30 mm mr zs zp mo 1).1 = 0 := by
  have z1 : ¬ ((1 : Int32) = 0) := by decide
  unfold m_isPermitted_j30
  simp only [spLet_x]
  by_cases c0 : m_isAtEnd zs mo = 0
  · rw [if_pos c0, if_neg z1]
  · rw [if_neg c0]
theorem per_m (mm mr : Int32) (zs zp : Nat → Int32) (mo : Int32) : (m_isPermitted mm mr zs zp mo).1 = perM zs mo := by
  unfold m_isPermitted m_isPermitted_j25 m_isPermitted_j29 perM
  by_cases c : zs 7 = 2
  · rw [if_pos c]
    by_cases d0 : mo = 0
    · rw [if_pos d0, per_k, if_pos (show zs 7 = 2 ∧ (mo = 0 ∨ mo = 3 ∨ mo = 4) from ⟨c, Or.inl d0⟩), ite_self]
    · rw [if_neg d0]
      by_cases d1 : mo = 3
      · rw [if_pos d1, per_k, if_pos (show zs 7 = 2 ∧ (mo = 0 ∨ mo = 3 ∨ mo = 4) from ⟨c, Or.inr (Or.inl d1)⟩), ite_self]
      · rw [if_neg d1]
        by_cases d2 : mo = 4
        · rw [if_pos d2, per_k, if_pos (show zs 7 = 2 ∧ (mo = 0 ∨ mo = 3 ∨ mo = 4) from ⟨c, Or.inr (Or.inr d2)⟩), ite_self]
        · rw [if_neg d2, per_j, if_neg (show ¬ (zs 7 = 2 ∧ (mo = 0 ∨ mo = 3 ∨ mo = 4)) from fun h => by rcases h.2 with k | k | k <;> contradiction)]
  · rw [if_neg c, per_j, if_neg (show ¬ (zs 7 = 2 ∧ (mo = 0 ∨ mo = 3 ∨ mo = 4)) from fun h => c h.1)]
theorem q_j120 {cw : Int32} {cv ce cs zs : Nat → Int32} (hc : cTab cw cv ce cs zs) (hG : mG zs) (t : Int32) (ht : t.toInt = 50 ∨ t.toInt = 3550) : x_X8_isPermitted_j120 (zs 0) (zs 1) (zs 2) (zs 4) (zs 6) (zs 5) cw cv ce cs t = if uAhd zs t < 1000 then 1 else if uAhd zs t ≤ uPre zs then 1 else 0 := by
  have b2 := hG.c2
  have e := zrem (zadd (x := zs 2) (y := t) rfl rfl (by omega) (by omega)) l_3600 (by omega) (by omega)
  unfold x_X8_isPermitted_j120
  simp only [spLet_x]
  rw [q_utilN hc hG (by rw [e]; omega) (by rw [e]; omega), q_utilN hc hG b2.1 (by omega)]
  show (if uAhd zs t < 1000 then (1 : Int32) else if uPre zs < uAhd zs t then 0 else 1) = _
  by_cases c : uAhd zs t < 1000
  · rw [if_pos c, if_pos c]
  · rw [if_neg c, if_neg c]
    by_cases d : uPre zs < uAhd zs t
    · rw [if_pos d, if_neg (Int32.not_le.mpr d)]
    · rw [if_neg d, if_pos (Int32.not_lt.mp d)]
theorem q_permitted {cw zc : Int32} {cv ce cs zf zs : Nat → Int32} (hc : cTab cw cv ce cs zs) (hz : cZon zc zf zs) (hG : mG zs) {mo : Int32} (h0 : 0 ≤ mo.toInt) (h8 : mo.toInt < 8) : x_X8_isPermitted (zs 7) (zs 0) (zs 1) (zs 2) (zs 3) (zs 4) (zs 6) (zs 5) cw cv ce cs zc zf mo = perM zs mo := by
  have z1 : ¬ ((1 : Int32) = 0) := by decide
  have ev : x_X7_violation zc zf (zs 0) (zs 1) (zs 2) = m_violation zs := by obtain ⟨rfl, h⟩ := hz; exact q_violation h hG
  have ej : x_X8_isPermitted_j36 (zs 7) (zs 0) (zs 1) (zs 2) (zs 3) (zs 4) (zs 6) (zs 5) cw cv ce cs zc zf mo = if m_violation (m_carry zs mo) ≤ m_violation zs then (if mo < 6 then 1 else if zs 7 = 3 then 1 else if uAhd zs (if mo = 6 then 50 else 3550) < 1000 then 1 else if uAhd zs (if mo = 6 then 50 else 3550) ≤ uPre zs then 1 else 0) else 0 := by
    unfold x_X8_isPermitted_j36 x_X8_tryMotion
    simp only [spLet_x, q_move zs hG h0 h8, bv]
    rw [q_vioC hz hG, ev, q_j120 hc hG 50 (Or.inl (by decide)), q_j120 hc hG 3550 (Or.inr (by decide))]
    by_cases c1 : m_violation (m_carry zs mo) ≤ m_violation zs
    · rw [if_pos c1, if_pos c1]
      by_cases c2 : mo < 6
      · rw [if_pos c2, if_pos c2]
      · rw [if_neg c2, if_neg c2]
        by_cases c3 : zs 7 = 3
        · rw [if_pos c3, if_pos c3]
        · rw [if_neg c3, if_neg c3]
          by_cases c4 : mo = 6
          · rw [if_pos c4, if_pos c4]
          · rw [if_neg c4, if_neg c4]
    · rw [if_neg c1, if_neg c1]
  unfold x_X8_isPermitted perM x_X8_addsMoment
  simp only [spLet_x, q_atEnd zs hG h0 h8, ej]
  by_cases c0 : m_isAtEnd zs mo = 0
  · rw [if_pos c0, if_pos c0]
    by_cases c : zs 7 = 2
    · rw [if_pos c]
      by_cases d0 : mo = 0
      · rw [if_pos d0, if_neg z1, if_pos (show zs 7 = 2 ∧ (mo = 0 ∨ mo = 3 ∨ mo = 4) from ⟨c, Or.inl d0⟩)]
      · rw [if_neg d0]
        by_cases d1 : mo = 3
        · rw [if_pos d1, if_neg z1, if_pos (show zs 7 = 2 ∧ (mo = 0 ∨ mo = 3 ∨ mo = 4) from ⟨c, Or.inr (Or.inl d1)⟩)]
        · rw [if_neg d1]
          by_cases d2 : mo = 4
          · rw [if_pos d2, if_neg z1, if_pos (show zs 7 = 2 ∧ (mo = 0 ∨ mo = 3 ∨ mo = 4) from ⟨c, Or.inr (Or.inr d2)⟩)]
          · rw [if_neg d2, if_pos rfl, if_neg (show ¬ (zs 7 = 2 ∧ (mo = 0 ∨ mo = 3 ∨ mo = 4)) from fun h => by rcases h.2 with k | k | k <;> contradiction)]
    · rw [if_neg c, if_neg (show ¬ (zs 7 = 2 ∧ (mo = 0 ∨ mo = 3 ∨ mo = 4)) from fun h => c h.1)]
  · rw [if_neg c0, if_neg c0]
