/-! ranges of what the reference computes -/
theorem wide0 : ∀ r, r < 3 → ∀ c, c < 5 → ¬ (m_columnRadius (nI (c + 1)) - m_columnRadius (nI c)).toInt64 * (m_rowLength (nI (r + 1)) - m_rowLength (nI r)).toInt64 = 0 := by decide +kernel
theorem cos_all : ∀ n, n < 901 → 0 ≤ (m_cosine (nI n)).toInt ∧ (m_cosine (nI n)).toInt ≤ 10000 := by decide +kernel
theorem cos_r {a : Int32} (h0 : 0 ≤ a.toInt) (h1 : a.toInt ≤ 900) : 0 ≤ (m_cosine a).toInt ∧ (m_cosine a).toInt ≤ 10000 := by
  rw [nI_ofInt h0]
  exact cos_all _ (by omega)
theorem greater_r (a b : Int32) : (m_greater a b).toInt = max a.toInt b.toInt := by
  unfold m_greater
  by_cases q : a ≤ b
  · rw [if_pos q]; have := Int32.le_iff_toInt_le.mp q; omega
  · rw [if_neg q]; have : ¬ a.toInt ≤ b.toInt := fun z => q (Int32.le_iff_toInt_le.mpr z); omega
theorem lesser_r (a b : Int32) : (m_lesser a b).toInt = min a.toInt b.toInt := by
  unfold m_lesser
  by_cases q : b ≤ a
  · rw [if_pos q]; have := Int32.le_iff_toInt_le.mp q; omega
  · rw [if_neg q]; have : ¬ b.toInt ≤ a.toInt := fun z => q (Int32.le_iff_toInt_le.mpr z); omega
theorem radiusOf_e (le an : Int32) : m_radiusOf le an = m_greater 100 (le * m_cosine an / 10000 - 150) := rfl
theorem heightOf_e (le an : Int32) : m_heightOf le an = le * m_cosine (900 - an) / 10000 + 250 := rfl
theorem lc_r {le cz : Int32} (l0 : 1000 ≤ le.toInt) (l1 : le.toInt ≤ 6000) (c0 : 0 ≤ cz.toInt) (c1 : cz.toInt ≤ 10000) : (le * cz / 10000).toInt = le.toInt * cz.toInt / 10000 ∧ 0 ≤ le.toInt * cz.toInt ∧ le.toInt * cz.toInt ≤ 60000000 := by
  obtain ⟨h1, h2⟩ := mulb (a := le.toInt) (A := 6000) (by omega) l1 c0 c1
  exact ⟨zdiv (zmul rfl rfl (by omega) (by omega)) (show ((10000 : Int32)).toInt = 10000 by decide) h1 (by omega), h1, by omega⟩
theorem radiusOf_r {le an : Int32} (l0 : 1000 ≤ le.toInt) (l1 : le.toInt ≤ 6000) (a0 : 0 ≤ an.toInt) (a1 : an.toInt ≤ 850) : 100 ≤ (m_radiusOf le an).toInt ∧ (m_radiusOf le an).toInt ≤ 5850 := by
  obtain ⟨c0, c1⟩ := cos_r (a := an) a0 (by omega)
  obtain ⟨h1, h2, h3⟩ := lc_r l0 l1 c0 c1
  have h4 : (le * m_cosine an / 10000 - 150).toInt = le.toInt * (m_cosine an).toInt / 10000 - 150 := zsub h1 (show ((150 : Int32)).toInt = 150 by decide) (by omega) (by omega)
  rw [radiusOf_e, greater_r, h4]
  have h5 : ((100 : Int32)).toInt = 100 := by decide
  omega
theorem heightOf_r {le an : Int32} (l0 : 1000 ≤ le.toInt) (l1 : le.toInt ≤ 6000) (a0 : 0 ≤ an.toInt) (a1 : an.toInt ≤ 850) : 250 ≤ (m_heightOf le an).toInt ∧ (m_heightOf le an).toInt ≤ 6250 := by
  have ha : (900 - an).toInt = 900 - an.toInt := zsub (show ((900 : Int32)).toInt = 900 by decide) rfl (by omega) (by omega)
  obtain ⟨c0, c1⟩ := cos_r (a := 900 - an) (by omega) (by omega)
  obtain ⟨h1, h2, h3⟩ := lc_r l0 l1 c0 c1
  rw [heightOf_e, zadd h1 (show ((250 : Int32)).toInt = 250 by decide) (by omega) (by omega)]
  omega
/-- the deflection, as a number -/
theorem defl_r {zs : Nat → Int32} {ma : Int64} (l0 : 1000 ≤ (zs 0).toInt) (l1 : (zs 0).toInt ≤ 6000) (m0 : 0 ≤ ma.toInt) (m1 : ma.toInt ≤ 1200000000) : (ma * (zs 0).toInt64 * (zs 0).toInt64 / 750000000).toInt = (m_deflection zs ma).toInt ∧ 0 ≤ (m_deflection zs ma).toInt ∧ (m_deflection zs ma).toInt ≤ ma.toInt * 6 / 125 := by
  obtain ⟨h1, h2⟩ := mulb (a := ma.toInt) (A := 1200000000) m0 m1 (show 0 ≤ (zs 0).toInt by omega) l1
  obtain ⟨h3, h4⟩ := mulb (a := (zs 0).toInt) (A := 6000) (by omega) l1 (show 0 ≤ (zs 0).toInt by omega) l1
  have h5 : ma.toInt * (zs 0).toInt * (zs 0).toInt = ma.toInt * ((zs 0).toInt * (zs 0).toInt) := Int.mul_assoc _ _ _
  have h6 : ma.toInt * ((zs 0).toInt * (zs 0).toInt) ≤ ma.toInt * 36000000 := Int.mul_le_mul_of_nonneg_left (by omega) m0
  have h7 : 0 ≤ ma.toInt * ((zs 0).toInt * (zs 0).toInt) := Int.mul_nonneg m0 h3
  have e1 : (ma * (zs 0).toInt64).toInt = ma.toInt * (zs 0).toInt := lmul' rfl (zi2l rfl) (by omega) (by omega)
  have e2 : (ma * (zs 0).toInt64 * (zs 0).toInt64).toInt = ma.toInt * (zs 0).toInt * (zs 0).toInt := lmul' e1 (zi2l rfl) (by omega) (by omega)
  have e3 : (ma * (zs 0).toInt64 * (zs 0).toInt64 / 750000000).toInt = ma.toInt * (zs 0).toInt * (zs 0).toInt / 750000000 := ldiv' e2 (show ((750000000 : Int64)).toInt = 750000000 by decide) (by omega) (by omega)
  have e4 : (m_deflection zs ma).toInt = ma.toInt * (zs 0).toInt * (zs 0).toInt / 750000000 := zl2i e3 (by omega) (by omega)
  refine ⟨by rw [e3, e4], by rw [e4]; omega, by rw [e4]; omega⟩
/-- what a crane's cells are within -/
def mlo (k : Nat) : Int := if k = 0 then 1000 else if k = 8 ∨ k = 11 then -2147483648 else if k < 144 then 0 else -2147483648
def mhi (k : Nat) : Int := if k = 0 then 6000 else if k = 1 then 850 else if k = 2 then 3599 else if k = 3 then 6050 else if k = 4 then 4 else if k = 5 then 2000 else if k = 6 then 100000 else if k = 7 then 3 else if k = 8 then 2147483647 else if k = 9 then 1000 else if k = 10 then 1 else if k = 11 then 2147483647 else if k = 12 then 1 else if k = 13 then 2147483647 else if k < 18 then 1000 else if k = 18 then 6 else if k < 43 then (if (k - 19) % 4 < 2 then 3599 else 10000) else if k < 47 then 2 else if k < 143 then 100000 else if k = 143 then 30 else 2147483647
def mG (zs : Nat → Int32) : Prop := ∀ k, k < 246 → mlo k ≤ (zs k).toInt ∧ (zs k).toInt ≤ mhi k
theorem mG.c0 {zs : Nat → Int32} (h : mG zs) : 1000 ≤ (zs 0).toInt ∧ (zs 0).toInt ≤ 6000 := h 0 (by omega)
theorem mG.c1 {zs : Nat → Int32} (h : mG zs) : 0 ≤ (zs 1).toInt ∧ (zs 1).toInt ≤ 850 := h 1 (by omega)
theorem mG.c2 {zs : Nat → Int32} (h : mG zs) : 0 ≤ (zs 2).toInt ∧ (zs 2).toInt ≤ 3599 := h 2 (by omega)
theorem mG.c3 {zs : Nat → Int32} (h : mG zs) : 0 ≤ (zs 3).toInt ∧ (zs 3).toInt ≤ 6050 := h 3 (by omega)
theorem mG.c4 {zs : Nat → Int32} (h : mG zs) : 0 ≤ (zs 4).toInt ∧ (zs 4).toInt ≤ 4 := h 4 (by omega)
theorem mG.c5 {zs : Nat → Int32} (h : mG zs) : 0 ≤ (zs 5).toInt ∧ (zs 5).toInt ≤ 2000 := h 5 (by omega)
theorem mG.c6 {zs : Nat → Int32} (h : mG zs) : 0 ≤ (zs 6).toInt ∧ (zs 6).toInt ≤ 100000 := h 6 (by omega)
theorem mG.c7 {zs : Nat → Int32} (h : mG zs) : 0 ≤ (zs 7).toInt ∧ (zs 7).toInt ≤ 3 := h 7 (by omega)
theorem mG.c9 {zs : Nat → Int32} (h : mG zs) : 0 ≤ (zs 9).toInt ∧ (zs 9).toInt ≤ 1000 := h 9 (by omega)
theorem mG.c10 {zs : Nat → Int32} (h : mG zs) : 0 ≤ (zs 10).toInt ∧ (zs 10).toInt ≤ 1 := h 10 (by omega)
theorem mG.c12 {zs : Nat → Int32} (h : mG zs) : 0 ≤ (zs 12).toInt ∧ (zs 12).toInt ≤ 1 := h 12 (by omega)
theorem mG.c13 {zs : Nat → Int32} (h : mG zs) : 0 ≤ (zs 13).toInt ∧ (zs 13).toInt ≤ 2147483647 := h 13 (by omega)
theorem mG.c18 {zs : Nat → Int32} (h : mG zs) : 0 ≤ (zs 18).toInt ∧ (zs 18).toInt ≤ 6 := h 18 (by omega)
theorem mG.c143 {zs : Nat → Int32} (h : mG zs) : 0 ≤ (zs 143).toInt ∧ (zs 143).toInt ≤ 30 := h 143 (by omega)
theorem mG.upd {zs : Nat → Int32} (h : mG zs) {j : Nat} {v : Int32} (hv : j < 246 → mlo j ≤ v.toInt ∧ v.toInt ≤ mhi j) : mG (upd zs j v) := by
  intro k hk
  by_cases e : k = j
  · subst e; rw [pk_us]; exact hv hk
  · rw [pk_un e]; exact h k hk
theorem mG.radius {zs : Nat → Int32} (h : mG zs) : 100 ≤ (m_radius zs).toInt ∧ (m_radius zs).toInt ≤ 5850 := by
  have a0 := h.c0
  have a1 := h.c1
  exact radiusOf_r a0.1 a0.2 a1.1 a1.2
theorem mG.height {zs : Nat → Int32} (h : mG zs) : 250 ≤ (m_height zs).toInt ∧ (m_height zs).toInt ≤ 6250 := by
  have a0 := h.c0
  have a1 := h.c1
  exact heightOf_r a0.1 a0.2 a1.1 a1.2
theorem mG.defl {zs : Nat → Int32} (h : mG zs) {ma : Int64} (m0 : 0 ≤ ma.toInt) (m1 : ma.toInt ≤ 1200000000) : 0 ≤ (m_deflection zs ma).toInt ∧ (m_deflection zs ma).toInt ≤ ma.toInt * 6 / 125 := by
  have a0 := h.c0
  exact (defl_r a0.1 a0.2 m0 m1).2
/-- the boom's moment -/
theorem mG.moment {zs : Nat → Int32} (h : mG zs) : 0 ≤ (m_moment zs).toInt ∧ (m_moment zs).toInt ≤ 14400000 := by
  have a0 := h.c0
  obtain ⟨r0, r1⟩ := h.radius
  have e : m_moment zs = (4 * zs 0 / 5).toInt64 * ((m_radius zs + 150) / 2).toInt64 := rfl
  have e1 : (4 * zs 0 / 5).toInt = 4 * (zs 0).toInt / 5 := zdiv (zmul (show ((4 : Int32)).toInt = 4 by decide) rfl (by omega) (by omega)) (show ((5 : Int32)).toInt = 5 by decide) (by omega) (by omega)
  have e2 : ((m_radius zs + 150) / 2).toInt = ((m_radius zs).toInt + 150) / 2 := zdiv (zadd rfl (show ((150 : Int32)).toInt = 150 by decide) (by omega) (by omega)) (show ((2 : Int32)).toInt = 2 by decide) (by omega) (by omega)
  obtain ⟨h1, h2⟩ := mulb (a := 4 * (zs 0).toInt / 5) (A := 4800) (b := ((m_radius zs).toInt + 150) / 2) (B := 3000) (by omega) (by omega) (by omega) (by omega)
  rw [e, lmul' (zi2l e1) (zi2l e2) (by omega) (by omega)]
  exact ⟨h1, by omega⟩
/-- what hangs on the rope -/
def mX (zs : Nat → Int32) : Int32 := zs 6 * zs 4 / 4 + zs 5
theorem mG.hangs {zs : Nat → Int32} (h : mG zs) : 0 ≤ (mX zs).toInt ∧ (mX zs).toInt ≤ 102000 := by
  have a4 := h.c4
  have a5 := h.c5
  have a6 := h.c6
  obtain ⟨h1, h2⟩ := mulb a6.1 a6.2 a4.1 a4.2
  have e : (mX zs).toInt = (zs 6).toInt * (zs 4).toInt / 4 + (zs 5).toInt := zadd (zdiv (zmul rfl rfl (by omega) (by omega)) (show ((4 : Int32)).toInt = 4 by decide) h1 (by omega)) rfl (by omega) (by omega)
  rw [e]
  omega
/-- the pressure and the load's moment -/
theorem mG.pressure {zs : Nat → Int32} (h : mG zs) : ∃ w : Int, 0 ≤ w ∧ w ≤ 1111392000 ∧ ((mX zs).toInt64 * (m_radius zs + m_deflection zs (mX zs).toInt64 + 150).toInt64).toInt = w ∧ (m_pressure zs).toInt = (w + (m_moment zs).toInt) / 500 := by
  obtain ⟨r0, r1⟩ := h.radius
  obtain ⟨x0, x1⟩ := h.hangs
  obtain ⟨b0, b1⟩ := h.moment
  have ex : (mX zs).toInt64.toInt = (mX zs).toInt := zi2l rfl
  obtain ⟨d0, d1⟩ := h.defl (ma := (mX zs).toInt64) (by omega) (by omega)
  rw [ex] at d1
  have e1 : (m_radius zs + m_deflection zs (mX zs).toInt64 + 150).toInt = (m_radius zs).toInt + (m_deflection zs (mX zs).toInt64).toInt + 150 := zadd (zadd rfl rfl (by omega) (by omega)) (show ((150 : Int32)).toInt = 150 by decide) (by omega) (by omega)
  obtain ⟨h1, h2⟩ := mulb (a := (mX zs).toInt) (A := 102000) (b := (m_radius zs).toInt + (m_deflection zs (mX zs).toInt64).toInt + 150) (B := 10896) x0 x1 (by omega) (by omega)
  have e2 : ((mX zs).toInt64 * (m_radius zs + m_deflection zs (mX zs).toInt64 + 150).toInt64).toInt = (mX zs).toInt * ((m_radius zs).toInt + (m_deflection zs (mX zs).toInt64).toInt + 150) := lmul' ex (zi2l e1) (by omega) (by omega)
  refine ⟨_, h1, by omega, e2, ?_⟩
  have e : m_pressure zs = (((mX zs).toInt64 * (m_radius zs + m_deflection zs (mX zs).toInt64 + 150).toInt64 + m_moment zs) / 500).toInt32 := rfl
  rw [e]
  exact zl2i (ldiv' (ladd' e2 rfl (by omega) (by omega)) (show ((500 : Int64)).toInt = 500 by decide) (by omega) (by omega)) (by omega) (by omega)

