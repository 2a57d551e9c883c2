/-! both sides' numbers: capacity, rated capacity, utilization -/
theorem cap_N {N B W D : Int} (h1 : 0 ≤ N) (h2 : N ≤ 100000 * (W * D)) (hB : B = W * D) (h0 : 0 < B) : 0 ≤ N / B ∧ N / B ≤ 100000 := by
  refine ⟨Int.ediv_nonneg h1 (by omega), ?_⟩
  rw [hB] at h0 ⊢
  exact Int.ediv_le_of_le_mul h0 h2
theorem j71_e {zs : Nat → Int32} (h : mG zs) {ta le r : Int32} {i j : Nat} (ht : ta.toNatClampNeg < 4) (hj : inC r.toInt j) (hi : inR le.toInt i) : (m_capacityOf_j71 zs ta le r i j).toInt = bil (tV zs ta.toNatClampNeg) r.toInt le.toInt i j ∧ 0 ≤ bil (tV zs ta.toNatClampNeg) r.toInt le.toInt i j ∧ bil (tV zs ta.toNatClampNeg) r.toInt le.toInt i j ≤ 100000 := by
  obtain ⟨j5, j1, j2⟩ := hj
  obtain ⟨i3, i1, i2⟩ := hi
  have b1 := rad_b j j5
  have b2 := len_b i i3
  have eB : ((tRad (j + 1) - tRad j).toInt64 * (tLen (i + 1) - tLen i).toInt64).toInt = ((tRad (j + 1)).toInt - (tRad j).toInt) * ((tLen (i + 1)).toInt - (tLen i).toInt) := by
    obtain ⟨m1, m2⟩ := mulb (a := (tRad (j + 1)).toInt - (tRad j).toInt) (A := 800) (b := (tLen (i + 1)).toInt - (tLen i).toInt) (B := 5000) (by omega) (by omega) (by omega) (by omega)
    exact lmul' (zi2l (zsub rfl rfl (by omega) (by omega))) (zi2l (zsub rfl rfl (by omega) (by omega))) (by omega) (by omega)
  have hB0 : 0 < ((tRad (j + 1)).toInt - (tRad j).toInt) * ((tLen (i + 1)).toInt - (tLen i).toInt) := Int.mul_pos (by omega) (by omega)
  obtain ⟨N, hN, n0, n1, eN⟩ := bil_l (p := zs (47 + 24 * ta.toNatClampNeg + 6 * i + j)) (q := zs (47 + 24 * ta.toNatClampNeg + 6 * i + (j + 1))) (s := zs (47 + 24 * ta.toNatClampNeg + 6 * (i + 1) + j)) (t := zs (47 + 24 * ta.toNatClampNeg + 6 * (i + 1) + (j + 1))) (u := tRad (j + 1) - r) (v := r - tRad j) (w := tLen (i + 1) - le) (x := le - tLen i)
    rfl rfl rfl rfl (zsub rfl rfl (by omega) (by omega)) (zsub rfl rfl (by omega) (by omega)) (zsub rfl rfl (by omega) (by omega)) (zsub rfl rfl (by omega) (by omega))
    (tV_b h ht (by omega) (by omega)) (tV_b h ht (by omega) (by omega)) (tV_b h ht (by omega) (by omega)) (tV_b h ht (by omega) (by omega)) (by omega) (by omega) (by omega) (by omega) eB hB0
  have en : N / (((tRad (j + 1)).toInt - (tRad j).toInt) * ((tLen (i + 1)).toInt - (tLen i).toInt)) = bil (tV zs ta.toNatClampNeg) r.toInt le.toInt i j := by rw [hN]; rfl
  have h9 := cap_N (B := ((tRad (j + 1)).toInt - (tRad j).toInt) * ((tLen (i + 1)).toInt - (tLen i).toInt)) n0 n1 (by
    rw [show (tRad (j + 1)).toInt - r.toInt + (r.toInt - (tRad j).toInt) = (tRad (j + 1)).toInt - (tRad j).toInt by omega, show (tLen (i + 1)).toInt - le.toInt + (le.toInt - (tLen i).toInt) = (tLen (i + 1)).toInt - (tLen i).toInt by omega]) hB0
  rw [en] at h9 eN
  refine ⟨?_, h9.1, h9.2⟩
  unfold m_capacityOf_j71
  simp only [spLet_x, m_valueAt]
  rw [col_t j (by omega), col_t (j + 1) (by omega), row_t i (by omega), row_t (i + 1) (by omega)]
  exact zl2i eN (by omega) (by omega)
theorem capM_i (zs : Nat → Int32) (ta le r : Int32) : spIter (fun _ => default) (m_capacityOf_b21 zs ta le r) 3 0 = if le ≤ 2000 then m_capacityOf_j44 zs ta le r 0 else if le ≤ 3500 then m_capacityOf_j44 zs ta le r 1 else m_capacityOf_j44 zs ta le r 2 := by
  simp only [spIter, m_capacityOf_b21, spLet_x]
  rw [if_neg (show ¬ 2 ≤ 0 by decide), if_neg (show ¬ 2 ≤ 0 + 1 by decide), if_pos (show 2 ≤ 0 + 1 + 1 by decide)]
  rfl
theorem capM_j (zs : Nat → Int32) (ta le r : Int32) (i : Nat) : m_capacityOf_j44 zs ta le r i = if r ≤ 600 then m_capacityOf_j71 zs ta le r i 0 else if r ≤ 1000 then m_capacityOf_j71 zs ta le r i 1 else if r ≤ 1500 then m_capacityOf_j71 zs ta le r i 2 else if r ≤ 2200 then m_capacityOf_j71 zs ta le r i 3 else m_capacityOf_j71 zs ta le r i 4 := by
  unfold m_capacityOf_j44
  simp only [spIter, m_capacityOf_b47, spLet_x]
  rw [if_neg (show ¬ 4 ≤ 0 by decide), if_neg (show ¬ 4 ≤ 0 + 1 by decide), if_neg (show ¬ 4 ≤ 0 + 1 + 1 by decide), if_neg (show ¬ 4 ≤ 0 + 1 + 1 + 1 by decide), if_pos (show 4 ≤ 0 + 1 + 1 + 1 + 1 by decide)]
  rfl
theorem le_i {a b : Int32} {n : Int} (hb : b.toInt = n) : (a ≤ b) ↔ a.toInt ≤ n := by rw [Int32.le_iff_toInt_le, hb]
theorem lt_i {a b : Int32} {n : Int} (hb : b.toInt = n) : (a < b) ↔ a.toInt < n := by rw [Int32.lt_iff_toInt_lt, hb]
theorem i_lt {a b : Int32} {n : Int} (hb : b.toInt = n) : (b < a) ↔ n < a.toInt := by rw [Int32.lt_iff_toInt_lt, hb]
theorem i_le {a b : Int32} {n : Int} (hb : b.toInt = n) : (b ≤ a) ↔ n ≤ a.toInt := by rw [Int32.le_iff_toInt_le, hb]
theorem inC_n {r : Int} {j : Nat} {a b : Int} (hj : j < 5) (ha : (tRad j).toInt = a) (hb : (tRad (j + 1)).toInt = b) (h1 : a ≤ r) (h2 : r ≤ b) : inC r j := ⟨hj, by omega, by omega⟩
theorem inR_n {r : Int} {j : Nat} {a b : Int} (hj : j < 3) (ha : (tLen j).toInt = a) (hb : (tLen (j + 1)).toInt = b) (h1 : a ≤ r) (h2 : r ≤ b) : inR r j := ⟨hj, by omega, by omega⟩
theorem capM (zs : Nat → Int32) (ta le r : Int32) (l0 : 1000 ≤ le.toInt) (l1 : le.toInt ≤ 6000) (r0 : 300 ≤ r.toInt) (r1 : r.toInt ≤ 3000) : ∃ i j, inR le.toInt i ∧ inC r.toInt j ∧ spIter (fun _ => default) (m_capacityOf_b21 zs ta le r) 3 0 = m_capacityOf_j71 zs ta le r i j := by
  have hi : ∃ i, inR le.toInt i ∧ spIter (fun _ => default) (m_capacityOf_b21 zs ta le r) 3 0 = m_capacityOf_j44 zs ta le r i := by
    rw [capM_i]
    by_cases c1 : le ≤ 2000
    · have d1 := (le_i (show ((2000 : Int32)).toInt = 2000 by decide)).mp c1
      rw [if_pos c1]
      exact ⟨0, inR_n (by decide) (a := 1000) (b := 2000) (by decide) (by decide) (by omega) (by omega), rfl⟩
    · have d1 := mt (le_i (show ((2000 : Int32)).toInt = 2000 by decide)).mpr c1
      rw [if_neg c1]
      by_cases c2 : le ≤ 3500
      · have d2 := (le_i (show ((3500 : Int32)).toInt = 3500 by decide)).mp c2
        rw [if_pos c2]
        exact ⟨1, inR_n (by decide) (a := 2000) (b := 3500) (by decide) (by decide) (by omega) (by omega), rfl⟩
      · have d2 := mt (le_i (show ((3500 : Int32)).toInt = 3500 by decide)).mpr c2
        rw [if_neg c2]
        exact ⟨2, inR_n (by decide) (a := 3500) (b := 6000) (by decide) (by decide) (by omega) (by omega), rfl⟩
  obtain ⟨i, h1, h2⟩ := hi
  refine ⟨i, ?_⟩
  rw [h2, capM_j]
  by_cases c1 : r ≤ 600
  · have d1 := (le_i (show ((600 : Int32)).toInt = 600 by decide)).mp c1
    rw [if_pos c1]
    exact ⟨0, h1, inC_n (by decide) (a := 300) (b := 600) (by decide) (by decide) (by omega) (by omega), rfl⟩
  · have d1 := mt (le_i (show ((600 : Int32)).toInt = 600 by decide)).mpr c1
    rw [if_neg c1]
    by_cases c2 : r ≤ 1000
    · have d2 := (le_i (show ((1000 : Int32)).toInt = 1000 by decide)).mp c2
      rw [if_pos c2]
      exact ⟨1, h1, inC_n (by decide) (a := 600) (b := 1000) (by decide) (by decide) (by omega) (by omega), rfl⟩
    · have d2 := mt (le_i (show ((1000 : Int32)).toInt = 1000 by decide)).mpr c2
      rw [if_neg c2]
      by_cases c3 : r ≤ 1500
      · have d3 := (le_i (show ((1500 : Int32)).toInt = 1500 by decide)).mp c3
        rw [if_pos c3]
        exact ⟨2, h1, inC_n (by decide) (a := 1000) (b := 1500) (by decide) (by decide) (by omega) (by omega), rfl⟩
      · have d3 := mt (le_i (show ((1500 : Int32)).toInt = 1500 by decide)).mpr c3
        rw [if_neg c3]
        by_cases c4 : r ≤ 2200
        · have d4 := (le_i (show ((2200 : Int32)).toInt = 2200 by decide)).mp c4
          rw [if_pos c4]
          exact ⟨3, h1, inC_n (by decide) (a := 1500) (b := 2200) (by decide) (by decide) (by omega) (by omega), rfl⟩
        · have d4 := mt (le_i (show ((2200 : Int32)).toInt = 2200 by decide)).mpr c4
          rw [if_neg c4]
          exact ⟨4, h1, inC_n (by decide) (a := 2200) (b := 3000) (by decide) (by decide) (by omega) (by omega), rfl⟩
theorem g300 {ra : Int32} (h : ra ≤ 3000) : (m_greater 300 ra).toInt = max 300 ra.toInt ∧ 300 ≤ (m_greater 300 ra).toInt ∧ (m_greater 300 ra).toInt ≤ 3000 := by
  have e : ((300 : Int32)).toInt = 300 := by decide
  have h2 := (le_i (show ((3000 : Int32)).toInt = 3000 by decide)).mp h
  rw [greater_r, e]
  omega
/-- the class's place in the rows -/
theorem bel_L {le : Int32} (l0 : 1000 ≤ le.toInt) (l1 : le.toInt ≤ 6000) : ∃ i, inR le.toInt i ∧ x_X1_belowL le = nI i := by
  rw [belowL_e]
  by_cases c1 : le < 3500
  · have d1 := (lt_i (show ((3500 : Int32)).toInt = 3500 by decide)).mp c1
    rw [if_pos c1]
    by_cases c2 : le < 2000
    · have d2 := (lt_i (show ((2000 : Int32)).toInt = 2000 by decide)).mp c2
      rw [if_pos c2]
      exact ⟨0, inR_n (by decide) (a := 1000) (b := 2000) (by decide) (by decide) (by omega) (by omega), rfl⟩
    · have d2 := mt (lt_i (show ((2000 : Int32)).toInt = 2000 by decide)).mpr c2
      rw [if_neg c2]
      exact ⟨1, inR_n (by decide) (a := 2000) (b := 3500) (by decide) (by decide) (by omega) (by omega), rfl⟩
  · have d1 := mt (lt_i (show ((3500 : Int32)).toInt = 3500 by decide)).mpr c1
    rw [if_neg c1]
    exact ⟨2, inR_n (by decide) (a := 3500) (b := 6000) (by decide) (by decide) (by omega) (by omega), rfl⟩
theorem bel_R {ra : Int32} (h : ra ≤ 3000) : ∃ j, inC (m_greater 300 ra).toInt j ∧ x_X1_belowR ra = nI j := by
  obtain ⟨e, r0, r1⟩ := g300 h
  rw [belowR_e]
  by_cases c1 : ra < 2200
  · have d1 := (lt_i (show ((2200 : Int32)).toInt = 2200 by decide)).mp c1
    rw [if_pos c1]
    by_cases c2 : ra < 1500
    · have d2 := (lt_i (show ((1500 : Int32)).toInt = 1500 by decide)).mp c2
      rw [if_pos c2]
      by_cases c3 : ra < 1000
      · have d3 := (lt_i (show ((1000 : Int32)).toInt = 1000 by decide)).mp c3
        rw [if_pos c3]
        by_cases c4 : ra < 600
        · have d4 := (lt_i (show ((600 : Int32)).toInt = 600 by decide)).mp c4
          rw [if_pos c4]
          exact ⟨0, inC_n (by decide) (a := 300) (b := 600) (by decide) (by decide) (by omega) (by omega), rfl⟩
        · have d4 := mt (lt_i (show ((600 : Int32)).toInt = 600 by decide)).mpr c4
          rw [if_neg c4]
          exact ⟨1, inC_n (by decide) (a := 600) (b := 1000) (by decide) (by decide) (by omega) (by omega), rfl⟩
      · have d3 := mt (lt_i (show ((1000 : Int32)).toInt = 1000 by decide)).mpr c3
        rw [if_neg c3]
        exact ⟨2, inC_n (by decide) (a := 1000) (b := 1500) (by decide) (by decide) (by omega) (by omega), rfl⟩
    · have d2 := mt (lt_i (show ((1500 : Int32)).toInt = 1500 by decide)).mpr c2
      rw [if_neg c2]
      exact ⟨3, inC_n (by decide) (a := 1500) (b := 2200) (by decide) (by decide) (by omega) (by omega), rfl⟩
  · have d1 := mt (lt_i (show ((2200 : Int32)).toInt = 2200 by decide)).mpr c1
    rw [if_neg c1]
    exact ⟨4, inC_n (by decide) (a := 2200) (b := 3000) (by decide) (by decide) (by omega) (by omega), rfl⟩
theorem x_val {cv zs : Nat → Int32} (h : ∀ k, k < 96 → cv k = zs (47 + k)) {t i j : Nat} (ht : t < 4) (hi : i < 4) (hj : j < 6) : x_X1_valueAt cv (nI t) (nI i) (nI j) = zs (47 + 24 * t + 6 * i + j) := by
  have e : (nI t * (24 : Int32)) + (nI i * (6 : Int32)) + nI j = nI (t * 24 + i * 6 + j) := by
    rw [show (24 : Int32) = nI 24 from rfl, show (6 : Int32) = nI 6 from rfl]
    exact nadd (nadd (nmul rfl rfl) (nmul rfl rfl)) rfl
  unfold x_X1_valueAt
  rw [spLet_x, e]
  have z : ((0 : Int32)).toInt = 0 := by decide
  have z2 : ((96 : Int32)).toInt = 96 := by decide
  have e2 := nI_toInt (n := t * 24 + i * 6 + j) (by omega)
  rw [if_neg (fun k => by have := (lt_i z).mp k; omega), if_neg (fun k => by have := (i_le z2).mp k; omega), nI_clamp (by omega), h _ (by omega)]
  congr 1
  omega
theorem q_cap {cv zs : Nat → Int32} (h : ∀ k, k < 96 → cv k = zs (47 + k)) (hG : mG zs) {ta le ra : Int32} (ht : ta = nI ta.toNatClampNeg) (ht4 : ta.toNatClampNeg < 4) (l0 : 1000 ≤ le.toInt) (l1 : le.toInt ≤ 6000) : x_X1_capacityAt cv ta le ra = m_capacityOf zs ta le ra ∧ 0 ≤ (m_capacityOf zs ta le ra).toInt ∧ (m_capacityOf zs ta le ra).toInt ≤ 100000 := by
  have z0 : ((0 : Int32)).toInt = 0 := by decide
  unfold x_X1_capacityAt m_capacityOf
  by_cases c : ra ≤ 3000
  · rw [if_pos c, if_pos c, spLet_x (m_greater 300 ra)]
    obtain ⟨er, r0, r1⟩ := g300 c
    obtain ⟨i, j, hi, hj, em⟩ := capM zs ta le (m_greater 300 ra) l0 l1 r0 r1
    obtain ⟨e1, b0, b1⟩ := j71_e hG ht4 hj hi
    obtain ⟨a, ha, ea⟩ := bel_L l0 l1
    obtain ⟨b, hb, eb⟩ := bel_R c
    rw [em]
    refine ⟨?_, by rw [e1]; exact b0, by rw [e1]; exact b1⟩
    have eu := bil_u (V := tV zs ta.toNatClampNeg) hj hi hb ha
    obtain ⟨f1, -, -⟩ := j71_e hG ht4 hb ha
    have hd : x_X1_capacityAt cv ta le ra = m_capacityOf_j71 zs ta le (m_greater 300 ra) a b := by
      obtain ⟨j5, j1, j2⟩ := hb
      obtain ⟨i3, i1, i2⟩ := ha
      have b1 := rad_b b j5
      have b2 := len_b a i3
      have eB : ((tRad (b + 1) - tRad b).toInt64 * (tLen (a + 1) - tLen a).toInt64).toInt = ((tRad (b + 1)).toInt - (tRad b).toInt) * ((tLen (a + 1)).toInt - (tLen a).toInt) := by
        obtain ⟨m1, m2⟩ := mulb (a := (tRad (b + 1)).toInt - (tRad b).toInt) (A := 800) (b := (tLen (a + 1)).toInt - (tLen a).toInt) (B := 5000) (by omega) (by omega) (by omega) (by omega)
        exact lmul' (zi2l (zsub rfl rfl (by omega) (by omega))) (zi2l (zsub rfl rfl (by omega) (by omega))) (by omega) (by omega)
      have hB0 : 0 < ((tRad (b + 1)).toInt - (tRad b).toInt) * ((tLen (a + 1)).toInt - (tLen a).toInt) := Int.mul_pos (by omega) (by omega)
      have hc : 0 < lg_cmp ((tRad (b + 1) - tRad b).toInt64 * (tLen (a + 1) - tLen a).toInt64) 0 := (lg_cmp_gt _ _).mpr (Int64.lt_iff_toInt_lt.mpr (by rw [eB]; exact hB0))
      have es : (tRad (b + 1) - tRad b) - (m_greater 300 ra - tRad b) = tRad (b + 1) - m_greater 300 ra := by
        apply Int32.toInt_inj.mp
        rw [zsub (zsub rfl rfl (by omega) (by omega)) (zsub rfl rfl (by omega) (by omega)) (by omega) (by omega), zsub rfl rfl (by omega) (by omega)]
        omega
      have es2 : (tLen (a + 1) - tLen a) - (le - tLen a) = tLen (a + 1) - le := by
        apply Int32.toInt_inj.mp
        rw [zsub (zsub rfl rfl (by omega) (by omega)) (zsub rfl rfl (by omega) (by omega)) (by omega) (by omega), zsub rfl rfl (by omega) (by omega)]
        omega
      have em : (if ra < (300 : Int32) then (300 : Int32) else ra) = m_greater 300 ra := (greater_sw 300 ra).symm
      have v00 := x_val h (t := ta.toNatClampNeg) (i := a) (j := b) ht4 (by omega) (by omega)
      have v01 := x_val h (t := ta.toNatClampNeg) (i := a) (j := b + 1) ht4 (by omega) (by omega)
      have v10 := x_val h (t := ta.toNatClampNeg) (i := a + 1) (j := b) ht4 (by omega) (by omega)
      have v11 := x_val h (t := ta.toNatClampNeg) (i := a + 1) (j := b + 1) ht4 (by omega) (by omega)
      rw [← ht] at v00 v01 v10 v11
      unfold x_X1_capacityAt m_capacityOf_j71
      simp only [spLet_x, m_valueAt, ea, eb, nI_clamp (show a < 2147483648 by omega), nI_clamp (show b < 2147483648 by omega), v00, v01, v10, v11, em, es, es2, if_pos c, if_pos hc, col_t b (by omega), col_t (b + 1) (by omega), row_t a (by omega), row_t (a + 1) (by omega)]
    have hd2 := hd
    unfold x_X1_capacityAt at hd2
    rw [if_pos c] at hd2
    rw [hd2]
    apply Int32.toInt_inj.mp
    rw [f1, e1, eu]
  · rw [if_neg c, if_neg c]
    exact ⟨rfl, by rw [z0]; omega, by rw [z0]; omega⟩
