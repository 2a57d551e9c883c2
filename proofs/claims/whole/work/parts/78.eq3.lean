/-! both sides' numbers: capacities between the places of a table -/
theorem rad_b : ∀ j, j < 5 → 300 ≤ (tRad j).toInt ∧ (tRad j).toInt < (tRad (j + 1)).toInt ∧ (tRad (j + 1)).toInt ≤ 3000 ∧ (tRad (j + 1)).toInt - (tRad j).toInt ≤ 800 := by decide
theorem len_b : ∀ i, i < 3 → 1000 ≤ (tLen i).toInt ∧ (tLen i).toInt < (tLen (i + 1)).toInt ∧ (tLen (i + 1)).toInt ≤ 6000 := by decide
theorem col_t : ∀ j, j < 6 → m_columnRadius (nI j) = tRad j := by decide
theorem row_t : ∀ i, i < 4 → m_rowLength (nI i) = tLen i := by decide
/-- the value between four places -/
def bil (V : Nat → Nat → Int) (r le : Int) (i j : Nat) : Int :=
  ((V i j * ((tRad (j + 1)).toInt - r) + V i (j + 1) * (r - (tRad j).toInt)) * ((tLen (i + 1)).toInt - le) + (V (i + 1) j * ((tRad (j + 1)).toInt - r) + V (i + 1) (j + 1) * (r - (tRad j).toInt)) * (le - (tLen i).toInt)) / (((tRad (j + 1)).toInt - (tRad j).toInt) * ((tLen (i + 1)).toInt - (tLen i).toInt))
def inC (r : Int) (j : Nat) : Prop := j < 5 ∧ (tRad j).toInt ≤ r ∧ r ≤ (tRad (j + 1)).toInt
def inR (le : Int) (i : Nat) : Prop := i < 3 ∧ (tLen i).toInt ≤ le ∧ le ≤ (tLen (i + 1)).toInt
theorem bil_c {V : Nat → Nat → Int} {r le : Int} {i j : Nat} (hi : i < 3) (hj : j + 1 < 5) (hr : r = (tRad (j + 1)).toInt) : bil V r le i j = bil V r le i (j + 1) := by
  have b1 := rad_b j (by omega)
  have b2 := rad_b (j + 1) (by omega)
  have b3 := len_b i hi
  unfold bil
  rw [hr]
  have e1 : (V i j * ((tRad (j + 1)).toInt - (tRad (j + 1)).toInt) + V i (j + 1) * ((tRad (j + 1)).toInt - (tRad j).toInt)) * ((tLen (i + 1)).toInt - le) + (V (i + 1) j * ((tRad (j + 1)).toInt - (tRad (j + 1)).toInt) + V (i + 1) (j + 1) * ((tRad (j + 1)).toInt - (tRad j).toInt)) * (le - (tLen i).toInt) = ((tRad (j + 1)).toInt - (tRad j).toInt) * (V i (j + 1) * ((tLen (i + 1)).toInt - le) + V (i + 1) (j + 1) * (le - (tLen i).toInt)) := by
    rw [Int.sub_self, Int.mul_zero, Int.zero_add, Int.mul_zero, Int.zero_add, Int.mul_add, Int.mul_comm (V i (j + 1)), Int.mul_comm (V (i + 1) (j + 1)) ((tRad (j + 1)).toInt - (tRad j).toInt), Int.mul_assoc, Int.mul_assoc]
  have e2 : (V i (j + 1) * ((tRad (j + 1 + 1)).toInt - (tRad (j + 1)).toInt) + V i (j + 1 + 1) * ((tRad (j + 1)).toInt - (tRad (j + 1)).toInt)) * ((tLen (i + 1)).toInt - le) + (V (i + 1) (j + 1) * ((tRad (j + 1 + 1)).toInt - (tRad (j + 1)).toInt) + V (i + 1) (j + 1 + 1) * ((tRad (j + 1)).toInt - (tRad (j + 1)).toInt)) * (le - (tLen i).toInt) = ((tRad (j + 1 + 1)).toInt - (tRad (j + 1)).toInt) * (V i (j + 1) * ((tLen (i + 1)).toInt - le) + V (i + 1) (j + 1) * (le - (tLen i).toInt)) := by
    rw [Int.sub_self, Int.mul_zero, Int.add_zero, Int.mul_zero, Int.add_zero, Int.mul_add, Int.mul_comm (V i (j + 1)), Int.mul_comm (V (i + 1) (j + 1)) ((tRad (j + 1 + 1)).toInt - (tRad (j + 1)).toInt), Int.mul_assoc, Int.mul_assoc]
  rw [e1, e2, Int.mul_ediv_mul_of_pos _ _ (by omega), Int.mul_ediv_mul_of_pos _ _ (by omega)]
theorem bil_r {V : Nat → Nat → Int} {r le : Int} {i j : Nat} (hi : i + 1 < 3) (hj : j < 5) (hl : le = (tLen (i + 1)).toInt) : bil V r le i j = bil V r le (i + 1) j := by
  have b1 := len_b i (by omega)
  have b2 := len_b (i + 1) (by omega)
  have b3 := rad_b j hj
  unfold bil
  rw [hl]
  rw [Int.sub_self ((tLen (i + 1)).toInt), Int.mul_zero, Int.zero_add, Int.mul_zero, Int.add_zero, Int.mul_ediv_mul_of_pos_left _ _ (by omega), Int.mul_ediv_mul_of_pos_left _ _ (by omega)]
theorem inC_u {r : Int} {j k : Nat} (h1 : inC r j) (h2 : inC r k) (hjk : j < k) : k = j + 1 ∧ r = (tRad (j + 1)).toInt := by
  obtain ⟨a1, a2, a3⟩ := h1
  obtain ⟨b1, b2, b3⟩ := h2
  have t0 : (tRad 0).toInt = 300 := by decide
  have t1 : (tRad 1).toInt = 600 := by decide
  have t2 : (tRad 2).toInt = 1000 := by decide
  have t3 : (tRad 3).toInt = 1500 := by decide
  have t4 : (tRad 4).toInt = 2200 := by decide
  have t5 : (tRad 5).toInt = 3000 := by decide
  rcases (show j = 0 ∨ j = 1 ∨ j = 2 ∨ j = 3 by omega) with rfl | rfl | rfl | rfl <;> rcases (show k = 1 ∨ k = 2 ∨ k = 3 ∨ k = 4 by omega) with rfl | rfl | rfl | rfl <;> simp only [Nat.zero_add, Nat.reduceAdd, t0, t1, t2, t3, t4, t5, true_and] at a2 a3 b2 b3 ⊢ <;> omega
theorem inR_u {r : Int} {j k : Nat} (h1 : inR r j) (h2 : inR r k) (hjk : j < k) : k = j + 1 ∧ r = (tLen (j + 1)).toInt := by
  obtain ⟨a1, a2, a3⟩ := h1
  obtain ⟨b1, b2, b3⟩ := h2
  have t0 : (tLen 0).toInt = 1000 := by decide
  have t1 : (tLen 1).toInt = 2000 := by decide
  have t2 : (tLen 2).toInt = 3500 := by decide
  have t3 : (tLen 3).toInt = 6000 := by decide
  rcases (show j = 0 ∨ j = 1 by omega) with rfl | rfl <;> rcases (show k = 1 ∨ k = 2 by omega) with rfl | rfl <;> simp only [Nat.zero_add, Nat.reduceAdd, t0, t1, t2, t3, true_and] at a2 a3 b2 b3 ⊢ <;> omega
theorem bil_u {V : Nat → Nat → Int} {r le : Int} {i j a b : Nat} (h1 : inC r j) (h2 : inR le i) (h3 : inC r b) (h4 : inR le a) : bil V r le i j = bil V r le a b := by
  have ec : bil V r le i j = bil V r le i b := by
    rcases Nat.lt_trichotomy j b with h | h | h
    · obtain ⟨e1, e2⟩ := inC_u h1 h3 h
      rw [e1]
      exact bil_c h2.1 (by have := h3.1; omega) e2
    · rw [h]
    · obtain ⟨e1, e2⟩ := inC_u h3 h1 h
      rw [e1]
      exact (bil_c h2.1 (by have := h1.1; omega) e2).symm
  rw [ec]
  rcases Nat.lt_trichotomy i a with h | h | h
  · obtain ⟨e1, e2⟩ := inR_u h2 h4 h
    rw [e1]
    exact bil_r (by have := h4.1; omega) h3.1 e2
  · rw [h]
  · obtain ⟨e1, e2⟩ := inR_u h4 h2 h
    rw [e1]
    exact (bil_r (by have := h2.1; omega) h3.1 e2).symm
/-- the longs of both sides: a sum of two products over a product -/
theorem bil_l {p q s t u v w x : Int32} {P Q S T U V W X : Int} (hp : p.toInt = P) (hq : q.toInt = Q) (hs : s.toInt = S) (ht : t.toInt = T) (hu : u.toInt = U) (hv : v.toInt = V) (hw : w.toInt = W) (hx : x.toInt = X) (p0 : 0 ≤ P ∧ P ≤ 100000) (q0 : 0 ≤ Q ∧ Q ≤ 100000) (s0 : 0 ≤ S ∧ S ≤ 100000) (t0 : 0 ≤ T ∧ T ≤ 100000) (u0 : 0 ≤ U ∧ U ≤ 800) (v0 : 0 ≤ V ∧ V ≤ 800) (w0 : 0 ≤ W ∧ W ≤ 5000) (x0 : 0 ≤ X ∧ X ≤ 5000) {b : Int64} {B : Int} (hb : b.toInt = B) (b0 : 0 < B) :
    ∃ N : Int, N = (P * U + Q * V) * W + (S * U + T * V) * X ∧ 0 ≤ N ∧ N ≤ 100000 * ((U + V) * (W + X)) ∧ (((p.toInt64 * u.toInt64 + q.toInt64 * v.toInt64) * w.toInt64 + (s.toInt64 * u.toInt64 + t.toInt64 * v.toInt64) * x.toInt64) / b).toInt = N / B := by
  obtain ⟨pu0, pu1⟩ := mulb p0.1 p0.2 u0.1 u0.2
  obtain ⟨qv0, qv1⟩ := mulb q0.1 q0.2 v0.1 v0.2
  obtain ⟨su0, su1⟩ := mulb s0.1 s0.2 u0.1 u0.2
  obtain ⟨tv0, tv1⟩ := mulb t0.1 t0.2 v0.1 v0.2
  have pu2 : P * U ≤ 100000 * U := Int.mul_le_mul_of_nonneg_right p0.2 u0.1
  have qv2 : Q * V ≤ 100000 * V := Int.mul_le_mul_of_nonneg_right q0.2 v0.1
  have su2 : S * U ≤ 100000 * U := Int.mul_le_mul_of_nonneg_right s0.2 u0.1
  have tv2 : T * V ≤ 100000 * V := Int.mul_le_mul_of_nonneg_right t0.2 v0.1
  have e1 : (p.toInt64 * u.toInt64 + q.toInt64 * v.toInt64).toInt = P * U + Q * V := ladd' (lmul' (zi2l hp) (zi2l hu) (by omega) (by omega)) (lmul' (zi2l hq) (zi2l hv) (by omega) (by omega)) (by omega) (by omega)
  have e2 : (s.toInt64 * u.toInt64 + t.toInt64 * v.toInt64).toInt = S * U + T * V := ladd' (lmul' (zi2l hs) (zi2l hu) (by omega) (by omega)) (lmul' (zi2l ht) (zi2l hv) (by omega) (by omega)) (by omega) (by omega)
  obtain ⟨a0, a1⟩ := mulb (a := P * U + Q * V) (A := 160000000) (by omega) (by omega) w0.1 w0.2
  obtain ⟨c0, c1⟩ := mulb (a := S * U + T * V) (A := 160000000) (by omega) (by omega) x0.1 x0.2
  have e3 := ladd' (lmul' e1 (zi2l hw) (by omega) (by omega)) (lmul' e2 (zi2l hx) (by omega) (by omega)) (by omega) (by omega)
  have m1 : (P * U + Q * V) * W ≤ (100000 * (U + V)) * W := Int.mul_le_mul_of_nonneg_right (by omega) w0.1
  have m2 : (S * U + T * V) * X ≤ (100000 * (U + V)) * X := Int.mul_le_mul_of_nonneg_right (by omega) x0.1
  refine ⟨_, rfl, by omega, ?_, ldiv' e3 hb (by omega) b0⟩
  have m3 : 100000 * ((U + V) * (W + X)) = (100000 * (U + V)) * W + (100000 * (U + V)) * X := by rw [← Int.mul_assoc, Int.mul_add]
  omega
/-- a table's place -/
def tV (zs : Nat → Int32) (t i j : Nat) : Int := (zs (47 + 24 * t + 6 * i + j)).toInt
theorem mlh_tab : ∀ k, k < 143 → 47 ≤ k → mlo k = 0 ∧ mhi k = 100000 := by decide +kernel
theorem tV_b {zs : Nat → Int32} (h : mG zs) {t i j : Nat} (ht : t < 4) (hi : i < 4) (hj : j < 6) : 0 ≤ tV zs t i j ∧ tV zs t i j ≤ 100000 := by
  have h1 := h (47 + 24 * t + 6 * i + j) (by omega)
  obtain ⟨h2, h3⟩ := mlh_tab (47 + 24 * t + 6 * i + j) (by omega) (by omega)
  unfold tV
  omega
