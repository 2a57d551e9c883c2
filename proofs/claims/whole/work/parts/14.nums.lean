/-! numbers: ints and longs by their integers (the first rows began from kit/laws/COUNTS.to-paste) -/
theorem fb_rng (x : Int32) : -2147483648 ≤ x.toInt ∧ x.toInt < 2147483648 := by
  have h1 := Int32.le_toInt x
  have h2 := Int32.toInt_lt x
  omega
theorem fb_bmod {z : Int} (h1 : -2147483648 ≤ z) (h2 : z < 2147483648) : z.bmod (2 ^ 32) = z := by
  rw [Int.bmod_eq_of_le (by omega) (by omega)]
theorem fb_bmodL {z : Int} (h1 : -9223372036854775808 ≤ z) (h2 : z < 9223372036854775808) : z.bmod (2 ^ 64) = z := by
  rw [Int.bmod_eq_of_le (by omega) (by omega)]
theorem zadd {x y : Int32} {a b : Int} (hx : x.toInt = a) (hy : y.toInt = b) (h1 : -2147483648 ≤ a + b) (h2 : a + b < 2147483648) : (x + y).toInt = a + b := by
  rw [Int32.toInt_add, hx, hy, fb_bmod h1 h2]
theorem zsub {x y : Int32} {a b : Int} (hx : x.toInt = a) (hy : y.toInt = b) (h1 : -2147483648 ≤ a - b) (h2 : a - b < 2147483648) : (x - y).toInt = a - b := by
  rw [Int32.toInt_sub, hx, hy, fb_bmod h1 h2]
theorem zmul {x y : Int32} {a b : Int} (hx : x.toInt = a) (hy : y.toInt = b) (h1 : -2147483648 ≤ a * b) (h2 : a * b < 2147483648) : (x * y).toInt = a * b := by
  rw [Int32.toInt_mul, hx, hy, fb_bmod h1 h2]
theorem zdiv {x y : Int32} {a b : Int} (hx : x.toInt = a) (hy : y.toInt = b) (h0 : 0 ≤ a) (h1 : 0 < b) : (x / y).toInt = a / b := by
  have hne : y ≠ -1 := by
    intro h
    rw [h] at hy
    have h3 : ((-1 : Int32)).toInt = -1 := by decide
    omega
  rw [Int32.toInt_div_of_ne_right _ _ hne, hx, hy, Int.tdiv_eq_ediv_of_nonneg h0]
theorem zmod_e {a b : Int} : a / b * b = a - a % b := by
  have h := Int.emod_add_mul_ediv a b
  rw [Int.mul_comm]
  omega
theorem zrem {x y : Int32} {a b : Int} (hx : x.toInt = a) (hy : y.toInt = b) (h0 : 0 ≤ a) (h1 : 0 < b) : (x - x / y * y).toInt = a % b := by
  have hr := fb_rng x
  rw [hx] at hr
  have h2 := Int.emod_nonneg a (b := b) (by omega)
  have hq := Int.mul_nonneg (Int.le_of_lt h1) (Int.ediv_nonneg h0 (Int.le_of_lt h1))
  have he := Int.emod_add_mul_ediv a b
  have h3 : a % b ≤ a := by omega
  have h4 := zmod_e (a := a) (b := b)
  have h5 := zmul (zdiv hx hy h0 h1) hy (by omega) (by omega)
  rw [zsub hx h5 (by omega) (by omega)]
  omega
theorem ladd' {x y : Int64} {a b : Int} (hx : x.toInt = a) (hy : y.toInt = b) (h1 : -9223372036854775808 ≤ a + b) (h2 : a + b < 9223372036854775808) : (x + y).toInt = a + b := by
  rw [Int64.toInt_add, hx, hy, fb_bmodL h1 h2]
theorem lsub' {x y : Int64} {a b : Int} (hx : x.toInt = a) (hy : y.toInt = b) (h1 : -9223372036854775808 ≤ a - b) (h2 : a - b < 9223372036854775808) : (x - y).toInt = a - b := by
  rw [Int64.toInt_sub, hx, hy, fb_bmodL h1 h2]
theorem lmul' {x y : Int64} {a b : Int} (hx : x.toInt = a) (hy : y.toInt = b) (h1 : -9223372036854775808 ≤ a * b) (h2 : a * b < 9223372036854775808) : (x * y).toInt = a * b := by
  rw [Int64.toInt_mul, hx, hy, fb_bmodL h1 h2]
theorem ldiv' {x y : Int64} {a b : Int} (hx : x.toInt = a) (hy : y.toInt = b) (h0 : 0 ≤ a) (h1 : 0 < b) : (x / y).toInt = a / b := by
  have hne : y ≠ -1 := by
    intro h
    rw [h] at hy
    have h3 : ((-1 : Int64)).toInt = -1 := by decide
    omega
  rw [Int64.toInt_div_of_ne_right _ _ hne, hx, hy, Int.tdiv_eq_ediv_of_nonneg h0]
theorem zi2l {x : Int32} {a : Int} (hx : x.toInt = a) : x.toInt64.toInt = a := by rw [Int32.toInt_toInt64, hx]
theorem zl2i {x : Int64} {a : Int} (hx : x.toInt = a) (h1 : -2147483648 ≤ a) (h2 : a < 2147483648) : x.toInt32.toInt = a := by
  rw [Int64.toInt_toInt32, hx, fb_bmod h1 h2]
theorem mulb {a b A B : Int} (h1 : 0 ≤ a) (h2 : a ≤ A) (h3 : 0 ≤ b) (h4 : b ≤ B) : 0 ≤ a * b ∧ a * b ≤ A * B := ⟨Int.mul_nonneg h1 h3, Int.mul_le_mul h2 h4 h3 (by omega)⟩
theorem nI_ofInt {a : Int32} (h0 : 0 ≤ a.toInt) : a = nI a.toInt.toNat := by
  have h := fb_rng a
  apply Int32.toInt_inj.mp
  rw [nI_toInt (by omega)]
  omega
theorem nI_cl {a : Int32} (h0 : 0 ≤ a.toInt) : a = nI a.toNatClampNeg ∧ (a.toNatClampNeg : Int) = a.toInt := by
  have h := nI_ofInt h0
  have hr := fb_rng a
  have h2 : a.toNatClampNeg = a.toInt.toNat := rfl
  refine ⟨by rw [h2]; exact h, by rw [h2]; omega⟩

