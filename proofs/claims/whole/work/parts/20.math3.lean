/-! what carrying out a motion, logging and remembering do to the reference's cells -/
theorem carry_hi (zs : Nat → Int32) (mo : Int32) {k : Nat} (hk : 5 ≤ k) : m_carry zs mo k = zs k := by
  unfold m_carry
  simp only [spLet, m_carry_j77, m_carry_j324]
  repeat' split
  all_goals (rw [pk_un (by omega), pk_un (by omega)])
theorem carry56 (zs : Nat → Int32) (mo : Int32) : m_carry zs mo 5 = zs 5 ∧ m_carry zs mo 6 = zs 6 := ⟨carry_hi zs mo (by omega), carry_hi zs mo (by omega)⟩
theorem j324_G {w : Nat → Int32} (h : ∀ k, k < 246 → k ≠ 3 → mlo k ≤ (w k).toInt ∧ (w k).toInt ≤ mhi k) (h3 : 0 ≤ (w 3).toInt) : mG (m_carry_j324 w) := by
  have e : m_carry_j324 w = upd w 3 (m_lesser (w 3) (m_height w - 200)) := rfl
  have a0 : 1000 ≤ (w 0).toInt ∧ (w 0).toInt ≤ 6000 := h 0 (by omega) (by omega)
  have a1 : 0 ≤ (w 1).toInt ∧ (w 1).toInt ≤ 850 := h 1 (by omega) (by omega)
  have hh : 250 ≤ (m_height w).toInt ∧ (m_height w).toInt ≤ 6250 := heightOf_r a0.1 a0.2 a1.1 a1.2
  have e2 : (m_height w - 200).toInt = (m_height w).toInt - 200 := zsub rfl (show ((200 : Int32)).toInt = 200 by decide) (by omega) (by omega)
  rw [e]
  intro k hk
  by_cases e3 : k = 3
  · subst e3
    rw [pk_us, lesser_r, e2]
    have l3 : mlo 3 = 0 := rfl
    have u3 : mhi 3 = 6050 := rfl
    omega
  · rw [pk_un e3]; exact h k hk e3
theorem j324_G1 {zs : Nat → Int32} (h : mG zs) {i : Nat} {v : Int32} (hi : i ≠ 3) (hv : mlo i ≤ v.toInt ∧ v.toInt ≤ mhi i) : mG (m_carry_j324 (upd zs i v)) := by
  refine j324_G (fun k hk k3 => ?_) ?_
  · by_cases e : k = i
    · subst e; rw [pk_us]; exact hv
    · rw [pk_un e]; exact h k hk
  · rw [pk_un (Ne.symm hi)]; exact (h.c3).1
theorem j324_G3 {zs : Nat → Int32} (h : mG zs) {v : Int32} (hv : 0 ≤ v.toInt) : mG (m_carry_j324 (upd zs 3 v)) := by
  refine j324_G (fun k hk k3 => ?_) ?_
  · rw [pk_un k3]; exact h k hk
  · rw [pk_us]; exact hv
theorem speed_r (zs : Nat → Int32) (a b : Int32) : m_speed zs a b = a ∨ m_speed zs a b = b := by unfold m_speed; split <;> simp
theorem speed_i (zs : Nat → Int32) {a b : Int32} {A B : Int} (ha : a.toInt = A) (hb : b.toInt = B) : (m_speed zs a b).toInt = A ∨ (m_speed zs a b).toInt = B := by
  rcases speed_r zs a b with h | h <;> rw [h]
  · exact Or.inl ha
  · exact Or.inr hb
theorem carry_G {zs : Nat → Int32} (h : mG zs) (mo : Int32) : mG (m_carry zs mo) := by
  have a0 := h.c0
  have a1 := h.c1
  have a2 := h.c2
  have a3 := h.c3
  have a4 := h.c4
  have z0 : ((0 : Int32)).toInt = 0 := by decide
  have z1 : ((1 : Int32)).toInt = 1 := by decide
  have j77 : mG (m_carry_j77 zs) := by
    have s := speed_i zs (a := 20) (b := 10) (A := 20) (B := 10) (by decide) (by decide)
    refine j324_G3 h (v := zs 3 + m_speed zs 20 10) ?_
    rcases s with s | s <;> (rw [zadd rfl s (by omega) (by omega)]; omega)
  unfold m_carry
  simp only [spLet]
  split
  · split
    · exact j77
    · split
      · exact j77
      · next n4 =>
        have n4 : ¬ 4 ≤ (zs 4).toInt := fun q => n4 (Int32.le_iff_toInt_le.mpr (by rw [show ((4 : Int32)).toInt = 4 by decide]; exact q))
        refine j324_G1 h (by omega) ?_
        rw [zadd rfl z1 (by omega) (by omega)]
        exact ⟨by show (0 : Int) ≤ _; omega, by show _ ≤ (4 : Int); omega⟩
  · split
    · split
      · refine j324_G1 h (by omega) ?_
        rw [greater_r, zsub rfl z1 (by omega) (by omega), z0]
        exact ⟨by show (0 : Int) ≤ _; omega, by show _ ≤ (4 : Int); omega⟩
      · refine j324_G3 h ?_
        rw [greater_r, z0]
        omega
    · split
      · have s := speed_i zs (a := 5) (b := 2) (A := 5) (B := 2) (by decide) (by decide)
        refine j324_G1 h (by omega) ?_
        rw [lesser_r, show ((850 : Int32)).toInt = 850 by decide]
        rcases s with s | s <;> (rw [zadd rfl s (by omega) (by omega)]; exact ⟨by show (0 : Int) ≤ _; omega, by show _ ≤ (850 : Int); omega⟩)
      · split
        · have s := speed_i zs (a := 5) (b := 2) (A := 5) (B := 2) (by decide) (by decide)
          refine j324_G1 h (by omega) ?_
          rw [greater_r, z0]
          rcases s with s | s <;> (rw [zsub rfl s (by omega) (by omega)]; exact ⟨by show (0 : Int) ≤ _; omega, by show _ ≤ (850 : Int); omega⟩)
        · split
          · have s := speed_i zs (a := 10) (b := 5) (A := 10) (B := 5) (by decide) (by decide)
            refine j324_G1 h (by omega) ?_
            rw [lesser_r, show ((6000 : Int32)).toInt = 6000 by decide]
            rcases s with s | s <;> (rw [zadd rfl s (by omega) (by omega)]; exact ⟨by show (1000 : Int) ≤ _; omega, by show _ ≤ (6000 : Int); omega⟩)
          · split
            · have s := speed_i zs (a := 10) (b := 5) (A := 10) (B := 5) (by decide) (by decide)
              refine j324_G1 h (by omega) ?_
              rw [greater_r, show ((1000 : Int32)).toInt = 1000 by decide]
              rcases s with s | s <;> (rw [zsub rfl s (by omega) (by omega)]; exact ⟨by show (1000 : Int) ≤ _; omega, by show _ ≤ (6000 : Int); omega⟩)
            · split
              · have s := speed_i zs (a := 15) (b := 7) (A := 15) (B := 7) (by decide) (by decide)
                refine j324_G1 h (by omega) ?_
                rcases s with s | s <;> (rw [zrem (zadd rfl s (by omega) (by omega)) (show ((3600 : Int32)).toInt = 3600 by decide) (by omega) (by omega)]; exact ⟨by show (0 : Int) ≤ _; omega, by show _ ≤ (3599 : Int); omega⟩)
              · have s := speed_i zs (a := 15) (b := 7) (A := 15) (B := 7) (by decide) (by decide)
                refine j324_G1 h (by omega) ?_
                rcases s with s | s <;> (rw [zrem (zadd (zsub rfl s (by omega) (by omega)) (show ((3600 : Int32)).toInt = 3600 by decide) (by omega) (by omega)) (show ((3600 : Int32)).toInt = 3600 by decide) (by omega) (by omega)]; exact ⟨by show (0 : Int) ≤ _; omega, by show _ ≤ (3599 : Int); omega⟩)
/-- remembering, taking back -/
theorem remember_e (zs zp : Nat → Int32) : ∀ k, k < 5 → m_remember zs zp k = zs k := by
  have key : ∀ (n i : Nat) (w : Nat → Int32), i ≤ 5 → 5 < i + n → (∀ k, k < i → w k = zs k) → ∀ k, k < 5 → spIter (fun _ _ => default) (m_remember_b2 zs) n i w k = zs k := by
    intro n
    induction n with
    | zero => intro i w h1 h2; omega
    | succ n ih =>
      intro i w h1 h2 hw k hk
      show m_remember_b2 zs (spIter (fun _ _ => default) (m_remember_b2 zs) n) i w k = zs k
      unfold m_remember_b2
      simp only [spLet]
      split
      · exact hw k (by omega)
      · refine ih (i + 1) _ (by omega) (by omega) (fun j hj => ?_) k hk
        by_cases e : j = i
        · subst e; exact pk_us
        · rw [pk_un e]; exact hw j (by omega)
  exact key 6 0 zp (by omega) (by omega) (fun k hk => by omega)
theorem takeBack_e (zs zp : Nat → Int32) (k : Nat) : m_takeBack zs zp k = if k < 5 then zp k else zs k := by
  have key : ∀ (n i : Nat) (w : Nat → Int32), i ≤ 5 → 5 < i + n → (∀ k, w k = if k < i then zp k else zs k) → ∀ k, spIter (fun _ _ => default) (m_takeBack_b2 zp) n i w k = if k < 5 then zp k else zs k := by
    intro n
    induction n with
    | zero => intro i w h1 h2; omega
    | succ n ih =>
      intro i w h1 h2 hw k
      show m_takeBack_b2 zp (spIter (fun _ _ => default) (m_takeBack_b2 zp) n) i w k = _
      unfold m_takeBack_b2
      simp only [spLet]
      split
      · have e : i = 5 := by omega
        subst e; exact hw k
      · refine ih (i + 1) _ (by omega) (by omega) (fun j => ?_) k
        by_cases e : j = i
        · subst e; rw [pk_us, if_pos (by omega)]
        · rw [pk_un e, hw j]
          by_cases q : j < i
          · rw [if_pos q, if_pos (by omega)]
          · rw [if_neg q, if_neg (by omega)]
  exact key 6 0 zs (by omega) (by omega) (fun k => by rw [if_neg (by omega)]) k
theorem takeBack_id (zs zp : Nat → Int32) (mo : Int32) : m_takeBack (m_carry zs mo) (m_remember zs zp) = zs := by
  funext k
  rw [takeBack_e]
  split
  · next h => exact remember_e zs zp k h
  · next h => exact carry_hi zs mo (by omega)
