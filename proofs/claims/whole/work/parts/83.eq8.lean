/-! both sides: the log -/
/-- the cells behind k move three places down -/
def shf (w : Nat → Int32) (k : Nat) : Nat → Int32 := fun q => if 144 + k ≤ q ∧ q < 231 then w (q + 3) else w q
theorem shf_s (w : Nat → Int32) (k : Nat) (hk : k < 87) : shf (upd w (144 + k) (w (144 + k + 3))) (k + 1) = shf w k := by
  funext q
  unfold shf upd
  by_cases h : q = 144 + k
  · subst h
    rw [if_neg (by omega), if_pos rfl, if_pos (by omega)]
  · by_cases h2 : 144 + (k + 1) ≤ q ∧ q < 231
    · rw [if_pos h2, if_neg (by omega), if_pos (by omega)]
    · rw [if_neg h2, if_neg h, if_neg (by omega)]
theorem log_loop (kd vl : Int32) : ∀ (n k : Nat) (w : Nat → Int32), k ≤ 87 → 87 < k + n → spIter (fun _ _ => default) (m_log_b15 kd vl) n k w = m_log_j61 kd vl (upd (shf w k) 143 (shf w k 143 - 1)) := by
  intro n
  induction n with
  | zero => intro k w h h1; omega
  | succ n ih =>
    intro k w h h1
    show m_log_b15 kd vl (spIter (fun _ _ => default) (m_log_b15 kd vl) n) k w = _
    generalize spIter (fun _ _ => default) (m_log_b15 kd vl) n = R at ih ⊢
    unfold m_log_b15
    simp only [spLet_x]
    by_cases c : 87 ≤ k
    · have e : shf w k = w := by
        funext q
        unfold shf
        rw [if_neg (by omega)]
      rw [if_pos c, e]
    · rw [if_neg c]
      have := ih (k + 1) (upd w (144 + k) (w (144 + k + 3))) (by omega) (by omega)
      rw [shf_s w k (by omega)] at this
      exact this
/-- a new event at place c -/
theorem j61_at {w : Nat → Int32} {c : Nat} (hc : w 143 = nI c) (h30 : c < 30) (kd vl : Int32) :
    (∀ q, q < 143 ∨ 234 ≤ q → m_log_j61 kd vl w q = w q) ∧ m_log_j61 kd vl w 143 = nI (c + 1) ∧ (m_log_j61 kd vl w (144 + 3 * c) = w 8 ∧ m_log_j61 kd vl w (145 + 3 * c) = kd ∧ m_log_j61 kd vl w (146 + 3 * c) = vl) ∧ ∀ q, 144 ≤ q → q < 144 + 3 * c → m_log_j61 kd vl w q = w q := by
  have e : (w 143).toNatClampNeg = c := by rw [hc, nI_clamp (by omega)]
  have i1 : 144 + 3 * c + 1 = 145 + 3 * c := by omega
  have i2 : 144 + 3 * c + 2 = 146 + 3 * c := by omega
  unfold m_log_j61
  simp only [spLet_x, e, i1, i2]
  refine ⟨fun q hq => ?_, ?_, ⟨?_, ?_, ?_⟩, fun q h1 h2 => ?_⟩
  · rw [upd_o _ _ _ (by omega), upd_o _ _ _ (by omega), upd_o _ _ _ (by omega), upd_o _ _ _ (by omega)]
  · rw [upd_s, upd_o _ _ _ (by omega), upd_o _ _ _ (by omega), upd_o _ _ _ (by omega), hc]
    exact nadd rfl rfl
  · rw [upd_o _ _ _ (by omega), upd_o _ _ _ (by omega), upd_o _ _ _ (by omega), upd_s]
  · rw [upd_o _ _ _ (by omega), upd_o _ _ _ (by omega), upd_s]
  · rw [upd_o _ _ _ (by omega), upd_s]
  · rw [upd_o _ _ _ (by omega), upd_o _ _ _ (by omega), upd_o _ _ _ (by omega), upd_o _ _ _ (by omega)]
theorem log_at {zs : Nat → Int32} {c : Nat} (hc : zs 143 = nI c) (h30 : c ≤ 30) (kd vl : Int32) :
    (∀ q, q < 143 ∨ 234 ≤ q → m_log zs kd vl q = zs q) ∧ m_log zs kd vl 143 = nI (if c = 30 then 30 else c + 1) ∧ (m_log zs kd vl (144 + 3 * (if c = 30 then 29 else c)) = zs 8 ∧ m_log zs kd vl (145 + 3 * (if c = 30 then 29 else c)) = kd ∧ m_log zs kd vl (146 + 3 * (if c = 30 then 29 else c)) = vl) ∧ ∀ q, 144 ≤ q → q < 144 + 3 * (if c = 30 then 29 else c) → m_log zs kd vl q = zs (if c = 30 then q + 3 else q) := by
  have e : (zs 143).toNatClampNeg = c := by rw [hc, nI_clamp (by omega)]
  unfold m_log
  rw [e]
  by_cases h : c = 30
  · simp only [if_pos h]
    rw [log_loop kd vl 88 0 zs (by omega) (by omega)]
    have e2 : upd (shf zs 0) 143 (shf zs 0 143 - 1) 143 = nI 29 := by
      rw [upd_s]
      unfold shf
      rw [if_neg (by omega), hc, h]
      rfl
    obtain ⟨a1, a2, a3, a4⟩ := j61_at (w := upd (shf zs 0) 143 (shf zs 0 143 - 1)) (c := 29) e2 (by omega) kd vl
    have o : ∀ q, q < 143 ∨ 234 ≤ q → upd (shf zs 0) 143 (shf zs 0 143 - 1) q = zs q := fun q hq => by
      rw [upd_o _ _ _ (by omega)]
      unfold shf
      rw [if_neg (by omega)]
    refine ⟨fun q hq => by rw [a1 q hq, o q hq], a2, ⟨by rw [a3.1, o 8 (by omega)], a3.2.1, a3.2.2⟩, fun q h1 h2 => ?_⟩
    rw [a4 q h1 h2, upd_o _ _ _ (by omega)]
    unfold shf
    rw [if_pos (by omega)]
  · simp only [if_neg h]
    exact j61_at hc (by omega) kd vl
/-- the ring and the cells hold the same events -/
def logR (go gc : Int32) (gt gk gv zs : Nat → Int32) : Prop := ∃ o c : Nat, go = nI o ∧ gc = nI c ∧ o < 30 ∧ c ≤ 30 ∧ zs 143 = nI c ∧ ∀ i, i < c → gt ((o + i) % 30) = zs (144 + 3 * i) ∧ gk ((o + i) % 30) = zs (145 + 3 * i) ∧ gv ((o + i) % 30) = zs (146 + 3 * i)
theorem slot_n {o i : Nat} (ho : o < 30) (hi : i ≤ 30) : x_X3_slotOf (nI o) (nI i) = nI ((o + i) % 30) := by
  have h1 := nI_toInt (n := o) (by omega)
  have h2 := nI_toInt (n := i) (by omega)
  rw [slotOf_e (by omega) (by omega), nI_clamp (by omega), nI_clamp (by omega)]
theorem q_add {go gc : Int32} {gt gk gv zs : Nat → Int32} (h : logR go gc gt gk gv zs) (kd vl : Int32) : logR (x_X3_add go gc gt gk gv (zs 8) kd vl).1 (x_X3_add go gc gt gk gv (zs 8) kd vl).2.1 (x_X3_add go gc gt gk gv (zs 8) kd vl).2.2.1 (x_X3_add go gc gt gk gv (zs 8) kd vl).2.2.2.1 (x_X3_add go gc gt gk gv (zs 8) kd vl).2.2.2.2 (m_log zs kd vl) := by
  obtain ⟨o, c, rfl, rfl, ho, hc, hz, hr⟩ := h
  obtain ⟨-, a2, a3, a4⟩ := log_at hz hc kd vl
  have z30 : ((30 : Int32)).toInt = 30 := by decide
  have ec := nI_toInt (n := c) (by omega)
  have es := slot_n ho hc
  have es1 : x_X3_slotOf (nI o) 1 = nI ((o + 1) % 30) := slot_n ho (i := 1) (by omega)
  unfold x_X3_add
  simp only [spLet_x, es, es1, nI_clamp (show (o + c) % 30 < 2147483648 by omega)]
  by_cases h30 : c = 30
  · simp only [if_pos h30] at a2 a3 a4
    rw [if_pos (Int32.le_iff_toInt_le.mpr (by omega))]
    refine ⟨(o + 1) % 30, c, rfl, rfl, by omega, hc, by rw [a2, h30], fun i hi => ?_⟩
    have es2 : (o + c) % 30 = o := by omega
    show upd gt ((o + c) % 30) (zs 8) (((o + 1) % 30 + i) % 30) = _ ∧ upd gk ((o + c) % 30) kd (((o + 1) % 30 + i) % 30) = _ ∧ upd gv ((o + c) % 30) vl (((o + 1) % 30 + i) % 30) = _
    by_cases hi9 : i = 29
    · have e9 : ((o + 1) % 30 + i) % 30 = (o + c) % 30 := by omega
      rw [e9, upd_s, upd_s, upd_s, hi9]
      exact ⟨a3.1.symm, a3.2.1.symm, a3.2.2.symm⟩
    · have e9 : ((o + 1) % 30 + i) % 30 = (o + (i + 1)) % 30 := by omega
      obtain ⟨r1, r2, r3⟩ := hr (i + 1) (by omega)
      rw [e9, upd_o _ _ _ (by omega), upd_o _ _ _ (by omega), upd_o _ _ _ (by omega), r1, r2, r3, a4 _ (by omega) (by omega), a4 _ (by omega) (by omega), a4 _ (by omega) (by omega)]
      exact ⟨by congr 1, by congr 1, by congr 1⟩
  · simp only [if_neg h30] at a2 a3 a4
    rw [if_neg (fun k => by have := Int32.le_iff_toInt_le.mp k; omega)]
    refine ⟨o, c + 1, rfl, nadd rfl rfl, ho, by omega, a2, fun i hi => ?_⟩
    show upd gt ((o + c) % 30) (zs 8) ((o + i) % 30) = _ ∧ upd gk ((o + c) % 30) kd ((o + i) % 30) = _ ∧ upd gv ((o + c) % 30) vl ((o + i) % 30) = _
    by_cases hi9 : i = c
    · rw [hi9, upd_s, upd_s, upd_s]
      exact ⟨a3.1.symm, a3.2.1.symm, a3.2.2.symm⟩
    · obtain ⟨r1, r2, r3⟩ := hr i (by omega)
      rw [upd_o _ _ _ (by omega), upd_o _ _ _ (by omega), upd_o _ _ _ (by omega), r1, r2, r3, a4 _ (by omega) (by omega), a4 _ (by omega) (by omega), a4 _ (by omega) (by omega)]
      exact ⟨rfl, rfl, rfl⟩
