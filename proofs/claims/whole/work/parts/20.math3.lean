/-! what carrying out a motion, logging and remembering do to the reference's cells -/
theorem carry_hi (zs : Nat → Int32) (mo : Int32) {k : Nat} (hk : 5 ≤ k) : m_carry zs mo k = zs k := by
  unfold m_carry
  simp only [spLet_x, m_carry_j77, m_carry_j324]
  repeat' split
  all_goals (rw [pk_un (by omega), pk_un (by omega)])
theorem carry56 (zs : Nat → Int32) (mo : Int32) : m_carry zs mo 5 = zs 5 ∧ m_carry zs mo 6 = zs 6 := ⟨carry_hi zs mo (by omega), carry_hi zs mo (by omega)⟩
theorem j324_G {w : Nat → Int32} (h : ∀ k, k < 246 → k ≠ 3 → mlo k ≤ (w k).toInt ∧ (w k).toInt ≤ mhi k) (h3 : 0 ≤ (w 3).toInt) : mG (m_carry_j324 w) := by
  have e : m_carry_j324 w = upd w 3 (m_lesser (w 3) (m_height w - 200)) := rfl
  have a0 : 1000 ≤ (w 0).toInt ∧ (w 0).toInt ≤ 6000 := h 0 (by omega) (by omega)
  have a1 : 0 ≤ (w 1).toInt ∧ (w 1).toInt ≤ 850 := h 1 (by omega) (by omega)
  have hh : 250 ≤ (m_height w).toInt ∧ (m_height w).toInt ≤ 6250 := heightOf_r a0.1 a0.2 a1.1 a1.2
  have e2 : (m_height w - 200).toInt = (m_height w).toInt - 200 := zsub rfl (show ((200 : Int32)).toInt = 200 by decide) (by omega) (by omega)
  rw [e]
  intro k hk
  by_cases e3 : k = 3
  · subst e3
    rw [pk_us, lesser_r, e2]
    have l3 : mlo 3 = 0 := rfl
    have u3 : mhi 3 = 6050 := rfl
    omega
  · rw [pk_un e3]; exact h k hk e3
theorem j324_G1 {zs : Nat → Int32} (h : mG zs) {i : Nat} {v : Int32} (hi : i ≠ 3) (hv : mlo i ≤ v.toInt ∧ v.toInt ≤ mhi i) : mG (m_carry_j324 (upd zs i v)) := by
  refine j324_G (fun k hk k3 => ?_) ?_
  · by_cases e : k = i
    · subst e; rw [pk_us]; exact hv
    · rw [pk_un e]; exact h k hk
  · rw [pk_un (Ne.symm hi)]; exact (h.c3).1
theorem j324_G3 {zs : Nat → Int32} (h : mG zs) {v : Int32} (hv : 0 ≤ v.toInt) : mG (m_carry_j324 (upd zs 3 v)) := by
  refine j324_G (fun k hk k3 => ?_) ?_
  · rw [pk_un k3]; exact h k hk
  · rw [pk_us]; exact hv
theorem speed_r (zs : Nat → Int32) (a b : Int32) : m_speed zs a b = a ∨ m_speed zs a b = b := by unfold m_speed; split <;> simp
theorem speed_i (zs : Nat → Int32) {a b : Int32} {A B : Int} (ha : a.toInt = A) (hb : b.toInt = B) : (m_speed zs a b).toInt = A ∨ (m_speed zs a b).toInt = B := by
  rcases speed_r zs a b with h | h <;> rw [h]
  · exact Or.inl ha
  · exact Or.inr hb
/-- a motion changes one of the five cells, then the hook's height is held below the tip -/
def cvP (zs w : Nat → Int32) : Prop := ∃ (i : Nat) (v : Int32), w = m_carry_j324 (upd zs i v) ∧ ((i = 3 ∧ 0 ≤ v.toInt) ∨ (i ≠ 3 ∧ mlo i ≤ v.toInt ∧ v.toInt ≤ mhi i))
theorem cvI {zs A B : Nat → Int32} {c : Prop} [Decidable c] (h1 : c → cvP zs A) (h2 : ¬ c → cvP zs B) : cvP zs (if c then A else B) := by
  by_cases q : c
  · rw [if_pos q]; exact h1 q
  · rw [if_neg q]; exact h2 q
theorem cv3 {zs : Nat → Int32} {v : Int32} (h : 0 ≤ v.toInt) : cvP zs (m_carry_j324 (upd zs 3 v)) := ⟨3, v, rfl, Or.inl ⟨rfl, h⟩⟩
theorem cv1 {zs : Nat → Int32} {i : Nat} {v : Int32} {a b : Int} (hi : i ≠ 3) (ha : mlo i = a) (hb : mhi i = b) (h1 : a ≤ v.toInt) (h2 : v.toInt ≤ b) : cvP zs (m_carry_j324 (upd zs i v)) := ⟨i, v, rfl, Or.inr ⟨hi, by rw [ha]; exact h1, by rw [hb]; exact h2⟩⟩
theorem l_0 : ((0 : Int32)).toInt = 0 := by decide
theorem l_1 : ((1 : Int32)).toInt = 1 := by decide
theorem l_4 : ((4 : Int32)).toInt = 4 := by decide
theorem l_850 : ((850 : Int32)).toInt = 850 := by decide
theorem l_1000 : ((1000 : Int32)).toInt = 1000 := by decide
theorem l_3600 : ((3600 : Int32)).toInt = 3600 := by decide
theorem l_6000 : ((6000 : Int32)).toInt = 6000 := by decide
theorem sp20 (zs : Nat → Int32) : (m_speed zs 20 10).toInt = 20 ∨ (m_speed zs 20 10).toInt = 10 := speed_i zs (by decide) (by decide)
theorem sp5 (zs : Nat → Int32) : (m_speed zs 5 2).toInt = 5 ∨ (m_speed zs 5 2).toInt = 2 := speed_i zs (by decide) (by decide)
theorem sp10 (zs : Nat → Int32) : (m_speed zs 10 5).toInt = 10 ∨ (m_speed zs 10 5).toInt = 5 := speed_i zs (by decide) (by decide)
theorem sp15 (zs : Nat → Int32) : (m_speed zs 15 7).toInt = 15 ∨ (m_speed zs 15 7).toInt = 7 := speed_i zs (by decide) (by decide)
theorem cvj77 {zs : Nat → Int32} (h : mG zs) : cvP zs (m_carry_j77 zs) := by
  have a3 := h.c3
  refine cv3 (v := zs 3 + m_speed zs 20 10) ?_
  rcases sp20 zs with s | s <;> (rw [zadd rfl s (by omega) (by omega)]; omega)
theorem cvT {zs : Nat → Int32} (h : mG zs) (n4 : ¬ 4 ≤ zs 4) : cvP zs (m_carry_j324 (upd zs 4 (zs 4 + 1))) := by
  have a4 := h.c4
  have n4 : ¬ 4 ≤ (zs 4).toInt := fun q => n4 (Int32.le_iff_toInt_le.mpr (by rw [l_4]; exact q))
  have e : (zs 4 + 1).toInt = (zs 4).toInt + 1 := zadd rfl l_1 (by omega) (by omega)
  exact cv1 (a := 0) (b := 4) (by omega) rfl rfl (by omega) (by omega)
theorem cvS {zs : Nat → Int32} (h : mG zs) : cvP zs (m_carry_j324 (upd zs 4 (m_greater 0 (zs 4 - 1)))) := by
  have a4 := h.c4
  have e : (m_greater 0 (zs 4 - 1)).toInt = max 0 ((zs 4).toInt - 1) := by rw [greater_r, zsub rfl l_1 (by omega) (by omega), l_0]
  exact cv1 (a := 0) (b := 4) (by omega) rfl rfl (by omega) (by omega)
theorem cvD {zs : Nat → Int32} : cvP zs (m_carry_j324 (upd zs 3 (m_greater 0 (zs 3 - m_speed zs 20 10)))) := by
  have e := greater_r 0 (zs 3 - m_speed zs 20 10)
  rw [l_0] at e
  exact cv3 (by omega)
theorem cvU {zs : Nat → Int32} (h : mG zs) : cvP zs (m_carry_j324 (upd zs 1 (m_lesser 850 (zs 1 + m_speed zs 5 2)))) := by
  have a1 := h.c1
  have e := lesser_r 850 (zs 1 + m_speed zs 5 2)
  rw [l_850] at e
  rcases sp5 zs with s | s <;> (rw [zadd rfl s (by omega) (by omega)] at e; exact cv1 (a := 0) (b := 850) (by omega) rfl rfl (by omega) (by omega))
theorem cvL {zs : Nat → Int32} (h : mG zs) : cvP zs (m_carry_j324 (upd zs 1 (m_greater 0 (zs 1 - m_speed zs 5 2)))) := by
  have a1 := h.c1
  have e := greater_r 0 (zs 1 - m_speed zs 5 2)
  rw [l_0] at e
  rcases sp5 zs with s | s <;> (rw [zsub rfl s (by omega) (by omega)] at e; exact cv1 (a := 0) (b := 850) (by omega) rfl rfl (by omega) (by omega))
theorem cvE {zs : Nat → Int32} (h : mG zs) : cvP zs (m_carry_j324 (upd zs 0 (m_lesser 6000 (zs 0 + m_speed zs 10 5)))) := by
  have a0 := h.c0
  have e := lesser_r 6000 (zs 0 + m_speed zs 10 5)
  rw [l_6000] at e
  rcases sp10 zs with s | s <;> (rw [zadd rfl s (by omega) (by omega)] at e; exact cv1 (a := 1000) (b := 6000) (by omega) rfl rfl (by omega) (by omega))
theorem cvR {zs : Nat → Int32} (h : mG zs) : cvP zs (m_carry_j324 (upd zs 0 (m_greater 1000 (zs 0 - m_speed zs 10 5)))) := by
  have a0 := h.c0
  have e := greater_r 1000 (zs 0 - m_speed zs 10 5)
  rw [l_1000] at e
  rcases sp10 zs with s | s <;> (rw [zsub rfl s (by omega) (by omega)] at e; exact cv1 (a := 1000) (b := 6000) (by omega) rfl rfl (by omega) (by omega))
theorem cvA {zs : Nat → Int32} (h : mG zs) : cvP zs (m_carry_j324 (upd zs 2 (zs 2 + m_speed zs 15 7 - (zs 2 + m_speed zs 15 7) / 3600 * 3600))) := by
  have a2 := h.c2
  rcases sp15 zs with s | s
  · have e := zrem (zadd rfl s (by omega) (by omega)) l_3600 (a := (zs 2).toInt + 15) (by omega) (by omega)
    exact cv1 (a := 0) (b := 3599) (by omega) rfl rfl (by omega) (by omega)
  · have e := zrem (zadd rfl s (by omega) (by omega)) l_3600 (a := (zs 2).toInt + 7) (by omega) (by omega)
    exact cv1 (a := 0) (b := 3599) (by omega) rfl rfl (by omega) (by omega)
theorem cvB {zs : Nat → Int32} (h : mG zs) : cvP zs (m_carry_j324 (upd zs 2 (zs 2 - m_speed zs 15 7 + 3600 - (zs 2 - m_speed zs 15 7 + 3600) / 3600 * 3600))) := by
  have a2 := h.c2
  rcases sp15 zs with s | s
  · have e := zrem (zadd (zsub rfl s (by omega) (by omega)) l_3600 (by omega) (by omega)) l_3600 (a := (zs 2).toInt - 15 + 3600) (by omega) (by omega)
    exact cv1 (a := 0) (b := 3599) (by omega) rfl rfl (by omega) (by omega)
  · have e := zrem (zadd (zsub rfl s (by omega) (by omega)) l_3600 (by omega) (by omega)) l_3600 (a := (zs 2).toInt - 7 + 3600) (by omega) (by omega)
    exact cv1 (a := 0) (b := 3599) (by omega) rfl rfl (by omega) (by omega)
theorem carry_v {zs : Nat → Int32} (h : mG zs) (mo : Int32) : cvP zs (m_carry zs mo) := by
  unfold m_carry
  simp only [spLet_x]
  refine cvI (fun _ => cvI (fun _ => cvj77 h) (fun _ => cvI (fun _ => cvj77 h) (fun n => cvT h n))) (fun _ => cvI (fun _ => cvI (fun _ => cvS h) (fun _ => cvD)) (fun _ => cvI (fun _ => cvU h) (fun _ => cvI (fun _ => cvL h) (fun _ => cvI (fun _ => cvE h) (fun _ => cvI (fun _ => cvR h) (fun _ => cvI (fun _ => cvA h) (fun _ => cvB h)))))))
theorem carry_G {zs : Nat → Int32} (h : mG zs) (mo : Int32) : mG (m_carry zs mo) := by
  obtain ⟨i, v, e, hv⟩ := carry_v h mo
  rw [e]
  rcases hv with ⟨rfl, hv⟩ | ⟨hi, hv⟩
  · exact j324_G3 h hv
  · exact j324_G1 h hi hv
/-- remembering, taking back -/
theorem remember_e (zs zp : Nat → Int32) : ∀ k, k < 5 → m_remember zs zp k = zs k := by
  have key : ∀ (n i : Nat) (w : Nat → Int32), i ≤ 5 → 5 < i + n → (∀ k, k < i → w k = zs k) → ∀ k, k < 5 → spIter (fun _ _ => default) (m_remember_b2 zs) n i w k = zs k := by
    intro n
    induction n with
    | zero => intro i w h1 h2; omega
    | succ n ih =>
      intro i w h1 h2 hw k hk
      show m_remember_b2 zs (spIter (fun _ _ => default) (m_remember_b2 zs) n) i w k = zs k
      unfold m_remember_b2
      simp only [spLet_x]
      split
      · exact hw k (by omega)
      · refine ih (i + 1) _ (by omega) (by omega) (fun j hj => ?_) k hk
        by_cases e : j = i
        · subst e; exact pk_us
        · rw [pk_un e]; exact hw j (by omega)
  exact key 6 0 zp (by omega) (by omega) (fun k hk => by omega)
theorem takeBack_e (zs zp : Nat → Int32) (k : Nat) : m_takeBack zs zp k = if k < 5 then zp k else zs k := by
  have key : ∀ (n i : Nat) (w : Nat → Int32), i ≤ 5 → 5 < i + n → (∀ k, w k = if k < i then zp k else zs k) → ∀ k, spIter (fun _ _ => default) (m_takeBack_b2 zp) n i w k = if k < 5 then zp k else zs k := by
    intro n
    induction n with
    | zero => intro i w h1 h2; omega
    | succ n ih =>
      intro i w h1 h2 hw k
      show m_takeBack_b2 zp (spIter (fun _ _ => default) (m_takeBack_b2 zp) n) i w k = _
      unfold m_takeBack_b2
      simp only [spLet_x]
      split
      · have e : i = 5 := by omega
        subst e; exact hw k
      · refine ih (i + 1) _ (by omega) (by omega) (fun j => ?_) k
        by_cases e : j = i
        · subst e; rw [pk_us, if_pos (by omega)]
        · rw [pk_un e, hw j]
          by_cases q : j < i
          · rw [if_pos q, if_pos (by omega)]
          · rw [if_neg q, if_neg (by omega)]
  exact key 6 0 zs (by omega) (by omega) (fun k => by rw [if_neg (by omega)]) k
theorem takeBack_id (zs zp : Nat → Int32) (mo : Int32) : m_takeBack (m_carry zs mo) (m_remember zs zp) = zs := by
  funext k
  rw [takeBack_e]
  split
  · next h => exact remember_e zs zp k h
  · next h => exact carry_hi zs mo (by omega)

