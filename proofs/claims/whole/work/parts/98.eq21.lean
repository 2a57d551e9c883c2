/-! both sides: reading a script -/
section SC
variable {xf zt : Nat → Int32} {tl : Int32}
def crun (xf : Nat → Int32) (tl : Int32) (i : Nat) (sc se sk sn : Int32) (fm ft : Nat → Int32) : Int32 × Int32 × Int32 × Int32 × Int32 × (Nat → Int32) × (Nat → Int32) := spIter (fun _ _ _ _ _ _ _ => default) (x_X4_read_b12 xf tl) (tl.toNatClampNeg + 1 - i) i sc se sk sn fm ft
theorem crun_s {i : Nat} (hi : i < tl.toNatClampNeg) (h8 : tl.toNatClampNeg ≤ 80) (sc se sk sn : Int32) (fm ft : Nat → Int32) : crun xf tl i sc se sk sn fm ft = if (x_X4_accepts sc se sk sn fm ft (xf i)).1 = 0 then (nI i, (x_X4_accepts sc se sk sn fm ft (xf i)).2) else crun xf tl (i + 1) (x_X4_accepts sc se sk sn fm ft (xf i)).2.1 (x_X4_accepts sc se sk sn fm ft (xf i)).2.2.1 (x_X4_accepts sc se sk sn fm ft (xf i)).2.2.2.1 (x_X4_accepts sc se sk sn fm ft (xf i)).2.2.2.2.1 (x_X4_accepts sc se sk sn fm ft (xf i)).2.2.2.2.2.1 (x_X4_accepts sc se sk sn fm ft (xf i)).2.2.2.2.2.2 := by
  unfold crun
  rw [show tl.toNatClampNeg + 1 - i = (tl.toNatClampNeg + 1 - (i + 1)) + 1 by omega]
  show x_X4_read_b12 xf tl (spIter (fun _ _ _ _ _ _ _ => default) (x_X4_read_b12 xf tl) (tl.toNatClampNeg + 1 - (i + 1))) i sc se sk sn fm ft = _
  generalize spIter (fun _ _ _ _ _ _ _ => default) (x_X4_read_b12 xf tl) (tl.toNatClampNeg + 1 - (i + 1)) = R
  unfold x_X4_read_b12
  rw [if_neg (by omega), if_neg (by omega), spLet_x]
theorem crun_e {i : Nat} (hi : i = tl.toNatClampNeg) (sc se sk sn : Int32) (fm ft : Nat → Int32) : crun xf tl i sc se sk sn fm ft = if se = 0 then (-1, sc, se, sk, sn, fm, ft) else (tl, sc, se, sk, sn, fm, ft) := by
  unfold crun
  rw [show tl.toNatClampNeg + 1 - i = 0 + 1 by omega]
  show x_X4_read_b12 xf tl (spIter (fun _ _ _ _ _ _ _ => default) (x_X4_read_b12 xf tl) 0) i sc se sk sn fm ft = _
  generalize spIter (fun _ _ _ _ _ _ _ => default) (x_X4_read_b12 xf tl) 0 = R
  unfold x_X4_read_b12 x_X4_read_j41
  rw [if_pos (by omega)]
/-- blanks are passed over before a letter, a sign, a digit -/
theorem acc_b {se : Int32} (hs : se = 0 ∨ se = 1 ∨ se = 2) (sc sk sn : Int32) (fm ft : Nat → Int32) : x_X4_accepts sc se sk sn fm ft 32 = (1, sc, se, sk, sn, fm, ft) := by
  unfold x_X4_accepts
  rcases hs with rfl | rfl | rfl
  · rw [if_pos rfl, if_pos rfl]
  · rw [if_neg (by decide), if_pos rfl, if_pos rfl]
  · rw [if_neg (by decide), if_neg (by decide), if_pos rfl, if_pos rfl]
theorem acc_4 (sc sk sn : Int32) (fm ft : Nat → Int32) (ch : Int32) : x_X4_accepts sc 4 sk sn fm ft ch = x_X4_acceptsBehindNumber sc 4 sk sn fm ft ch := by
  unfold x_X4_accepts
  rw [if_neg (by decide), if_neg (by decide), if_neg (by decide), if_neg (by decide), spLet_x]
theorem acc_4b {sn : Int32} (hn : ¬ sn = 0) (sc sk : Int32) (fm ft : Nat → Int32) : x_X4_accepts sc 4 sk sn fm ft 32 = (1, sc, 4, sk, sn, fm, ft) := by
  rw [acc_4]
  unfold x_X4_acceptsBehindNumber
  rw [if_neg hn, if_pos rfl]
theorem skip_c (h8 : tl.toNatClampNeg ≤ 80) (hx : ∀ k, k < 80 → xf k = zt k) {se : Int32} (sc sk sn : Int32) (fm ft : Nat → Int32) (hs : (se = 0 ∨ se = 1 ∨ se = 2) ∨ (se = 4 ∧ ¬ sn = 0)) : ∀ (d a b : Nat), b = a + d → b ≤ tl.toNatClampNeg → (∀ j, a ≤ j → j < b → zt j = 32) → crun xf tl a sc se sk sn fm ft = crun xf tl b sc se sk sn fm ft := by
  intro d
  induction d with
  | zero => intro a b h1 h2 h3; rw [show a = b by omega]
  | succ d ih =>
    intro a b h1 h2 h3
    have e : x_X4_accepts sc se sk sn fm ft (xf a) = (1, sc, se, sk, sn, fm, ft) := by
      rw [hx a (by omega), h3 a (by omega) (by omega)]
      rcases hs with hs | ⟨hs, hn⟩
      · exact acc_b hs sc sk sn fm ft
      · rw [hs]; exact acc_4b hn sc sk fm ft
    rw [crun_s (by omega) h8, e, if_neg (show ¬ (1 : Int32) = 0 by decide)]
    exact ih (a + 1) b (by omega) h2 fun j h4 h5 => h3 j (by omega) h5
/-- the reference's sign: to the first place that is no blank -/
theorem sign_x (h8 : tl.toNatClampNeg ≤ 80) : ∀ (m a : Nat), a ≤ tl.toNatClampNeg → tl.toNatClampNeg - a < m → ∃ b, a ≤ b ∧ b ≤ tl.toNatClampNeg ∧ (∀ j, a ≤ j → j < b → zt j = 32) ∧ (b < tl.toNatClampNeg → ¬ zt b = 32) ∧ spIter (fun _ => default) (m_sign_b0 tl zt) m (nI a) = (if b < tl.toNatClampNeg then zt b else -1, nI b) := by
  intro m
  induction m with
  | zero => intro a h1 h2; omega
  | succ m ih =>
    intro a h1 h2
    show ∃ b, a ≤ b ∧ b ≤ tl.toNatClampNeg ∧ (∀ j, a ≤ j → j < b → zt j = 32) ∧ (b < tl.toNatClampNeg → ¬ zt b = 32) ∧ m_sign_b0 tl zt (spIter (fun _ => default) (m_sign_b0 tl zt) m) (nI a) = (if b < tl.toNatClampNeg then zt b else -1, nI b)
    generalize spIter (fun _ => default) (m_sign_b0 tl zt) m = R at ih ⊢
    have eh : m_here tl (nI a) zt = if a < tl.toNatClampNeg then zt a else -1 := by
      unfold m_here
      rw [nI_clamp (by omega)]
      by_cases c : a < tl.toNatClampNeg
      · rw [if_neg (by omega), if_pos c]
      · rw [if_pos (by omega), if_neg c]
    unfold m_sign_b0
    simp only [spLet_x, eh]
    rw [nI_clamp (by omega)]
    by_cases c : a < tl.toNatClampNeg
    · rw [if_pos c]
      by_cases d : zt a = 32
      · rw [if_pos d]
        obtain ⟨b, b1, b2, b3, b4, b5⟩ := ih (a + 1) (by omega) (by omega)
        refine ⟨b, by omega, b2, fun j h3 h4 => ?_, b4, b5⟩
        by_cases e : j = a
        · rw [e]; exact d
        · exact b3 j (by omega) h4
      · rw [if_neg d]
        exact ⟨a, Nat.le_refl _, h1, fun j h3 h4 => by omega, fun _ => d, by rw [if_pos c]⟩
    · rw [if_neg c, if_neg (by decide)]
      exact ⟨a, Nat.le_refl _, h1, fun j h3 h4 => by omega, fun h => absurd h c, by rw [if_neg c]⟩
theorem sign_a (h8 : tl.toNatClampNeg ≤ 80) {a : Nat} (h : a ≤ tl.toNatClampNeg) : ∃ b, a ≤ b ∧ b ≤ tl.toNatClampNeg ∧ (∀ j, a ≤ j → j < b → zt j = 32) ∧ (b < tl.toNatClampNeg → ¬ zt b = 32) ∧ m_sign tl (nI a) zt = (if b < tl.toNatClampNeg then zt b else -1, nI b) := sign_x h8 81 a h (by omega)
theorem here_n (h8 : tl.toNatClampNeg ≤ 80) {a : Nat} (h : a ≤ tl.toNatClampNeg) : m_here tl (nI a) zt = if a < tl.toNatClampNeg then zt a else -1 := by
  unfold m_here
  rw [nI_clamp (by omega)]
  by_cases c : a < tl.toNatClampNeg
  · rw [if_neg (by omega), if_pos c]
  · rw [if_pos (by omega), if_neg c]
def dig (c : Int32) : Prop := okA c 48 57
theorem acc_d (sc sk sn nx : Int32) (fm ft : Nat → Int32) {se c : Int32} (h : dig c) : x_X4_acceptsDigit sc se sk sn fm ft c nx = (1, sc, nx, sk, sn * 10 + (c - 48), fm, ft) := by
  unfold x_X4_acceptsDigit
  rw [if_neg (fun k => by have := Int32.lt_iff_toInt_lt.mp k; have := h.1; omega), if_pos (Int32.le_iff_toInt_le.mpr h.2), spLet_x]
theorem acc_nd (sc sk sn nx : Int32) (fm ft : Nat → Int32) {se c : Int32} (h : ¬ dig c) : x_X4_acceptsDigit sc se sk sn fm ft c nx = (0, sc, se, sk, sn, fm, ft) := by
  unfold x_X4_acceptsDigit
  by_cases k : c < 48
  · rw [if_pos k]
  · rw [if_neg k, if_neg (fun k2 => h ⟨Int32.le_iff_toInt_le.mp (Int32.not_lt.mp k), Int32.le_iff_toInt_le.mp k2⟩)]
theorem acc_2 (sc sk sn : Int32) (fm ft : Nat → Int32) {c : Int32} (h : dig c) : x_X4_accepts sc 2 sk sn fm ft c = (1, sc, 3, sk, sn * 10 + (c - 48), fm, ft) := by
  have h32 : ¬ c = 32 := fun k => by rw [k] at h; exact absurd h.1 (by decide)
  unfold x_X4_accepts
  rw [if_neg (by decide), if_neg (by decide), if_pos rfl, if_neg h32, spLet_x, acc_d sc sk sn 3 fm ft h, if_neg (show ¬ (1 : Int32) = 0 by decide)]
theorem acc_2n (sc sk sn : Int32) (fm ft : Nat → Int32) {c : Int32} (h : ¬ dig c) (h32 : ¬ c = 32) : (x_X4_accepts sc 2 sk sn fm ft c).1 = 0 := by
  unfold x_X4_accepts
  rw [if_neg (by decide), if_neg (by decide), if_pos rfl, if_neg h32, spLet_x, acc_nd sc sk sn 3 fm ft h, if_pos rfl]
theorem acc_3 (sc sk sn : Int32) (fm ft : Nat → Int32) {c : Int32} (h : dig c) : x_X4_accepts sc 3 sk sn fm ft c = (1, sc, 4, sk, sn * 10 + (c - 48), fm, ft) := by
  unfold x_X4_accepts
  rw [if_neg (by decide), if_neg (by decide), if_neg (by decide), if_pos rfl, spLet_x, acc_d sc sk sn 4 fm ft h, if_neg (show ¬ (1 : Int32) = 0 by decide)]
/-- what may come behind a number, with one digit or two -/
theorem acc_34 {se : Int32} (hse : se = 3 ∨ se = 4) (sc sk sn : Int32) (fm ft : Nat → Int32) {c : Int32} (hd : se = 3 → ¬ dig c) : x_X4_accepts sc se sk sn fm ft c = x_X4_acceptsBehindNumber sc se sk sn fm ft c := by
  rcases hse with rfl | rfl
  · have hb : (x_X4_acceptsBehindNumber sc 3 sk sn fm ft c).1 = 0 ∨ (x_X4_acceptsBehindNumber sc 3 sk sn fm ft c).1 = 1 := by
      unfold x_X4_acceptsBehindNumber
      simp only [spLet_x]
      split
      · exact Or.inl rfl
      · split
        · exact Or.inr rfl
        · split
          · split
            · exact Or.inl rfl
            · exact Or.inr rfl
          · exact Or.inl rfl
    unfold x_X4_accepts
    rw [if_neg (by decide), if_neg (by decide), if_neg (by decide), if_pos rfl, spLet_x, acc_nd sc sk sn 4 fm ft (hd rfl), if_pos rfl]
    simp only [spLet_x]
    generalize x_X4_acceptsBehindNumber sc 3 sk sn fm ft c = U at hb
    rcases hb with k | k
    · rw [if_pos k, ← k]
    · rw [if_neg (by rw [k]; decide), ← k]
  · exact acc_4 sc sk sn fm ft c
theorem keep_ok {o : Nat} (ho : o < 26) (se sk sn : Int32) (fm ft : Nat → Int32) : x_X4_keepOrder (nI o) se sk sn fm ft = (1, nI (o + 1), 0, sk, sn, upd fm o sk, upd ft o sn) := by
  have e := nI_toInt (n := o) (by omega)
  have z26 : ((26 : Int32)).toInt = 26 := by decide
  unfold x_X4_keepOrder
  rw [if_neg (fun k => by have := (lt_i l_0).mp k; omega), if_pos ((lt_i z26).mpr (by omega)), nI_clamp (by omega)]
  simp only [spLet_x]
/-- behind a number: blanks, then a semicolon -/
theorem tail_c (h8 : tl.toNatClampNeg ≤ 80) (ht : tl = nI tl.toNatClampNeg) (hx : ∀ k, k < 80 → xf k = zt k) {se : Int32} (hse : se = 3 ∨ se = 4) {o i : Nat} (hi : i ≤ tl.toNatClampNeg) (sk num : Int32) (fm ft : Nat → Int32) (hd : se = 3 → i < tl.toNatClampNeg → ¬ dig (zt i)) :
    (num = 0 → (crun xf tl i (nI o) se sk num fm ft).1 = nI i) ∧
    (¬ num = 0 → ∀ e, i ≤ e → e ≤ tl.toNatClampNeg → (∀ j, i ≤ j → j < e → zt j = 32) → (e < tl.toNatClampNeg → ¬ zt e = 32) → 3 * o + 2 ≤ e →
      (e < tl.toNatClampNeg → zt e = 59 → crun xf tl i (nI o) se sk num fm ft = crun xf tl (e + 1) (nI (o + 1)) 0 sk num (upd fm o sk) (upd ft o num)) ∧
      (¬ (e < tl.toNatClampNeg ∧ zt e = 59) → (crun xf tl i (nI o) se sk num fm ft).1 = nI e)) := by
  have hs0 : ¬ se = 0 := by rcases hse with k | k <;> rw [k] <;> decide
  have step : ∀ (s : Int32), (s = 3 ∨ s = 4) → ∀ a, a < tl.toNatClampNeg → (s = 3 → ¬ dig (zt a)) → crun xf tl a (nI o) s sk num fm ft = if (x_X4_acceptsBehindNumber (nI o) s sk num fm ft (zt a)).1 = 0 then (nI a, (x_X4_acceptsBehindNumber (nI o) s sk num fm ft (zt a)).2) else crun xf tl (a + 1) (x_X4_acceptsBehindNumber (nI o) s sk num fm ft (zt a)).2.1 (x_X4_acceptsBehindNumber (nI o) s sk num fm ft (zt a)).2.2.1 (x_X4_acceptsBehindNumber (nI o) s sk num fm ft (zt a)).2.2.2.1 (x_X4_acceptsBehindNumber (nI o) s sk num fm ft (zt a)).2.2.2.2.1 (x_X4_acceptsBehindNumber (nI o) s sk num fm ft (zt a)).2.2.2.2.2.1 (x_X4_acceptsBehindNumber (nI o) s sk num fm ft (zt a)).2.2.2.2.2.2 := fun s hs a ha hda => by
    have e := acc_34 hs (nI o) sk num fm ft (c := zt a) hda
    rw [crun_s ha h8, hx a (by omega), e]
  refine ⟨fun hn => ?_, fun hn e h1 h2 h3 h4 h5 => ?_⟩
  · by_cases c : i < tl.toNatClampNeg
    · rw [step se hse i c fun k => hd k c]
      unfold x_X4_acceptsBehindNumber
      rw [if_pos hn, if_pos rfl]
    · rw [crun_e (by omega), if_neg hs0]
      show tl = nI i
      rw [show i = tl.toNatClampNeg by omega]
      exact ht
  · -- from a place in state 4, without blanks
    have fin : ∀ s : Int32, (s = 3 ∨ s = 4) → (s = 3 → e < tl.toNatClampNeg → ¬ dig (zt e)) → (e < tl.toNatClampNeg → zt e = 59 → crun xf tl e (nI o) s sk num fm ft = crun xf tl (e + 1) (nI (o + 1)) 0 sk num (upd fm o sk) (upd ft o num)) ∧ (¬ (e < tl.toNatClampNeg ∧ zt e = 59) → (crun xf tl e (nI o) s sk num fm ft).1 = nI e) := fun s hs hds => by
      have hs0 : ¬ s = 0 := by rcases hs with k | k <;> rw [k] <;> decide
      refine ⟨fun c d => ?_, fun c => ?_⟩
      · rw [step s hs e c fun k => hds k c, d]
        unfold x_X4_acceptsBehindNumber
        rw [if_neg hn, if_neg (show ¬ (59 : Int32) = 32 by decide), if_pos (show (59 : Int32) = 59 from rfl), spLet_x, keep_ok (by omega), if_neg (show ¬ (1 : Int32) = 0 by decide), if_neg (show ¬ (1 : Int32) = 0 by decide)]
      · by_cases f : e < tl.toNatClampNeg
        · have d : ¬ zt e = 59 := fun k => c ⟨f, k⟩
          rw [step s hs e f fun k => hds k f]
          unfold x_X4_acceptsBehindNumber
          rw [if_neg hn, if_neg (h4 f), if_neg d, if_pos rfl]
        · rw [crun_e (by omega), if_neg hs0]
          show tl = nI e
          rw [show e = tl.toNatClampNeg by omega]
          exact ht
    by_cases c : e = i
    · rw [← c] at hd ⊢
      exact fin se hse hd
    · have hb := h3 i (by omega) (by omega)
      have e1 : crun xf tl i (nI o) se sk num fm ft = crun xf tl (i + 1) (nI o) 4 sk num fm ft := by
        rw [step se hse i (by omega) (fun k => by rw [hb]; exact fun k2 => absurd k2.1 (by decide)), hb]
        unfold x_X4_acceptsBehindNumber
        rw [if_neg hn, if_pos (show (32 : Int32) = 32 from rfl), if_neg (show ¬ (1 : Int32) = 0 by decide)]
      rw [e1, skip_c h8 hx (se := 4) (nI o) sk num fm ft (Or.inr ⟨rfl, hn⟩) (e - (i + 1)) (i + 1) e (by omega) h2 fun j h6 h7 => h3 j (by omega) h7]
      exact fin 4 (Or.inr rfl) (fun k => absurd k (by decide))
end SC
