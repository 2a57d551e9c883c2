/-! both sides: reading a script -/
section SC
variable {xf zt : Nat → Int32} {tl : Int32}
def crun (xf : Nat → Int32) (tl : Int32) (i : Nat) (sc se sk sn : Int32) (fm ft : Nat → Int32) : Int32 × Int32 × Int32 × Int32 × Int32 × (Nat → Int32) × (Nat → Int32) := spIter (fun _ _ _ _ _ _ _ => default) (x_X4_read_b12 xf tl) (tl.toNatClampNeg + 1 - i) i sc se sk sn fm ft
theorem crun_s {i : Nat} (hi : i < tl.toNatClampNeg) (h8 : tl.toNatClampNeg ≤ 80) (sc se sk sn : Int32) (fm ft : Nat → Int32) : crun xf tl i sc se sk sn fm ft = if (x_X4_accepts sc se sk sn fm ft (xf i)).1 = 0 then (nI i, (x_X4_accepts sc se sk sn fm ft (xf i)).2) else crun xf tl (i + 1) (x_X4_accepts sc se sk sn fm ft (xf i)).2.1 (x_X4_accepts sc se sk sn fm ft (xf i)).2.2.1 (x_X4_accepts sc se sk sn fm ft (xf i)).2.2.2.1 (x_X4_accepts sc se sk sn fm ft (xf i)).2.2.2.2.1 (x_X4_accepts sc se sk sn fm ft (xf i)).2.2.2.2.2.1 (x_X4_accepts sc se sk sn fm ft (xf i)).2.2.2.2.2.2 := by
  unfold crun
  rw [show tl.toNatClampNeg + 1 - i = (tl.toNatClampNeg + 1 - (i + 1)) + 1 by omega]
  show x_X4_read_b12 xf tl (spIter (fun _ _ _ _ _ _ _ => default) (x_X4_read_b12 xf tl) (tl.toNatClampNeg + 1 - (i + 1))) i sc se sk sn fm ft = _
  generalize spIter (fun _ _ _ _ _ _ _ => default) (x_X4_read_b12 xf tl) (tl.toNatClampNeg + 1 - (i + 1)) = R
  unfold x_X4_read_b12
  rw [if_neg (by omega), if_neg (by omega), spLet_x]
theorem crun_e {i : Nat} (hi : i = tl.toNatClampNeg) (sc se sk sn : Int32) (fm ft : Nat → Int32) : crun xf tl i sc se sk sn fm ft = if se = 0 then (-1, sc, se, sk, sn, fm, ft) else (tl, sc, se, sk, sn, fm, ft) := by
  unfold crun
  rw [show tl.toNatClampNeg + 1 - i = 0 + 1 by omega]
  show x_X4_read_b12 xf tl (spIter (fun _ _ _ _ _ _ _ => default) (x_X4_read_b12 xf tl) 0) i sc se sk sn fm ft = _
  generalize spIter (fun _ _ _ _ _ _ _ => default) (x_X4_read_b12 xf tl) 0 = R
  unfold x_X4_read_b12 x_X4_read_j41
  rw [if_pos (by omega)]
/-- blanks are passed over before a letter, a sign, a digit -/
theorem acc_b {se : Int32} (hs : se = 0 ∨ se = 1 ∨ se = 2) (sc sk sn : Int32) (fm ft : Nat → Int32) : x_X4_accepts sc se sk sn fm ft 32 = (1, sc, se, sk, sn, fm, ft) := by
  unfold x_X4_accepts
  rcases hs with rfl | rfl | rfl
  · rw [if_pos rfl, if_pos rfl]
  · rw [if_neg (by decide), if_pos rfl, if_pos rfl]
  · rw [if_neg (by decide), if_neg (by decide), if_pos rfl, if_pos rfl]
theorem acc_4 (sc sk sn : Int32) (fm ft : Nat → Int32) (ch : Int32) : x_X4_accepts sc 4 sk sn fm ft ch = x_X4_acceptsBehindNumber sc 4 sk sn fm ft ch := by
  unfold x_X4_accepts
  rw [if_neg (by decide), if_neg (by decide), if_neg (by decide), if_neg (by decide), spLet_x]
theorem acc_4b {sn : Int32} (hn : ¬ sn = 0) (sc sk : Int32) (fm ft : Nat → Int32) : x_X4_accepts sc 4 sk sn fm ft 32 = (1, sc, 4, sk, sn, fm, ft) := by
  rw [acc_4]
  unfold x_X4_acceptsBehindNumber
  rw [if_neg hn, if_pos rfl]
theorem skip_c (h8 : tl.toNatClampNeg ≤ 80) (hx : ∀ k, k < 80 → xf k = zt k) {se : Int32} (sc sk sn : Int32) (fm ft : Nat → Int32) (hs : (se = 0 ∨ se = 1 ∨ se = 2) ∨ (se = 4 ∧ ¬ sn = 0)) : ∀ (d a b : Nat), b = a + d → b ≤ tl.toNatClampNeg → (∀ j, a ≤ j → j < b → zt j = 32) → crun xf tl a sc se sk sn fm ft = crun xf tl b sc se sk sn fm ft := by
  intro d
  induction d with
  | zero => intro a b h1 h2 h3; rw [show a = b by omega]
  | succ d ih =>
    intro a b h1 h2 h3
    have e : x_X4_accepts sc se sk sn fm ft (xf a) = (1, sc, se, sk, sn, fm, ft) := by
      rw [hx a (by omega), h3 a (by omega) (by omega)]
      rcases hs with hs | ⟨hs, hn⟩
      · exact acc_b hs sc sk sn fm ft
      · rw [hs]; exact acc_4b hn sc sk fm ft
    rw [crun_s (by omega) h8, e, if_neg (show ¬ (1 : Int32) = 0 by decide)]
    exact ih (a + 1) b (by omega) h2 fun j h4 h5 => h3 j (by omega) h5
/-- the reference's sign: to the first place that is no blank -/
theorem sign_x (h8 : tl.toNatClampNeg ≤ 80) : ∀ (m a : Nat), a ≤ tl.toNatClampNeg → tl.toNatClampNeg - a < m → ∃ b, a ≤ b ∧ b ≤ tl.toNatClampNeg ∧ (∀ j, a ≤ j → j < b → zt j = 32) ∧ (b < tl.toNatClampNeg → ¬ zt b = 32) ∧ spIter (fun _ => default) (m_sign_b0 tl zt) m (nI a) = (if b < tl.toNatClampNeg then zt b else -1, nI b) := by
  intro m
  induction m with
  | zero => intro a h1 h2; omega
  | succ m ih =>
    intro a h1 h2
    show ∃ b, a ≤ b ∧ b ≤ tl.toNatClampNeg ∧ (∀ j, a ≤ j → j < b → zt j = 32) ∧ (b < tl.toNatClampNeg → ¬ zt b = 32) ∧ m_sign_b0 tl zt (spIter (fun _ => default) (m_sign_b0 tl zt) m) (nI a) = (if b < tl.toNatClampNeg then zt b else -1, nI b)
    generalize spIter (fun _ => default) (m_sign_b0 tl zt) m = R at ih ⊢
    have eh : m_here tl (nI a) zt = if a < tl.toNatClampNeg then zt a else -1 := by
      unfold m_here
      rw [nI_clamp (by omega)]
      by_cases c : a < tl.toNatClampNeg
      · rw [if_neg (by omega), if_pos c]
      · rw [if_pos (by omega), if_neg c]
    unfold m_sign_b0
    simp only [spLet_x, eh]
    rw [nI_clamp (by omega)]
    by_cases c : a < tl.toNatClampNeg
    · rw [if_pos c]
      by_cases d : zt a = 32
      · rw [if_pos d]
        obtain ⟨b, b1, b2, b3, b4, b5⟩ := ih (a + 1) (by omega) (by omega)
        refine ⟨b, by omega, b2, fun j h3 h4 => ?_, b4, b5⟩
        by_cases e : j = a
        · rw [e]; exact d
        · exact b3 j (by omega) h4
      · rw [if_neg d]
        exact ⟨a, Nat.le_refl _, h1, fun j h3 h4 => by omega, fun _ => d, by rw [if_pos c]⟩
    · rw [if_neg c, if_neg (by decide)]
      exact ⟨a, Nat.le_refl _, h1, fun j h3 h4 => by omega, fun h => absurd h c, by rw [if_neg c]⟩
theorem sign_a (h8 : tl.toNatClampNeg ≤ 80) {a : Nat} (h : a ≤ tl.toNatClampNeg) : ∃ b, a ≤ b ∧ b ≤ tl.toNatClampNeg ∧ (∀ j, a ≤ j → j < b → zt j = 32) ∧ (b < tl.toNatClampNeg → ¬ zt b = 32) ∧ m_sign tl (nI a) zt = (if b < tl.toNatClampNeg then zt b else -1, nI b) := sign_x h8 81 a h (by omega)
theorem here_n (h8 : tl.toNatClampNeg ≤ 80) {a : Nat} (h : a ≤ tl.toNatClampNeg) : m_here tl (nI a) zt = if a < tl.toNatClampNeg then zt a else -1 := by
  unfold m_here
  rw [nI_clamp (by omega)]
  by_cases c : a < tl.toNatClampNeg
  · rw [if_neg (by omega), if_pos c]
  · rw [if_pos (by omega), if_neg c]
def dig (c : Int32) : Prop := okA c 48 57
theorem acc_d (sc sk sn nx : Int32) (fm ft : Nat → Int32) {se c : Int32} (h : dig c) : x_X4_acceptsDigit sc se sk sn fm ft c nx = (1, sc, nx, sk, sn * 10 + (c - 48), fm, ft) := by
  unfold x_X4_acceptsDigit
  rw [if_neg (fun k => by have := Int32.lt_iff_toInt_lt.mp k; have := h.1; omega), if_pos (Int32.le_iff_toInt_le.mpr h.2), spLet_x]
theorem acc_nd (sc sk sn nx : Int32) (fm ft : Nat → Int32) {se c : Int32} (h : ¬ dig c) : x_X4_acceptsDigit sc se sk sn fm ft c nx = (0, sc, se, sk, sn, fm, ft) := by
  unfold x_X4_acceptsDigit
  by_cases k : c < 48
  · rw [if_pos k]
  · rw [if_neg k, if_neg (fun k2 => h ⟨Int32.le_iff_toInt_le.mp (Int32.not_lt.mp k), Int32.le_iff_toInt_le.mp k2⟩)]
theorem acc_2 (sc sk sn : Int32) (fm ft : Nat → Int32) {c : Int32} (h : dig c) : x_X4_accepts sc 2 sk sn fm ft c = (1, sc, 3, sk, sn * 10 + (c - 48), fm, ft) := by
  have h32 : ¬ c = 32 := fun k => by rw [k] at h; exact absurd h.1 (by decide)
  unfold x_X4_accepts
  rw [if_neg (by decide), if_neg (by decide), if_pos rfl, if_neg h32, spLet_x, acc_d sc sk sn 3 fm ft h, if_neg (show ¬ (1 : Int32) = 0 by decide)]
theorem acc_2n (sc sk sn : Int32) (fm ft : Nat → Int32) {c : Int32} (h : ¬ dig c) (h32 : ¬ c = 32) : (x_X4_accepts sc 2 sk sn fm ft c).1 = 0 := by
  unfold x_X4_accepts
  rw [if_neg (by decide), if_neg (by decide), if_pos rfl, if_neg h32, spLet_x, acc_nd sc sk sn 3 fm ft h, if_pos rfl]
theorem acc_3 (sc sk sn : Int32) (fm ft : Nat → Int32) {c : Int32} (h : dig c) : x_X4_accepts sc 3 sk sn fm ft c = (1, sc, 4, sk, sn * 10 + (c - 48), fm, ft) := by
  unfold x_X4_accepts
  rw [if_neg (by decide), if_neg (by decide), if_neg (by decide), if_pos rfl, spLet_x, acc_d sc sk sn 4 fm ft h, if_neg (show ¬ (1 : Int32) = 0 by decide)]
/-- what may come behind a number, with one digit or two -/
theorem acc_34 {se : Int32} (hse : se = 3 ∨ se = 4) (sc sk sn : Int32) (fm ft : Nat → Int32) {c : Int32} (hd : se = 3 → ¬ dig c) : x_X4_accepts sc se sk sn fm ft c = x_X4_acceptsBehindNumber sc se sk sn fm ft c := by
  rcases hse with rfl | rfl
  · have hb : (x_X4_acceptsBehindNumber sc 3 sk sn fm ft c).1 = 0 ∨ (x_X4_acceptsBehindNumber sc 3 sk sn fm ft c).1 = 1 := by
      unfold x_X4_acceptsBehindNumber
      simp only [spLet_x]
      split
      · exact Or.inl rfl
      · split
        · exact Or.inr rfl
        · split
          · split
            · exact Or.inl rfl
            · exact Or.inr rfl
          · exact Or.inl rfl
    unfold x_X4_accepts
    rw [if_neg (by decide), if_neg (by decide), if_neg (by decide), if_pos rfl, spLet_x, acc_nd sc sk sn 4 fm ft (hd rfl), if_pos rfl]
    simp only [spLet_x]
    generalize x_X4_acceptsBehindNumber sc 3 sk sn fm ft c = U at hb
    rcases hb with k | k
    · rw [if_pos k, ← k]
    · rw [if_neg (by rw [k]; decide), ← k]
  · exact acc_4 sc sk sn fm ft c
theorem keep_ok {o : Nat} (ho : o < 26) (se sk sn : Int32) (fm ft : Nat → Int32) : x_X4_keepOrder (nI o) se sk sn fm ft = (1, nI (o + 1), 0, sk, sn, upd fm o sk, upd ft o sn) := by
  have e := nI_toInt (n := o) (by omega)
  have z26 : ((26 : Int32)).toInt = 26 := by decide
  unfold x_X4_keepOrder
  rw [if_neg (fun k => by have := (lt_i l_0).mp k; omega), if_pos ((lt_i z26).mpr (by omega)), nI_clamp (by omega)]
  simp only [spLet_x]
/-- behind a number: blanks, then a semicolon -/
theorem tail_c (h8 : tl.toNatClampNeg ≤ 80) (ht : tl = nI tl.toNatClampNeg) (hx : ∀ k, k < 80 → xf k = zt k) {se : Int32} (hse : se = 3 ∨ se = 4) {o i : Nat} (hi : i ≤ tl.toNatClampNeg) (sk num : Int32) (fm ft : Nat → Int32) (hd : se = 3 → i < tl.toNatClampNeg → ¬ dig (zt i)) :
    (num = 0 → (crun xf tl i (nI o) se sk num fm ft).1 = nI i) ∧
    (¬ num = 0 → ∀ e, i ≤ e → e ≤ tl.toNatClampNeg → (∀ j, i ≤ j → j < e → zt j = 32) → (e < tl.toNatClampNeg → ¬ zt e = 32) → 3 * o + 2 ≤ e →
      (e < tl.toNatClampNeg → zt e = 59 → crun xf tl i (nI o) se sk num fm ft = crun xf tl (e + 1) (nI (o + 1)) 0 sk num (upd fm o sk) (upd ft o num)) ∧
      (¬ (e < tl.toNatClampNeg ∧ zt e = 59) → (crun xf tl i (nI o) se sk num fm ft).1 = nI e)) := by
  have hs0 : ¬ se = 0 := by rcases hse with k | k <;> rw [k] <;> decide
  have step : ∀ (s : Int32), (s = 3 ∨ s = 4) → ∀ a, a < tl.toNatClampNeg → (s = 3 → ¬ dig (zt a)) → crun xf tl a (nI o) s sk num fm ft = if (x_X4_acceptsBehindNumber (nI o) s sk num fm ft (zt a)).1 = 0 then (nI a, (x_X4_acceptsBehindNumber (nI o) s sk num fm ft (zt a)).2) else crun xf tl (a + 1) (x_X4_acceptsBehindNumber (nI o) s sk num fm ft (zt a)).2.1 (x_X4_acceptsBehindNumber (nI o) s sk num fm ft (zt a)).2.2.1 (x_X4_acceptsBehindNumber (nI o) s sk num fm ft (zt a)).2.2.2.1 (x_X4_acceptsBehindNumber (nI o) s sk num fm ft (zt a)).2.2.2.2.1 (x_X4_acceptsBehindNumber (nI o) s sk num fm ft (zt a)).2.2.2.2.2.1 (x_X4_acceptsBehindNumber (nI o) s sk num fm ft (zt a)).2.2.2.2.2.2 := fun s hs a ha hda => by
    have e := acc_34 hs (nI o) sk num fm ft (c := zt a) hda
    rw [crun_s ha h8, hx a (by omega), e]
  refine ⟨fun hn => ?_, fun hn e h1 h2 h3 h4 h5 => ?_⟩
  · by_cases c : i < tl.toNatClampNeg
    · rw [step se hse i c fun k => hd k c]
      unfold x_X4_acceptsBehindNumber
      rw [if_pos hn, if_pos rfl]
    · rw [crun_e (by omega), if_neg hs0]
      show tl = nI i
      rw [show i = tl.toNatClampNeg by omega]
      exact ht
  · -- from a place in state 4, without blanks
    have fin : ∀ s : Int32, (s = 3 ∨ s = 4) → (s = 3 → e < tl.toNatClampNeg → ¬ dig (zt e)) → (e < tl.toNatClampNeg → zt e = 59 → crun xf tl e (nI o) s sk num fm ft = crun xf tl (e + 1) (nI (o + 1)) 0 sk num (upd fm o sk) (upd ft o num)) ∧ (¬ (e < tl.toNatClampNeg ∧ zt e = 59) → (crun xf tl e (nI o) s sk num fm ft).1 = nI e) := fun s hs hds => by
      have hs0 : ¬ s = 0 := by rcases hs with k | k <;> rw [k] <;> decide
      refine ⟨fun c d => ?_, fun c => ?_⟩
      · rw [step s hs e c fun k => hds k c, d]
        unfold x_X4_acceptsBehindNumber
        rw [if_neg hn, if_neg (show ¬ (59 : Int32) = 32 by decide), if_pos (show (59 : Int32) = 59 from rfl), spLet_x, keep_ok (by omega), if_neg (show ¬ (1 : Int32) = 0 by decide), if_neg (show ¬ (1 : Int32) = 0 by decide)]
      · by_cases f : e < tl.toNatClampNeg
        · have d : ¬ zt e = 59 := fun k => c ⟨f, k⟩
          rw [step s hs e f fun k => hds k f]
          unfold x_X4_acceptsBehindNumber
          rw [if_neg hn, if_neg (h4 f), if_neg d, if_pos rfl]
        · rw [crun_e (by omega), if_neg hs0]
          show tl = nI e
          rw [show e = tl.toNatClampNeg by omega]
          exact ht
    by_cases c : e = i
    · rw [← c] at hd ⊢
      exact fin se hse hd
    · have hb := h3 i (by omega) (by omega)
      have e1 : crun xf tl i (nI o) se sk num fm ft = crun xf tl (i + 1) (nI o) 4 sk num fm ft := by
        rw [step se hse i (by omega) (fun k => by rw [hb]; exact fun k2 => absurd k2.1 (by decide)), hb]
        unfold x_X4_acceptsBehindNumber
        rw [if_neg hn, if_pos (show (32 : Int32) = 32 from rfl), if_neg (show ¬ (1 : Int32) = 0 by decide)]
      rw [e1, skip_c h8 hx (se := 4) (nI o) sk num fm ft (Or.inr ⟨rfl, hn⟩) (e - (i + 1)) (i + 1) e (by omega) h2 fun j h6 h7 => h3 j (by omega) h7]
      exact fin 4 (Or.inr rfl) (fun k => absurd k (by decide))
end SC

/-! both sides: reading a script, order by order -/
section SC
variable {xf zt : Nat → Int32} {tl : Int32}
theorem num_e (v c : Int32) : v * 10 + (c - 48) = 10 * v + c - 48 := by
  rw [Int32.sub_eq_add_neg, Int32.sub_eq_add_neg, Int32.mul_comm v 10, Int32.add_assoc]
/-- a number's end on the reference's side -/
theorem j68_e (h8 : tl.toNatClampNeg ≤ 80) {a : Nat} (h : a ≤ tl.toNatClampNeg) (v : Int32) : (a < tl.toNatClampNeg ∧ dig (zt a) ∧ m_number_j68 tl zt v (nI a) = (0, nI a)) ∨ ((a < tl.toNatClampNeg → ¬ dig (zt a)) ∧ m_number_j68 tl zt v (nI a) = (v, nI a)) := by
  unfold m_number_j68
  simp only [spLet_x, here_n h8 h]
  by_cases c : a < tl.toNatClampNeg
  · rw [if_pos c]
    by_cases d : okA (zt a) 48 57
    · exact Or.inl ⟨c, d, by rw [in_1 d, if_neg (show ¬ (1 : Int32) = 0 by decide)]⟩
    · exact Or.inr ⟨fun _ => d, by rw [in_0 d, if_pos rfl]⟩
  · rw [if_neg c]
    exact Or.inr ⟨fun k => absurd k c, by rw [in_0 (fun k => absurd k.1 (by decide)), if_pos rfl]⟩
abbrev scR : Type := Int32 × Int32 × Int32 × Int32 × Int32 × (Nat → Int32) × (Nat → Int32)
/-- one order read by both, or a fault at one place -/
def ordR (M : roT) (C : scR) (tl : Int32) (xf zm zk fm ft : Nat → Int32) (o p : Nat) : Prop :=
  (M.1 = 0 ∧ ∃ x, x ≤ 80 ∧ M.2.1 = nI x ∧ C.1 = nI x) ∨ ∃ p' mask num, p ≤ p' ∧ p' ≤ tl.toNatClampNeg ∧ byt mask ∧ M = (1, nI p', nI (o + 1), upd zm o mask, upd zk o num) ∧ C = crun xf tl p' (nI (o + 1)) 0 mask num (upd fm o mask) (upd ft o num)
/-- the rest of an order, behind its number -/
def restM (tl : Int32) (zt zm zk : Nat → Int32) (o : Nat) (v2 num : Int32) (a : Nat) : roT := if num = 0 then (0, nI a, nI o, zm, zk) else spLet (m_sign tl (nI a) zt) (fun u => if u.1 = 59 then (if v2 = -1 then m_readsOrder_j131 (nI o) zm zk num u 0 else m_readsOrder_j131 (nI o) zm zk num u ((1 : Int32) <<< (v2 &&& 31))) else (0, u.2, nI o, zm, zk))
theorem rest_c (h8 : tl.toNatClampNeg ≤ 80) (ht : tl = nI tl.toNatClampNeg) (hx : ∀ k, k < 80 → xf k = zt k) {se : Int32} (hse : se = 3 ∨ se = 4) {o a : Nat} (ha : a ≤ tl.toNatClampNeg) (h3 : 3 * o + 2 ≤ a) {mask v2 : Int32} (hm : mask = if v2 = -1 then 0 else (1 : Int32) <<< (v2 &&& 31)) (hb : byt mask) (num : Int32) (zm zk fm ft : Nat → Int32) (hd : se = 3 → a < tl.toNatClampNeg → ¬ dig (zt a)) :
    ordR (restM tl zt zm zk o v2 num a) (crun xf tl a (nI o) se mask num fm ft) tl xf zm zk fm ft o (a + 1) := by
  obtain ⟨t1, t2⟩ := tail_c h8 ht hx hse (o := o) ha mask num fm ft hd
  unfold restM
  by_cases c : num = 0
  · rw [if_pos c]
    exact Or.inl ⟨rfl, a, by omega, rfl, t1 c⟩
  · rw [if_neg c]
    obtain ⟨e, e1, e2, e3, e4, e5⟩ := sign_a (zt := zt) h8 ha
    obtain ⟨f1, f2⟩ := t2 c e e1 e2 e3 e4 (by omega)
    rw [spLet_x, e5]
    by_cases d : e < tl.toNatClampNeg ∧ zt e = 59
    · rw [if_pos (show (if e < tl.toNatClampNeg then zt e else -1, nI e).1 = 59 by rw [if_pos d.1]; exact d.2)]
      refine Or.inr ⟨e + 1, mask, num, by omega, by omega, hb, ?_, f1 d.1 d.2⟩
      have ej : ∀ x : Int32, m_readsOrder_j131 (nI o) zm zk num (if e < tl.toNatClampNeg then zt e else -1, nI e) x = (1, nI (e + 1), nI (o + 1), upd zm o x, upd zk o num) := fun x => by
        unfold m_readsOrder_j131
        simp only [spLet_x]
        rw [nI_clamp (show o < 2147483648 by omega), nI_clamp (show e < 2147483648 by omega)]
      rw [ej, ej, hm]
      split <;> rfl
    · rw [if_neg (show ¬ (if e < tl.toNatClampNeg then zt e else -1, nI e).1 = 59 by
        by_cases k : e < tl.toNatClampNeg
        · rw [if_pos k]; exact fun q => d ⟨k, q⟩
        · rw [if_neg k]; exact fun q => absurd (show (-1 : Int32) = 59 from q) (by decide))]
      exact Or.inl ⟨rfl, e, by omega, rfl, f2 d⟩
theorem j81_rest (o : Nat) (zm zk : Nat → Int32) (v2 num : Int32) (p a : Nat) (hn : m_number tl (nI p) zt = (num, nI a)) : m_readsOrder_j81 tl (nI o) zt zm zk v2 (nI p) = restM tl zt zm zk o v2 num a := by
  unfold m_readsOrder_j81 restM
  rw [spLet_x, hn, spLet_x]
theorem num_c (h8 : tl.toNatClampNeg ≤ 80) (ht : tl = nI tl.toNatClampNeg) (hx : ∀ k, k < 80 → xf k = zt k) {o p : Nat} (hp : p ≤ tl.toNatClampNeg) (h3 : 3 * o + 1 ≤ p) {mask v2 : Int32} (hm : mask = if v2 = -1 then 0 else (1 : Int32) <<< (v2 &&& 31)) (hb : byt mask) (zm zk fm ft : Nat → Int32) :
    ordR (m_readsOrder_j81 tl (nI o) zt zm zk v2 (nI p)) (crun xf tl p (nI o) 2 mask 0 fm ft) tl xf zm zk fm ft o (p + 2) := by
  obtain ⟨q, q1, q2, q3, q4, q5⟩ := sign_a (zt := zt) h8 hp
  have es := skip_c h8 hx (se := 2) (nI o) mask 0 fm ft (Or.inl (Or.inr (Or.inr rfl))) (q - p) p q (by omega) q2 q3
  have z1 : ¬ (1 : Int32) = 0 := by decide
  have mono : ∀ {M : roT} {C : scR} {p1 : Nat}, p + 2 ≤ p1 → ordR M C tl xf zm zk fm ft o p1 → ordR M C tl xf zm zk fm ft o (p + 2) := fun hp1 h => h.imp id fun ⟨p', a, b, c, d⟩ => ⟨p', a, b, by omega, d⟩
  rw [es]
  by_cases c : q < tl.toNatClampNeg
  · by_cases d : dig (zt q)
    · -- a first digit
      have ec : crun xf tl q (nI o) 2 mask 0 fm ft = crun xf tl (q + 1) (nI o) 3 mask (zt q - 48) fm ft := by
        rw [crun_s c h8, hx q (by omega), acc_2 (nI o) mask 0 fm ft d, if_neg z1]
        rw [show (0 : Int32) * 10 + (zt q - 48) = zt q - 48 by rw [Int32.zero_mul, Int32.zero_add]]
      rw [ec]
      have e0 : m_number tl (nI p) zt = m_number_b20 tl zt (m_number_b20 tl zt (m_number_b20 tl zt (fun _ _ _ => default))) 0 0 (nI q) := by
        unfold m_number
        simp only [spLet_x, q5]
        rw [if_pos c, in_1 d, if_neg z1]
        rfl
      have e1 : ∀ R : Int32 → Nat → Int32 → Int32 × Int32, m_number_b20 tl zt R 0 0 (nI q) = R (zt q - 48) 1 (nI (q + 1)) := fun R => by
        unfold m_number_b20
        simp only [spLet_x, here_n h8 (show q ≤ tl.toNatClampNeg by omega)]
        rw [if_neg (show ¬ 2 ≤ 0 by decide), if_pos c, in_1 d, if_neg z1, nI_clamp (by omega), Int32.mul_zero, Int32.zero_add]
      rw [e1] at e0
      by_cases f : q + 1 < tl.toNatClampNeg ∧ dig (zt (q + 1))
      · -- a second digit
        have ec2 : crun xf tl (q + 1) (nI o) 3 mask (zt q - 48) fm ft = crun xf tl (q + 1 + 1) (nI o) 4 mask (10 * (zt q - 48) + zt (q + 1) - 48) fm ft := by
          rw [crun_s f.1 h8, hx (q + 1) (by omega), acc_3 (nI o) mask _ fm ft f.2, if_neg z1, num_e]
        have e2 : ∀ R : Int32 → Nat → Int32 → Int32 × Int32, m_number_b20 tl zt R (zt q - 48) 1 (nI (q + 1)) = R (10 * (zt q - 48) + zt (q + 1) - 48) 2 (nI (q + 1 + 1)) := fun R => by
          unfold m_number_b20
          simp only [spLet_x, here_n h8 (show q + 1 ≤ tl.toNatClampNeg by omega)]
          rw [if_neg (show ¬ 2 ≤ 1 by decide), if_pos f.1, in_1 f.2, if_neg z1, nI_clamp (by omega)]
        have e3 : ∀ (R : Int32 → Nat → Int32 → Int32 × Int32) (v : Int32) (x : Int32), m_number_b20 tl zt R v 2 x = m_number_j68 tl zt v x := fun R v x => by
          unfold m_number_b20
          rw [if_pos (show 2 ≤ 2 by decide)]
        rw [e2, e3] at e0
        rw [ec2]
        rcases j68_e h8 (zt := zt) (a := q + 1 + 1) (by omega) (10 * (zt q - 48) + zt (q + 1) - 48) with ⟨g1, g2, g3⟩ | ⟨g1, g2⟩
        · -- a third one
          rw [g3] at e0
          rw [j81_rest o zm zk v2 0 p (q + 1 + 1) e0]
          obtain ⟨t1, t2⟩ := tail_c h8 ht hx (se := 4) (Or.inr rfl) (o := o) (i := q + 1 + 1) (by omega) mask (10 * (zt q - 48) + zt (q + 1) - 48) fm ft (fun k => absurd k (by decide))
          refine Or.inl ⟨rfl, q + 1 + 1, by omega, rfl, ?_⟩
          by_cases k : 10 * (zt q - 48) + zt (q + 1) - 48 = 0
          · exact t1 k
          · exact (t2 k (q + 1 + 1) (by omega) (by omega) (fun j j1 j2 => by omega) (fun _ k2 => by rw [k2] at g2; exact absurd g2.1 (by decide)) (by omega)).2 (fun k2 => by have := k2.2; rw [this] at g2; exact absurd g2.2 (by decide))
        · rw [g2] at e0
          rw [j81_rest o zm zk v2 _ p (q + 1 + 1) e0]
          exact mono (by omega) (rest_c h8 ht hx (Or.inr rfl) (by omega) (by omega) hm hb _ zm zk fm ft (fun k => absurd k (by decide)))
      · -- one digit alone
        have hnd : q + 1 < tl.toNatClampNeg → ¬ dig (zt (q + 1)) := fun k k2 => f ⟨k, k2⟩
        have e2 : ∀ R : Int32 → Nat → Int32 → Int32 × Int32, m_number_b20 tl zt R (zt q - 48) 1 (nI (q + 1)) = m_number_j68 tl zt (zt q - 48) (nI (q + 1)) := fun R => by
          unfold m_number_b20
          simp only [spLet_x, here_n h8 (show q + 1 ≤ tl.toNatClampNeg by omega)]
          rw [if_neg (show ¬ 2 ≤ 1 by decide)]
          by_cases k : q + 1 < tl.toNatClampNeg
          · rw [if_pos k, in_0 (hnd k), if_pos rfl]
          · rw [if_neg k, in_0 (fun k => absurd k.1 (by decide)), if_pos rfl]
        rw [e2] at e0
        rcases j68_e h8 (zt := zt) (a := q + 1) (by omega) (zt q - 48) with ⟨g1, g2, g3⟩ | ⟨g1, g2⟩
        · exact absurd g2 (hnd g1)
        · rw [g2] at e0
          rw [j81_rest o zm zk v2 _ p (q + 1) e0]
          exact mono (by omega) (rest_c h8 ht hx (Or.inl rfl) (by omega) (by omega) hm hb _ zm zk fm ft (fun _ => hnd))
    · -- no digit
      have e0 : m_number tl (nI p) zt = (0, nI q) := by
        unfold m_number
        simp only [spLet_x, q5]
        rw [if_pos c, in_0 d, if_pos rfl]
      rw [j81_rest o zm zk v2 _ p q e0]
      refine Or.inl ⟨rfl, q, by omega, rfl, ?_⟩
      rw [crun_s c h8, hx q (by omega), if_pos (acc_2n (nI o) mask 0 fm ft d (q4 c))]
  · have e0 : m_number tl (nI p) zt = (0, nI q) := by
      unfold m_number
      simp only [spLet_x, q5]
      rw [if_neg c, in_0 (fun k => absurd k.1 (by decide)), if_pos rfl]
    rw [j81_rest o zm zk v2 _ p q e0]
    refine Or.inl ⟨rfl, q, by omega, rfl, ?_⟩
    rw [crun_e (by omega), if_neg (show ¬ (2 : Int32) = 0 by decide)]
    show tl = nI q
    rw [show q = tl.toNatClampNeg by omega]
    exact ht
/-- the sign of a motion -/
theorem acc_1 (sc sk sn : Int32) (fm ft : Nat → Int32) {c : Int32} (h32 : ¬ c = 32) : x_X4_accepts sc 1 sk sn fm ft c = if c = 45 then ((1, sc, 2, sk <<< 1, sn, fm, ft) : scR) else if c = 43 then (1, sc, 2, sk, sn, fm, ft) else (0, sc, 1, sk, sn, fm, ft) := by
  have z1 : ¬ (1 : Int32) = 0 := by decide
  have eS : x_X4_acceptsSign sc 1 sk sn fm ft c = if c = 45 then ((1, sc, 2, sk <<< 1, sn, fm, ft) : scR) else if c = 43 then (1, sc, 2, sk, sn, fm, ft) else (0, sc, 1, sk, sn, fm, ft) := by
    unfold x_X4_acceptsSign x_X4_acceptsSign_j14 x_X4_acceptsSign_j30
    by_cases a : c = 45
    · have b : ¬ c = 43 := by rw [a]; decide
      rw [if_neg b, if_pos a, if_pos a, if_pos a, spLet_x]
      rfl
    · by_cases b : c = 43
      · rw [if_pos b, if_neg a, if_neg a, if_pos b]
      · rw [if_neg b, if_neg a, if_neg a, if_neg b]
  unfold x_X4_accepts
  rw [if_neg z1, if_pos rfl, if_neg h32, spLet_x, eS]
  by_cases a : c = 45
  · rw [if_pos a, if_neg z1]
  · by_cases b : c = 43
    · rw [if_neg a, if_pos b, if_neg z1]
    · rw [if_neg a, if_neg b, if_pos rfl]
theorem acc_0 (sc sk sn : Int32) (fm ft : Nat → Int32) {c : Int32} (h32 : ¬ c = 32) : x_X4_accepts sc 0 sk sn fm ft c = if c = 119 then ((1, sc, 2, 0, 0, fm, ft) : scR) else if m_firstMotion c = -1 then (0, sc, 0, sk, sn, fm, ft) else (1, sc, 1, (1 : Int32) <<< (m_firstMotion c &&& 31), 0, fm, ft) := by
  have z1 : ¬ (1 : Int32) = 0 := by decide
  have hf : m_firstMotion c = if c = 104 then 0 else if c = 98 then 2 else if c = 101 then 4 else if c = 115 then 6 else -1 := rfl
  have eL : x_X4_acceptsLetter sc 0 sk sn fm ft c = if c = 119 then ((1, sc, 2, 0, 0, fm, ft) : scR) else if m_firstMotion c = -1 then (0, sc, 0, sk, sn, fm, ft) else (1, sc, 1, (1 : Int32) <<< (m_firstMotion c &&& 31), 0, fm, ft) := by
    rw [hf]
    unfold x_X4_acceptsLetter x_X4_acceptsLetter_j96 x_X4_acceptsLetter_j113
    by_cases a1 : c = 98
    · subst a1; rfl
    · by_cases a2 : c = 101
      · subst a2; rfl
      · by_cases a3 : c = 104
        · subst a3; rfl
        · by_cases a4 : c = 115
          · subst a4; rfl
          · by_cases a5 : c = 119
            · subst a5; rfl
            · simp only [if_neg a1, if_neg a2, if_neg a3, if_neg a4, if_neg a5, if_true]
  unfold x_X4_accepts
  rw [if_pos rfl, if_neg h32, spLet_x, eL]
  by_cases a : c = 119
  · rw [if_pos a, if_neg z1]
  · by_cases b : m_firstMotion c = -1
    · rw [if_neg a, if_pos b, if_pos rfl]
    · rw [if_neg a, if_neg b, if_neg z1]
theorem fm_v {c : Int32} (h : ¬ m_firstMotion c = -1) : m_firstMotion c = 0 ∨ m_firstMotion c = 2 ∨ m_firstMotion c = 4 ∨ m_firstMotion c = 6 := by
  unfold m_firstMotion at h ⊢
  split
  · exact Or.inl rfl
  · rename_i a
    rw [if_neg a] at h
    split
    · exact Or.inr (Or.inl rfl)
    · rename_i b
      rw [if_neg b] at h
      split
      · exact Or.inr (Or.inr (Or.inl rfl))
      · rename_i d
        rw [if_neg d] at h
        split
        · exact Or.inr (Or.inr (Or.inr rfl))
        · rename_i f
          rw [if_neg f] at h
          exact absurd rfl h
theorem msk {r : Int32} (h : r = 0 ∨ r = 2 ∨ r = 4 ∨ r = 6) : (¬ r + 0 = -1 ∧ ¬ r + 1 = -1) ∧ ((1 : Int32) <<< (r &&& 31)) <<< 1 = (1 : Int32) <<< ((r + 1) &&& 31) ∧ byt ((1 : Int32) <<< (r &&& 31)) ∧ byt ((1 : Int32) <<< ((r + 1) &&& 31)) := by
  unfold byt
  rcases h with rfl | rfl | rfl | rfl <;> decide
theorem order_c (h8 : tl.toNatClampNeg ≤ 80) (ht : tl = nI tl.toNatClampNeg) (hx : ∀ k, k < 80 → xf k = zt k) {o b : Nat} (hb : b < tl.toNatClampNeg) (h32 : ¬ zt b = 32) (h3 : 3 * o ≤ b) (sk sn : Int32) (zm zk fm ft : Nat → Int32) :
    ordR (m_readsOrder tl (nI b) (nI o) zt zm zk) (crun xf tl b (nI o) 0 sk sn fm ft) tl xf zm zk fm ft o (b + 3) := by
  obtain ⟨b', b1, b2, b3, b4, b5⟩ := sign_a (zt := zt) h8 (show b ≤ tl.toNatClampNeg by omega)
  have eb : b' = b := by
    by_cases c : b' = b
    · exact c
    · exact absurd (b3 b (by omega) (by omega)) h32
  rw [eb] at b5
  rw [if_pos hb] at b5
  have z1 : ¬ (1 : Int32) = 0 := by decide
  have hc := crun_s hb h8 (xf := xf) (nI o) 0 sk sn fm ft
  rw [hx b (by omega), acc_0 (nI o) sk sn fm ft h32] at hc
  unfold m_readsOrder
  simp only [spLet_x, b5]
  by_cases w : zt b = 119
  · have ef : m_firstMotion (zt b) = -1 := by rw [w]; rfl
    rw [if_pos ef, if_pos w]
    rw [if_pos w, if_neg z1] at hc
    rw [hc]
    unfold m_readsOrder_j23
    rw [if_pos ef, nI_clamp (by omega), ef]
    exact (num_c h8 ht hx (o := o) (p := b + 1) (by omega) (by omega) (mask := 0) (v2 := -1) rfl (by unfold byt; decide) zm zk fm ft).imp id fun ⟨p', a, b, c, d⟩ => ⟨p', a, b, by omega, d⟩
  · rw [if_neg w] at hc
    by_cases f : m_firstMotion (zt b) = -1
    · rw [if_pos f, if_neg w]
      rw [if_pos f, if_pos rfl] at hc
      rw [hc]
      exact Or.inl ⟨rfl, b, by omega, rfl, rfl⟩
    · rw [if_neg f]
      rw [if_neg f, if_neg z1] at hc
      rw [hc]
      obtain ⟨⟨m1, m2⟩, m3, m4, m5⟩ := msk (fm_v f)
      unfold m_readsOrder_j23
      rw [if_neg f, nI_clamp (by omega)]
      obtain ⟨d, d1, d2, d3, d4, d5⟩ := sign_a (zt := zt) h8 (show b + 1 ≤ tl.toNatClampNeg by omega)
      have es := skip_c h8 hx (se := 1) (nI o) ((1 : Int32) <<< (m_firstMotion (zt b) &&& 31)) 0 fm ft (Or.inl (Or.inr (Or.inl rfl))) (d - (b + 1)) (b + 1) d (by omega) d2 d3
      rw [es]
      simp only [spLet_x, d5]
      generalize m_firstMotion (zt b) = r at *
      by_cases c : d < tl.toNatClampNeg
      · rw [if_pos c]
        have hc1 := crun_s c h8 (xf := xf) (nI o) 1 ((1 : Int32) <<< (r &&& 31)) 0 fm ft
        rw [hx d (by omega), acc_1 (nI o) _ 0 fm ft (d4 c)] at hc1
        by_cases e1 : zt d = 45
        · rw [if_pos e1, if_neg z1] at hc1
          rw [hc1, if_neg (show ¬ zt d = 43 by rw [e1]; decide), if_pos e1]
          unfold m_readsOrder_j57 m_readsOrder_j69
          rw [if_pos e1, spLet_x, nI_clamp (by omega)]
          show ordR _ (crun xf tl (d + 1) (nI o) 2 (((1 : Int32) <<< (r &&& 31)) <<< 1) 0 fm ft) tl xf zm zk fm ft o (b + 3)
          rw [m3]
          exact (num_c h8 ht hx (o := o) (p := d + 1) (by omega) (by omega) (mask := (1 : Int32) <<< ((r + 1) &&& 31)) (v2 := r + 1) (by rw [if_neg m2]) m5 zm zk fm ft).imp id fun ⟨p', a, b, c, d⟩ => ⟨p', a, b, by omega, d⟩
        · by_cases e2 : zt d = 43
          · rw [if_neg e1, if_pos e2, if_neg z1] at hc1
            rw [hc1, if_pos e2]
            unfold m_readsOrder_j57 m_readsOrder_j69
            rw [if_neg e1, spLet_x, nI_clamp (by omega)]
            exact (num_c h8 ht hx (o := o) (p := d + 1) (by omega) (by omega) (mask := (1 : Int32) <<< (r &&& 31)) (v2 := r + 0) (by rw [if_neg m1, Int32.add_zero]) m4 zm zk fm ft).imp id fun ⟨p', a, b, c, d⟩ => ⟨p', a, b, by omega, d⟩
          · rw [if_neg e1, if_neg e2, if_pos rfl] at hc1
            rw [hc1, if_neg e2, if_neg e1]
            exact Or.inl ⟨rfl, d, by omega, rfl, rfl⟩
      · rw [if_neg c, if_neg (by decide), if_neg (by decide)]
        refine Or.inl ⟨rfl, d, by omega, rfl, ?_⟩
        rw [crun_e (by omega), if_neg z1]
        show tl = nI d
        rw [show d = tl.toNatClampNeg by omega]
        exact ht
end SC

/-! both sides: whole scripts -/
section SC
variable {xf zt : Nat → Int32} {tl : Int32}
/-- both have read the same orders, or stand at the same fault -/
def allR (M : roT) (C : scR) : Prop := (M.1 = 0 ∧ ∃ x, x ≤ 80 ∧ M.2.1 = nI x ∧ C.1 = nI x) ∨ (M.1 = 1 ∧ C.1 = -1 ∧ ∃ o, o ≤ 26 ∧ M.2.2.1 = nI o ∧ C.2.1 = nI o ∧ ∀ k, k < o → C.2.2.2.2.2.1 k = M.2.2.2.1 k ∧ C.2.2.2.2.2.2 k = M.2.2.2.2 k ∧ byt (M.2.2.2.1 k))
theorem all_c (h8 : tl.toNatClampNeg ≤ 80) (ht : tl = nI tl.toNatClampNeg) (hx : ∀ k, k < 80 → xf k = zt k) (hc : ∀ k, k < 80 → 0 ≤ (zt k).toInt) : ∀ (m a o : Nat) (sk sn : Int32) (zm zk fm ft : Nat → Int32), a ≤ tl.toNatClampNeg → tl.toNatClampNeg + 2 ≤ m + a → 3 * o ≤ a → (∀ k, k < o → fm k = zm k ∧ ft k = zk k ∧ byt (zm k)) →
    allR (spIter (fun _ _ _ _ _ => default) (m_readsAll_b12 tl zt) m 1 (nI a) (nI o) zm zk) (crun xf tl a (nI o) 0 sk sn fm ft) := by
  intro m
  induction m with
  | zero => intro a o sk sn zm zk fm ft h1 h2; omega
  | succ m ih =>
    intro a o sk sn zm zk fm ft h1 h2 h3 hk
    show allR (m_readsAll_b12 tl zt (spIter (fun _ _ _ _ _ => default) (m_readsAll_b12 tl zt) m) 1 (nI a) (nI o) zm zk) (crun xf tl a (nI o) 0 sk sn fm ft)
    have z1 : ¬ (1 : Int32) = 0 := by decide
    have em : ∀ (x o' : Int32) (zm' zk' : Nat → Int32), 0 < m → spIter (fun _ _ _ _ _ => default) (m_readsAll_b12 tl zt) m 0 x o' zm' zk' = (0, x, o', zm', zk') := fun x o' zm' zk' hm => by
      obtain ⟨m', rfl⟩ : ∃ q, m = q + 1 := ⟨m - 1, by omega⟩
      show m_readsAll_b12 tl zt (spIter (fun _ _ _ _ _ => default) (m_readsAll_b12 tl zt) m') 0 x o' zm' zk' = _
      generalize spIter (fun _ _ _ _ _ => default) (m_readsAll_b12 tl zt) m' = R
      unfold m_readsAll_b12
      rw [if_pos rfl]
    generalize spIter (fun _ _ _ _ _ => default) (m_readsAll_b12 tl zt) m = R at ih em ⊢
    obtain ⟨b, b1, b2, b3, b4, b5⟩ := sign_a (zt := zt) h8 h1
    have es := skip_c h8 hx (se := 0) (nI o) sk sn fm ft (Or.inl (Or.inl rfl)) (b - a) a b (by omega) b2 b3
    rw [es]
    unfold m_readsAll_b12
    rw [if_neg z1]
    simp only [spLet_x, b5]
    by_cases c : b < tl.toNatClampNeg
    · have hne : ¬ zt b = -1 := fun k => by
        have := hc b (by omega)
        rw [k] at this
        exact absurd this (by decide)
      rw [if_pos c, if_neg hne]
      rcases order_c h8 ht hx c (b4 c) (show 3 * o ≤ b by omega) sk sn zm zk fm ft with ⟨r1, x, r2, r3, r4⟩ | ⟨p', mask, num, r1, r2, r3, r4, r5⟩
      · rw [r1, em _ _ _ _ (by omega)]
        exact Or.inl ⟨rfl, x, r2, r3, r4⟩
      · rw [r4, r5]
        refine ih p' (o + 1) mask num (upd zm o mask) (upd zk o num) (upd fm o mask) (upd ft o num) r2 (by omega) (by omega) fun k hk2 => ?_
        by_cases e : k = o
        · rw [e, upd_s, upd_s, upd_s, upd_s]
          exact ⟨rfl, rfl, r3⟩
        · rw [upd_o _ _ _ e, upd_o _ _ _ e, upd_o _ _ _ e, upd_o _ _ _ e]
          exact hk k (by omega)
    · rw [if_neg c, if_pos rfl, crun_e (by omega), if_pos rfl]
      exact Or.inr ⟨rfl, rfl, o, by omega, rfl, rfl, hk⟩
theorem q_reads (h8 : tl.toNatClampNeg ≤ 80) (ht : tl = nI tl.toNatClampNeg) (hx : ∀ k, k < 80 → xf k = zt k) (hc : ∀ k, k < 80 → 0 ≤ (zt k).toInt) (sk sn : Int32) (zm zk fm ft : Nat → Int32) : allR (m_readsAll tl zt zm zk) (x_X4_read sk sn fm ft xf tl) :=
  all_c h8 ht hx hc 82 0 0 sk sn zm zk fm ft (by omega) (by omega) (by omega) fun k hk => by omega
/-- a faulty script: nothing changes -/
theorem q_script_F (h8 : tl.toNatClampNeg ≤ 80) (ht : tl = nI tl.toNatClampNeg) (hx : ∀ k, k < 80 → xf k = zt k) (hc : ∀ k, k < 80 → 0 ≤ (zt k).toInt) {sk sn : Int32} {fm ft : Nat → Int32} (h : ¬ (x_X4_read sk sn fm ft xf tl).1 = -1) (zm zk : Nat → Int32) (svm mm mr : Int32) (z zv zp : Nat → Int32) :
    ∃ A at' or' zm' zk' c e k n fm' ft', m_runScript svm tl mm mr z zv zt zp zm zk = (A, svm, 0, mm, mr, at', or', z, zv, zp, zm', zk') ∧ x_X8_runScriptF tl sk sn fm ft xf = (A, c, e, k, n, fm', ft') := by
  rcases q_reads h8 ht hx hc sk sn zm zk fm ft with ⟨a1, x, a2, a3, a4⟩ | ⟨a1, a2, -⟩
  · have em : m_runScript svm tl mm mr z zv zt zp zm zk = (-10 - nI x, svm, 0, mm, mr, (m_readsAll tl zt zm zk).2.1, (m_readsAll tl zt zm zk).2.2.1, z, zv, zp, (m_readsAll tl zt zm zk).2.2.2.1, (m_readsAll tl zt zm zk).2.2.2.2) := by
      unfold m_runScript
      rw [spLet_x, if_pos a1, a3]
    have ex : x_X8_runScriptF tl sk sn fm ft xf = (-10 - nI x, (x_X4_read sk sn fm ft xf tl).2) := by
      unfold x_X8_runScriptF
      rw [spLet_x, spLet_x, a4]
    exact ⟨_, _, _, _, _, _, _, _, _, _, _, em, ex⟩
  · exact absurd a2 h
theorem mot_e (fm : Nat → Int32) {k : Nat} (hk : k < 26) : x_X4_motionsOf fm (nI k) = fm k := by
  have e := nI_toInt (n := k) (by omega)
  have z26 : ((26 : Int32)).toInt = 26 := by decide
  unfold x_X4_motionsOf
  rw [if_neg (fun q => by have := (lt_i l_0).mp q; omega), if_neg (fun q => by have := (i_le z26).mp q; omega), nI_clamp (by omega)]
theorem tik_e (ft : Nat → Int32) {k : Nat} (hk : k < 26) : x_X4_ticksOf ft (nI k) = ft k := by
  have e := nI_toInt (n := k) (by omega)
  have z26 : ((26 : Int32)).toInt = 26 := by decide
  unfold x_X4_ticksOf
  rw [if_neg (fun q => by have := (lt_i l_0).mp q; omega), if_neg (fun q => by have := (i_le z26).mp q; omega), nI_clamp (by omega)]
theorem le_nI {r : Int32} {t k : Nat} (hr : r = nI t) (ht : t < 1000) (hk : k < 1000) : (r ≤ nI k) ↔ t ≤ k := by
  have e1 := nI_toInt (n := t) (by omega)
  have e2 := nI_toInt (n := k) (by omega)
  rw [hr, Int32.le_iff_toInt_le]
  omega
/-- one order's ticks -/
theorem ord_loop {ma ta cw zc mos : Int32} {cv ce cs zf : Nat → Int32} (hm : byt mos) (u : roT) {k2 t : Nat} (hmo : u.2.2.2.1 k2 = mos) (htk : u.2.2.2.2 k2 = nI t) (ht : t ≤ 99) (v2 : Int32) (R1 R2) : ∀ (n1 n2 k : Nat) (v mm mr : Int32) (z zp : Nat → Int32) (go gc yg : Int32) (gt gk gv ys yl : Nat → Int32) (b : Nat), k ≤ t → t < k + n1 → t < k + n2 → relZ cw zc go gc yg cv ce cs zf gt gk gv ys yl z → z 6 = ma → z 5 = ta → b + t < 1900000000 + k → bnd b z →
    ∃ mm' mr' w zp' go' gc' yg' gt' gk' gv' ys' yl', spIter (fun _ _ _ _ _ _ _ _ _ _ _ _ _ _ _ _ _ _ => default) (x_X8_runScriptG_b68 ma ta cw cv ce cs zc zf v2 k2 R1 mos (nI t)) n1 k (z 7) (z 8) (z 9) (z 11) (z 0) (z 1) (z 2) (z 3) (z 4) go gc gt gk gv yg ys yl = R1 (v2 + nI t) (k2 + 1) (w 7) (w 8) (w 9) (w 11) (w 0) (w 1) (w 2) (w 3) (w 4) go' gc' gt' gk' gv' yg' ys' yl' ∧
      spIter (fun _ _ _ _ _ _ => default) (m_runScript_b38 u k2 R2) n2 v k mm mr z zp = R2 (v + nI (t - k)) (k2 + 1) mm' mr' w zp' ∧ relZ cw zc go' gc' yg' cv ce cs zf gt' gk' gv' ys' yl' w ∧ w 6 = ma ∧ w 5 = ta ∧ bnd (b + (t - k)) w := by
  intro n1
  induction n1 with
  | zero => intro n2 k v mm mr z zp go gc yg gt gk gv ys yl b h1 h2; omega
  | succ n1 ih =>
    intro n2 k v mm mr z zp go gc yg gt gk gv ys yl b h1 h2 h2' hr h6 h5 hb hB
    obtain ⟨m2, rfl⟩ : ∃ m, n2 = m + 1 := ⟨n2 - 1, by omega⟩
    show ∃ mm' mr' w zp' go' gc' yg' gt' gk' gv' ys' yl', x_X8_runScriptG_b68 ma ta cw cv ce cs zc zf v2 k2 R1 mos (nI t) (spIter (fun _ _ _ _ _ _ _ _ _ _ _ _ _ _ _ _ _ _ => default) (x_X8_runScriptG_b68 ma ta cw cv ce cs zc zf v2 k2 R1 mos (nI t)) n1) k (z 7) (z 8) (z 9) (z 11) (z 0) (z 1) (z 2) (z 3) (z 4) go gc gt gk gv yg ys yl = R1 (v2 + nI t) (k2 + 1) (w 7) (w 8) (w 9) (w 11) (w 0) (w 1) (w 2) (w 3) (w 4) go' gc' gt' gk' gv' yg' ys' yl' ∧
      m_runScript_b38 u k2 R2 (spIter (fun _ _ _ _ _ _ => default) (m_runScript_b38 u k2 R2) m2) v k mm mr z zp = R2 (v + nI (t - k)) (k2 + 1) mm' mr' w zp' ∧ relZ cw zc go' gc' yg' cv ce cs zf gt' gk' gv' ys' yl' w ∧ w 6 = ma ∧ w 5 = ta ∧ bnd (b + (t - k)) w
    have ih2 := ih m2 (k + 1)
    clear ih
    generalize spIter (fun _ _ _ _ _ _ _ _ _ _ _ _ _ _ _ _ _ _ => default) (x_X8_runScriptG_b68 ma ta cw cv ce cs zc zf v2 k2 R1 mos (nI t)) n1 = Q1 at ih2 ⊢
    generalize spIter (fun _ _ _ _ _ _ => default) (m_runScript_b38 u k2 R2) m2 = Q2 at ih2 ⊢
    unfold x_X8_runScriptG_b68 m_runScript_b38
    rw [htk, nI_clamp (show t < 2147483648 by omega), hmo]
    have el := le_nI (r := nI t) (t := t) (k := k) rfl (by omega) (by omega)
    by_cases c : t ≤ k
    · rw [if_pos (el.mpr c), if_pos c, spLet_x, show t - k = 0 by omega]
      exact ⟨mm, mr, z, zp, go, gc, yg, gt, gk, gv, ys, yl, rfl, by rw [show nI 0 = (0 : Int32) from rfl, Int32.add_zero], hr, h6, h5, hB.o' (by omega)⟩
    · rw [if_neg (fun q => c (el.mp q)), if_neg c]
      obtain ⟨go1, gc1, gt1, gk1, gv1, yg1, ys1, yl1, e1, r1, ⟨f5, f6⟩, B1⟩ := q_tick hr hm mm mr zp
      rw [h6, h5] at e1
      have B2 := B1 b (by omega) hB
      rw [e1]
      simp only [spLet_x]
      generalize m_tick mm mr z zp mos = T at r1 f5 f6 B2 ⊢
      obtain ⟨a1, a2, a3, a4, a5, a6, a7, a8, a9, a10, a11, a12, p1, p2, p3, p4, p5, p6⟩ := ih2 (v + 1) T.2.1 T.2.2.1 T.2.2.2.1 T.2.2.2.2 go1 gc1 yg1 gt1 gk1 gv1 ys1 yl1 (b + 1) (by omega) (by omega) (by omega) r1 (by rw [f6, h6]) (by rw [f5, h5]) (by omega) B2
      refine ⟨a1, a2, a3, a4, a5, a6, a7, a8, a9, a10, a11, a12, p1, ?_, p3, p4, p5, p6.o' (by omega)⟩
      rw [p2, Int32.add_assoc, show (1 : Int32) + nI (t - (k + 1)) = nI (t - k) by rw [show (1 : Int32) = nI 1 from rfl, show t - k = 1 + (t - (k + 1)) by omega]; exact nadd rfl rfl]
/-- all orders -/
theorem scr_loop {ma ta cw zc : Int32} {cv ce cs zf : Nat → Int32} (u : roT) (uc : scR) (ks : Int32 × Int32) (km : Int32 × (Nat → Int32)) {o : Nat} (ho : o ≤ 26) (h1 : u.2.2.1 = nI o) (h2 : uc.2.1 = nI o) (hk : ∀ k, k < o → uc.2.2.2.2.2.1 k = u.2.2.2.1 k ∧ uc.2.2.2.2.2.2 k = u.2.2.2.2 k ∧ byt (u.2.2.2.1 k)) (hz : zkP u.2.2.2.2 o) : ∀ (n1 n2 k : Nat) (v mm mr : Int32) (z zp : Nat → Int32) (go gc yg : Int32) (gt gk gv ys yl : Nat → Int32) (b : Nat), k ≤ o → o < k + n1 → o < k + n2 → relZ cw zc go gc yg cv ce cs zf gt gk gv ys yl z → z 6 = ma → z 5 = ta → b + 99 * o < 1800000000 + 99 * k → bnd b z →
    ∃ A mm' mr' w zp' go' gc' yg' gt' gk' gv' ys' yl', spIter (fun _ _ _ _ _ _ _ _ _ _ _ _ _ _ _ _ _ _ _ => default) (x_X8_runScriptG_b34 ma ta cw cv ce cs zc zf uc ks) n1 v k (z 7) (z 8) (z 9) (z 11) (z 0) (z 1) (z 2) (z 3) (z 4) go gc gt gk gv yg ys yl = (A, ks.1, ks.2, w 7, w 8, w 9, w 11, w 0, w 1, w 2, w 3, w 4, go', gc', gt', gk', gv', yg', ys', yl', uc.2.1, uc.2.2.1, uc.2.2.2.1, uc.2.2.2.2.1, uc.2.2.2.2.2.1, uc.2.2.2.2.2.2) ∧
      spIter (fun _ _ _ _ _ _ => default) (m_runScript_b28 u km) n2 v k mm mr z zp = (A, km.1, 0, mm', mr', u.2.1, u.2.2.1, w, km.2, zp', u.2.2.2.1, u.2.2.2.2) ∧ relZ cw zc go' gc' yg' cv ce cs zf gt' gk' gv' ys' yl' w ∧ w 6 = ma ∧ w 5 = ta ∧ bnd (b + 99 * (o - k)) w := by
  intro n1
  induction n1 with
  | zero => intro n2 k v mm mr z zp go gc yg gt gk gv ys yl b h1 h2; omega
  | succ n1 ih =>
    intro n2 k v mm mr z zp go gc yg gt gk gv ys yl b g1 g2 g2' hr h6 h5 hb hB
    obtain ⟨m2, rfl⟩ : ∃ m, n2 = m + 1 := ⟨n2 - 1, by omega⟩
    show ∃ A mm' mr' w zp' go' gc' yg' gt' gk' gv' ys' yl', x_X8_runScriptG_b34 ma ta cw cv ce cs zc zf uc ks (spIter (fun _ _ _ _ _ _ _ _ _ _ _ _ _ _ _ _ _ _ _ => default) (x_X8_runScriptG_b34 ma ta cw cv ce cs zc zf uc ks) n1) v k (z 7) (z 8) (z 9) (z 11) (z 0) (z 1) (z 2) (z 3) (z 4) go gc gt gk gv yg ys yl = (A, ks.1, ks.2, w 7, w 8, w 9, w 11, w 0, w 1, w 2, w 3, w 4, go', gc', gt', gk', gv', yg', ys', yl', uc.2.1, uc.2.2.1, uc.2.2.2.1, uc.2.2.2.2.1, uc.2.2.2.2.2.1, uc.2.2.2.2.2.2) ∧
      m_runScript_b28 u km (spIter (fun _ _ _ _ _ _ => default) (m_runScript_b28 u km) m2) v k mm mr z zp = (A, km.1, 0, mm', mr', u.2.1, u.2.2.1, w, km.2, zp', u.2.2.2.1, u.2.2.2.2) ∧ relZ cw zc go' gc' yg' cv ce cs zf gt' gk' gv' ys' yl' w ∧ w 6 = ma ∧ w 5 = ta ∧ bnd (b + 99 * (o - k)) w
    have ih2 := ih m2 (k + 1)
    clear ih
    generalize spIter (fun _ _ _ _ _ _ _ _ _ _ _ _ _ _ _ _ _ _ _ => default) (x_X8_runScriptG_b34 ma ta cw cv ce cs zc zf uc ks) n1 = Q1 at ih2 ⊢
    generalize spIter (fun _ _ _ _ _ _ => default) (m_runScript_b28 u km) m2 = Q2 at ih2 ⊢
    unfold x_X8_runScriptG_b34 m_runScript_b28
    have el := le_nI (r := uc.2.1) (t := o) (k := k) h2 (by omega) (by omega)
    rw [h1, nI_clamp (show o < 2147483648 by omega)]
    by_cases c : o ≤ k
    · rw [if_pos (el.mpr c), if_pos c]
      exact ⟨v, mm, mr, z, zp, go, gc, yg, gt, gk, gv, ys, yl, rfl, rfl, hr, h6, h5, hB.o' (by omega)⟩
    · rw [if_neg (fun q => c (el.mp q)), if_neg c]
      obtain ⟨k1, k2, k3⟩ := hk k (by omega)
      obtain ⟨t1, t2⟩ := hz k (by omega)
      simp only [spLet_x, mot_e _ (show k < 26 by omega), tik_e _ (show k < 26 by omega)]
      rw [k1, k2]
      have e1 : spIter (fun _ _ _ _ _ _ _ _ _ _ _ _ _ _ _ _ _ _ => default) (x_X8_runScriptG_b68 ma ta cw cv ce cs zc zf v k Q1 (u.2.2.2.1 k) (u.2.2.2.2 k)) ((u.2.2.2.2 k).toNatClampNeg + 1) 0 (z 7) (z 8) (z 9) (z 11) (z 0) (z 1) (z 2) (z 3) (z 4) go gc gt gk gv yg ys yl = spIter (fun _ _ _ _ _ _ _ _ _ _ _ _ _ _ _ _ _ _ => default) (x_X8_runScriptG_b68 ma ta cw cv ce cs zc zf v k Q1 (u.2.2.2.1 k) (nI (u.2.2.2.2 k).toNatClampNeg)) ((u.2.2.2.2 k).toNatClampNeg + 1) 0 (z 7) (z 8) (z 9) (z 11) (z 0) (z 1) (z 2) (z 3) (z 4) go gc gt gk gv yg ys yl := by rw [← t1]
      obtain ⟨mm', mr', w, zp', go', gc', yg', gt', gk', gv', ys', yl', p1, p2, p3, p4, p5, p6⟩ := ord_loop (cw := cw) (zc := zc) (cv := cv) (ce := ce) (cs := cs) (zf := zf) k3 u (k2 := k) (t := (u.2.2.2.2 k).toNatClampNeg) rfl t1 t2 v Q1 Q2 ((u.2.2.2.2 k).toNatClampNeg + 1) 100 0 v mm mr z zp go gc yg gt gk gv ys yl b (by omega) (by omega) (by omega) hr h6 h5 (by omega) hB
      rw [e1, p1, p2]
      obtain ⟨a0, a1, a2, a3, a4, a5, a6, a7, a8, a9, a10, a11, a12, q1, q2, q3, q4, q5, q6⟩ := ih2 (v + nI (u.2.2.2.2 k).toNatClampNeg) mm' mr' w zp' go' gc' yg' gt' gk' gv' ys' yl' (b + ((u.2.2.2.2 k).toNatClampNeg - 0)) (by omega) (by omega) (by omega) p3 p4 p5 (by omega) p6
      rw [h1] at q2
      exact ⟨a0, a1, a2, a3, a4, a5, a6, a7, a8, a9, a10, a11, a12, q1, by rw [Nat.sub_zero]; exact q2, q3, q4, q5, q6.o' (by omega)⟩
theorem q_script_G (h8 : tl.toNatClampNeg ≤ 80) (ht : tl = nI tl.toNatClampNeg) (hx : ∀ k, k < 80 → xf k = zt k) (hc : ∀ k, k < 80 → 0 ≤ (zt k).toInt) {sk sn : Int32} {fm ft : Nat → Int32} (h : (x_X4_read sk sn fm ft xf tl).1 = -1) {iv : Nat → Int32} {av : Nat → Nat → Int32} {z : Nat → Int32} {b : Nat} (hr : relSt iv av z) (hb : b < 1000000000) (hB : bnd b z) (zm zk : Nat → Int32) (svm svc svn mm mr : Int32) (zv zp : Nat → Int32) :
    ∃ A mm' mr' at' or' w zp' zm' zk' go gc yg gt gk gv ys yl c e k n fm' ft', m_runScript svm tl mm mr z zv zt zp zm zk = (A, (m_keep svm z zv).1, 0, mm', mr', at', or', w, (m_keep svm z zv).2, zp', zm', zk') ∧
      x_X8_runScriptG svc svn tl (iv 0) (iv 1) (iv 2) (iv 3) (iv 4) (iv 5) (iv 6) (iv 7) (iv 8) (iv 9) (iv 10) (iv 11) (av 0) (av 1) (av 2) (iv 12) (av 3) (iv 13) (iv 14) (av 4) (av 5) (av 6) (iv 15) (av 7) (av 8) sk sn fm ft xf = (A, (x_X8_saveN svc svn).1, (x_X8_saveN svc svn).2, w 7, w 8, w 9, w 11, w 0, w 1, w 2, w 3, w 4, go, gc, gt, gk, gv, yg, ys, yl, c, e, k, n, fm', ft') ∧
      relSt (ivT iv w go gc yg) (avT av gt gk gv ys yl) w ∧ bnd (b + 2574) w := by
  obtain ⟨⟨a0, a1, a2, a3, a4, a5, a6, a7, a8, a9, a10⟩, hr2⟩ := hr
  have z1 : ¬ (1 : Int32) = 0 := by decide
  rcases q_reads h8 ht hx hc sk sn zm zk fm ft with ⟨c1, x, c2, c3, c4⟩ | ⟨c1, c2, o, ho, c3, c4, c5⟩
  · rw [c4] at h
    have := nI_toInt (n := x) (by omega)
    rw [h] at this
    exact absurd this (by rw [show ((-1 : Int32)).toInt = -1 by decide]; omega)
  · obtain ⟨y1, y2, y3, y4⟩ := readsAll_q (tl := tl) (zt := zt) (zm := zm) (zk := zk) rfl h8
    have y3' : zkP (m_readsAll tl zt zm zk).2.2.2.2 o := by
      rw [c3, nI_clamp (by omega)] at y3
      exact y3
    obtain ⟨A, mm', mr', w, zp', go, gc, yg, gt, gk, gv, ys, yl, e1, e2, e3, e4, e5, e6⟩ := scr_loop (ma := z 6) (ta := z 5) (m_readsAll tl zt zm zk) (x_X4_read sk sn fm ft xf tl) (x_X8_saveN svc svn) (m_keep svm z zv) ho c3 c4 c5 y3' ((x_X4_read sk sn fm ft xf tl).2.1.toNatClampNeg + 1) 27 0 0 mm mr z zp (iv 13) (iv 14) (iv 15) (av 4) (av 5) (av 6) (av 7) (av 8) b (by omega) (by rw [c4, nI_clamp (by omega)]; omega) (by omega) hr2 rfl rfl (by omega) hB
    refine ⟨A, mm', mr', (m_readsAll tl zt zm zk).2.1, (m_readsAll tl zt zm zk).2.2.1, w, zp', (m_readsAll tl zt zm zk).2.2.2.1, (m_readsAll tl zt zm zk).2.2.2.2, go, gc, yg, gt, gk, gv, ys, yl, (x_X4_read sk sn fm ft xf tl).2.1, (x_X4_read sk sn fm ft xf tl).2.2.1, (x_X4_read sk sn fm ft xf tl).2.2.2.1, (x_X4_read sk sn fm ft xf tl).2.2.2.2.1, (x_X4_read sk sn fm ft xf tl).2.2.2.2.2.1, (x_X4_read sk sn fm ft xf tl).2.2.2.2.2.2, ?_, ?_, relSt_T e3 (by rw [e4, a9]) (by rw [e5, a10]), e6.o' (by omega)⟩
    · unfold m_runScript
      rw [spLet_x, if_neg (by rw [c1]; exact z1), spLet_x, e2]
    · unfold x_X8_runScriptG
      rw [a0, a1, a2, a3, a4, a5, a6, a7, a8, a9, a10]
      rw [spLet_x, spLet_x, spLet_x, e1]
end SC

