/-! both sides: reading a script, order by order -/
section SC
variable {xf zt : Nat → Int32} {tl : Int32}
theorem num_e (v c : Int32) : v * 10 + (c - 48) = 10 * v + c - 48 := by
  rw [Int32.sub_eq_add_neg, Int32.sub_eq_add_neg, Int32.mul_comm v 10, Int32.add_assoc]
/-- a number's end on the reference's side -/
theorem j68_e (h8 : tl.toNatClampNeg ≤ 80) {a : Nat} (h : a ≤ tl.toNatClampNeg) (v : Int32) : (a < tl.toNatClampNeg ∧ dig (zt a) ∧ m_number_j68 tl zt v (nI a) = (0, nI a)) ∨ ((a < tl.toNatClampNeg → ¬ dig (zt a)) ∧ m_number_j68 tl zt v (nI a) = (v, nI a)) := by
  unfold m_number_j68
  simp only [spLet_x, here_n h8 h]
  by_cases c : a < tl.toNatClampNeg
  · rw [if_pos c]
    by_cases d : okA (zt a) 48 57
    · exact Or.inl ⟨c, d, by rw [in_1 d, if_neg (show ¬ (1 : Int32) = 0 by decide)]⟩
    · exact Or.inr ⟨fun _ => d, by rw [in_0 d, if_pos rfl]⟩
  · rw [if_neg c]
    exact Or.inr ⟨fun k => absurd k c, by rw [in_0 (fun k => absurd k.1 (by decide)), if_pos rfl]⟩
abbrev scR : Type := Int32 × Int32 × Int32 × Int32 × Int32 × (Nat → Int32) × (Nat → Int32)
/-- one order read by both, or a fault at one place -/
def ordR (M : roT) (C : scR) (tl : Int32) (xf zm zk fm ft : Nat → Int32) (o p : Nat) : Prop :=
  (M.1 = 0 ∧ ∃ x, x ≤ 80 ∧ M.2.1 = nI x ∧ C.1 = nI x) ∨ ∃ p' mask num, p ≤ p' ∧ p' ≤ tl.toNatClampNeg ∧ byt mask ∧ M = (1, nI p', nI (o + 1), upd zm o mask, upd zk o num) ∧ C = crun xf tl p' (nI (o + 1)) 0 mask num (upd fm o mask) (upd ft o num)
/-- the rest of an order, behind its number -/
def restM (tl : Int32) (zt zm zk : Nat → Int32) (o : Nat) (v2 num : Int32) (a : Nat) : roT := if num = 0 then (0, nI a, nI o, zm, zk) else spLet (m_sign tl (nI a) zt) (fun u => if u.1 = 59 then (if v2 = -1 then m_readsOrder_j131 (nI o) zm zk num u 0 else m_readsOrder_j131 (nI o) zm zk num u ((1 : Int32) <<< (v2 &&& 31))) else (0, u.2, nI o, zm, zk))
theorem rest_c (h8 : tl.toNatClampNeg ≤ 80) (ht : tl = nI tl.toNatClampNeg) (hx : ∀ k, k < 80 → xf k = zt k) {se : Int32} (hse : se = 3 ∨ se = 4) {o a : Nat} (ha : a ≤ tl.toNatClampNeg) (h3 : 3 * o + 2 ≤ a) {mask v2 : Int32} (hm : mask = if v2 = -1 then 0 else (1 : Int32) <<< (v2 &&& 31)) (hb : byt mask) (num : Int32) (zm zk fm ft : Nat → Int32) (hd : se = 3 → a < tl.toNatClampNeg → ¬ dig (zt a)) :
    ordR (restM tl zt zm zk o v2 num a) (crun xf tl a (nI o) se mask num fm ft) tl xf zm zk fm ft o (a + 1) := by
  obtain ⟨t1, t2⟩ := tail_c h8 ht hx hse (o := o) ha mask num fm ft hd
  unfold restM
  by_cases c : num = 0
  · rw [if_pos c]
    exact Or.inl ⟨rfl, a, by omega, rfl, t1 c⟩
  · rw [if_neg c]
    obtain ⟨e, e1, e2, e3, e4, e5⟩ := sign_a (zt := zt) h8 ha
    obtain ⟨f1, f2⟩ := t2 c e e1 e2 e3 e4 (by omega)
    rw [spLet_x, e5]
    by_cases d : e < tl.toNatClampNeg ∧ zt e = 59
    · rw [if_pos (show (if e < tl.toNatClampNeg then zt e else -1, nI e).1 = 59 by rw [if_pos d.1]; exact d.2)]
      refine Or.inr ⟨e + 1, mask, num, by omega, by omega, hb, ?_, f1 d.1 d.2⟩
      have ej : ∀ x : Int32, m_readsOrder_j131 (nI o) zm zk num (if e < tl.toNatClampNeg then zt e else -1, nI e) x = (1, nI (e + 1), nI (o + 1), upd zm o x, upd zk o num) := fun x => by
        unfold m_readsOrder_j131
        simp only [spLet_x]
        rw [nI_clamp (show o < 2147483648 by omega), nI_clamp (show e < 2147483648 by omega)]
      rw [ej, ej, hm]
      split <;> rfl
    · rw [if_neg (show ¬ (if e < tl.toNatClampNeg then zt e else -1, nI e).1 = 59 by
        by_cases k : e < tl.toNatClampNeg
        · rw [if_pos k]; exact fun q => d ⟨k, q⟩
        · rw [if_neg k]; exact fun q => absurd (show (-1 : Int32) = 59 from q) (by decide))]
      exact Or.inl ⟨rfl, e, by omega, rfl, f2 d⟩
theorem j81_rest (o : Nat) (zm zk : Nat → Int32) (v2 num : Int32) (p a : Nat) (hn : m_number tl (nI p) zt = (num, nI a)) : m_readsOrder_j81 tl (nI o) zt zm zk v2 (nI p) = restM tl zt zm zk o v2 num a := by
  unfold m_readsOrder_j81 restM
  rw [spLet_x, hn, spLet_x]
theorem num_c (h8 : tl.toNatClampNeg ≤ 80) (ht : tl = nI tl.toNatClampNeg) (hx : ∀ k, k < 80 → xf k = zt k) {o p : Nat} (hp : p ≤ tl.toNatClampNeg) (h3 : 3 * o + 1 ≤ p) {mask v2 : Int32} (hm : mask = if v2 = -1 then 0 else (1 : Int32) <<< (v2 &&& 31)) (hb : byt mask) (zm zk fm ft : Nat → Int32) :
    ordR (m_readsOrder_j81 tl (nI o) zt zm zk v2 (nI p)) (crun xf tl p (nI o) 2 mask 0 fm ft) tl xf zm zk fm ft o (p + 2) := by
  obtain ⟨q, q1, q2, q3, q4, q5⟩ := sign_a (zt := zt) h8 hp
  have es := skip_c h8 hx (se := 2) (nI o) mask 0 fm ft (Or.inl (Or.inr (Or.inr rfl))) (q - p) p q (by omega) q2 q3
  have z1 : ¬ (1 : Int32) = 0 := by decide
  have mono : ∀ {M : roT} {C : scR} {p1 : Nat}, p + 2 ≤ p1 → ordR M C tl xf zm zk fm ft o p1 → ordR M C tl xf zm zk fm ft o (p + 2) := fun hp1 h => h.imp id fun ⟨p', a, b, c, d⟩ => ⟨p', a, b, by omega, d⟩
  rw [es]
  by_cases c : q < tl.toNatClampNeg
  · by_cases d : dig (zt q)
    · -- a first digit
      have ec : crun xf tl q (nI o) 2 mask 0 fm ft = crun xf tl (q + 1) (nI o) 3 mask (zt q - 48) fm ft := by
        rw [crun_s c h8, hx q (by omega), acc_2 (nI o) mask 0 fm ft d, if_neg z1]
        rw [show (0 : Int32) * 10 + (zt q - 48) = zt q - 48 by rw [Int32.zero_mul, Int32.zero_add]]
      rw [ec]
      have e0 : m_number tl (nI p) zt = m_number_b20 tl zt (m_number_b20 tl zt (m_number_b20 tl zt (fun _ _ _ => default))) 0 0 (nI q) := by
        unfold m_number
        simp only [spLet_x, q5]
        rw [if_pos c, in_1 d, if_neg z1]
        rfl
      have e1 : ∀ R : Int32 → Nat → Int32 → Int32 × Int32, m_number_b20 tl zt R 0 0 (nI q) = R (zt q - 48) 1 (nI (q + 1)) := fun R => by
        unfold m_number_b20
        simp only [spLet_x, here_n h8 (show q ≤ tl.toNatClampNeg by omega)]
        rw [if_neg (show ¬ 2 ≤ 0 by decide), if_pos c, in_1 d, if_neg z1, nI_clamp (by omega), Int32.mul_zero, Int32.zero_add]
      rw [e1] at e0
      by_cases f : q + 1 < tl.toNatClampNeg ∧ dig (zt (q + 1))
      · -- a second digit
        have ec2 : crun xf tl (q + 1) (nI o) 3 mask (zt q - 48) fm ft = crun xf tl (q + 1 + 1) (nI o) 4 mask (10 * (zt q - 48) + zt (q + 1) - 48) fm ft := by
          rw [crun_s f.1 h8, hx (q + 1) (by omega), acc_3 (nI o) mask _ fm ft f.2, if_neg z1, num_e]
        have e2 : ∀ R : Int32 → Nat → Int32 → Int32 × Int32, m_number_b20 tl zt R (zt q - 48) 1 (nI (q + 1)) = R (10 * (zt q - 48) + zt (q + 1) - 48) 2 (nI (q + 1 + 1)) := fun R => by
          unfold m_number_b20
          simp only [spLet_x, here_n h8 (show q + 1 ≤ tl.toNatClampNeg by omega)]
          rw [if_neg (show ¬ 2 ≤ 1 by decide), if_pos f.1, in_1 f.2, if_neg z1, nI_clamp (by omega)]
        have e3 : ∀ (R : Int32 → Nat → Int32 → Int32 × Int32) (v : Int32) (x : Int32), m_number_b20 tl zt R v 2 x = m_number_j68 tl zt v x := fun R v x => by
          unfold m_number_b20
          rw [if_pos (show 2 ≤ 2 by decide)]
        rw [e2, e3] at e0
        rw [ec2]
        rcases j68_e h8 (zt := zt) (a := q + 1 + 1) (by omega) (10 * (zt q - 48) + zt (q + 1) - 48) with ⟨g1, g2, g3⟩ | ⟨g1, g2⟩
        · -- a third one
          rw [g3] at e0
          rw [j81_rest o zm zk v2 0 p (q + 1 + 1) e0]
          obtain ⟨t1, t2⟩ := tail_c h8 ht hx (se := 4) (Or.inr rfl) (o := o) (i := q + 1 + 1) (by omega) mask (10 * (zt q - 48) + zt (q + 1) - 48) fm ft (fun k => absurd k (by decide))
          refine Or.inl ⟨rfl, q + 1 + 1, by omega, rfl, ?_⟩
          by_cases k : 10 * (zt q - 48) + zt (q + 1) - 48 = 0
          · exact t1 k
          · exact (t2 k (q + 1 + 1) (by omega) (by omega) (fun j j1 j2 => by omega) (fun _ k2 => by rw [k2] at g2; exact absurd g2.1 (by decide)) (by omega)).2 (fun k2 => by have := k2.2; rw [this] at g2; exact absurd g2.2 (by decide))
        · rw [g2] at e0
          rw [j81_rest o zm zk v2 _ p (q + 1 + 1) e0]
          exact mono (by omega) (rest_c h8 ht hx (Or.inr rfl) (by omega) (by omega) hm hb _ zm zk fm ft (fun k => absurd k (by decide)))
      · -- one digit alone
        have hnd : q + 1 < tl.toNatClampNeg → ¬ dig (zt (q + 1)) := fun k k2 => f ⟨k, k2⟩
        have e2 : ∀ R : Int32 → Nat → Int32 → Int32 × Int32, m_number_b20 tl zt R (zt q - 48) 1 (nI (q + 1)) = m_number_j68 tl zt (zt q - 48) (nI (q + 1)) := fun R => by
          unfold m_number_b20
          simp only [spLet_x, here_n h8 (show q + 1 ≤ tl.toNatClampNeg by omega)]
          rw [if_neg (show ¬ 2 ≤ 1 by decide)]
          by_cases k : q + 1 < tl.toNatClampNeg
          · rw [if_pos k, in_0 (hnd k), if_pos rfl]
          · rw [if_neg k, in_0 (fun k => absurd k.1 (by decide)), if_pos rfl]
        rw [e2] at e0
        rcases j68_e h8 (zt := zt) (a := q + 1) (by omega) (zt q - 48) with ⟨g1, g2, g3⟩ | ⟨g1, g2⟩
        · exact absurd g2 (hnd g1)
        · rw [g2] at e0
          rw [j81_rest o zm zk v2 _ p (q + 1) e0]
          exact mono (by omega) (rest_c h8 ht hx (Or.inl rfl) (by omega) (by omega) hm hb _ zm zk fm ft (fun _ => hnd))
    · -- no digit
      have e0 : m_number tl (nI p) zt = (0, nI q) := by
        unfold m_number
        simp only [spLet_x, q5]
        rw [if_pos c, in_0 d, if_pos rfl]
      rw [j81_rest o zm zk v2 _ p q e0]
      refine Or.inl ⟨rfl, q, by omega, rfl, ?_⟩
      rw [crun_s c h8, hx q (by omega), if_pos (acc_2n (nI o) mask 0 fm ft d (q4 c))]
  · have e0 : m_number tl (nI p) zt = (0, nI q) := by
      unfold m_number
      simp only [spLet_x, q5]
      rw [if_neg c, in_0 (fun k => absurd k.1 (by decide)), if_pos rfl]
    rw [j81_rest o zm zk v2 _ p q e0]
    refine Or.inl ⟨rfl, q, by omega, rfl, ?_⟩
    rw [crun_e (by omega), if_neg (show ¬ (2 : Int32) = 0 by decide)]
    show tl = nI q
    rw [show q = tl.toNatClampNeg by omega]
    exact ht
/-- the sign of a motion -/
theorem acc_1 (sc sk sn : Int32) (fm ft : Nat → Int32) {c : Int32} (h32 : ¬ c = 32) : x_X4_accepts sc 1 sk sn fm ft c = if c = 45 then ((1, sc, 2, sk <<< 1, sn, fm, ft) : scR) else if c = 43 then (1, sc, 2, sk, sn, fm, ft) else (0, sc, 1, sk, sn, fm, ft) := by
  have z1 : ¬ (1 : Int32) = 0 := by decide
  have eS : x_X4_acceptsSign sc 1 sk sn fm ft c = if c = 45 then ((1, sc, 2, sk <<< 1, sn, fm, ft) : scR) else if c = 43 then (1, sc, 2, sk, sn, fm, ft) else (0, sc, 1, sk, sn, fm, ft) := by
    unfold x_X4_acceptsSign x_X4_acceptsSign_j14 x_X4_acceptsSign_j30
    by_cases a : c = 45
    · have b : ¬ c = 43 := by rw [a]; decide
      rw [if_neg b, if_pos a, if_pos a, if_pos a, spLet_x]
      rfl
    · by_cases b : c = 43
      · rw [if_pos b, if_neg a, if_neg a, if_pos b]
      · rw [if_neg b, if_neg a, if_neg a, if_neg b]
  unfold x_X4_accepts
  rw [if_neg z1, if_pos rfl, if_neg h32, spLet_x, eS]
  by_cases a : c = 45
  · rw [if_pos a, if_neg z1]
  · by_cases b : c = 43
    · rw [if_neg a, if_pos b, if_neg z1]
    · rw [if_neg a, if_neg b, if_pos rfl]
theorem acc_0 (sc sk sn : Int32) (fm ft : Nat → Int32) {c : Int32} (h32 : ¬ c = 32) : x_X4_accepts sc 0 sk sn fm ft c = if c = 119 then ((1, sc, 2, 0, 0, fm, ft) : scR) else if m_firstMotion c = -1 then (0, sc, 0, sk, sn, fm, ft) else (1, sc, 1, (1 : Int32) <<< (m_firstMotion c &&& 31), 0, fm, ft) := by
  have z1 : ¬ (1 : Int32) = 0 := by decide
  have hf : m_firstMotion c = if c = 104 then 0 else if c = 98 then 2 else if c = 101 then 4 else if c = 115 then 6 else -1 := rfl
  have eL : x_X4_acceptsLetter sc 0 sk sn fm ft c = if c = 119 then ((1, sc, 2, 0, 0, fm, ft) : scR) else if m_firstMotion c = -1 then (0, sc, 0, sk, sn, fm, ft) else (1, sc, 1, (1 : Int32) <<< (m_firstMotion c &&& 31), 0, fm, ft) := by
    rw [hf]
    unfold x_X4_acceptsLetter x_X4_acceptsLetter_j96 x_X4_acceptsLetter_j113
    by_cases a1 : c = 98
    · subst a1; rfl
    · by_cases a2 : c = 101
      · subst a2; rfl
      · by_cases a3 : c = 104
        · subst a3; rfl
        · by_cases a4 : c = 115
          · subst a4; rfl
          · by_cases a5 : c = 119
            · subst a5; rfl
            · simp only [if_neg a1, if_neg a2, if_neg a3, if_neg a4, if_neg a5, if_true]
  unfold x_X4_accepts
  rw [if_pos rfl, if_neg h32, spLet_x, eL]
  by_cases a : c = 119
  · rw [if_pos a, if_neg z1]
  · by_cases b : m_firstMotion c = -1
    · rw [if_neg a, if_pos b, if_pos rfl]
    · rw [if_neg a, if_neg b, if_neg z1]
theorem fm_v {c : Int32} (h : ¬ m_firstMotion c = -1) : m_firstMotion c = 0 ∨ m_firstMotion c = 2 ∨ m_firstMotion c = 4 ∨ m_firstMotion c = 6 := by
  unfold m_firstMotion at h ⊢
  split
  · exact Or.inl rfl
  · rename_i a
    rw [if_neg a] at h
    split
    · exact Or.inr (Or.inl rfl)
    · rename_i b
      rw [if_neg b] at h
      split
      · exact Or.inr (Or.inr (Or.inl rfl))
      · rename_i d
        rw [if_neg d] at h
        split
        · exact Or.inr (Or.inr (Or.inr rfl))
        · rename_i f
          rw [if_neg f] at h
          exact absurd rfl h
theorem msk {r : Int32} (h : r = 0 ∨ r = 2 ∨ r = 4 ∨ r = 6) : (¬ r + 0 = -1 ∧ ¬ r + 1 = -1) ∧ ((1 : Int32) <<< (r &&& 31)) <<< 1 = (1 : Int32) <<< ((r + 1) &&& 31) ∧ byt ((1 : Int32) <<< (r &&& 31)) ∧ byt ((1 : Int32) <<< ((r + 1) &&& 31)) := by
  unfold byt
  rcases h with rfl | rfl | rfl | rfl <;> decide
theorem order_c (h8 : tl.toNatClampNeg ≤ 80) (ht : tl = nI tl.toNatClampNeg) (hx : ∀ k, k < 80 → xf k = zt k) {o b : Nat} (hb : b < tl.toNatClampNeg) (h32 : ¬ zt b = 32) (h3 : 3 * o ≤ b) (sk sn : Int32) (zm zk fm ft : Nat → Int32) :
    ordR (m_readsOrder tl (nI b) (nI o) zt zm zk) (crun xf tl b (nI o) 0 sk sn fm ft) tl xf zm zk fm ft o (b + 3) := by
  obtain ⟨b', b1, b2, b3, b4, b5⟩ := sign_a (zt := zt) h8 (show b ≤ tl.toNatClampNeg by omega)
  have eb : b' = b := by
    by_cases c : b' = b
    · exact c
    · exact absurd (b3 b (by omega) (by omega)) h32
  rw [eb] at b5
  rw [if_pos hb] at b5
  have z1 : ¬ (1 : Int32) = 0 := by decide
  have hc := crun_s hb h8 (xf := xf) (nI o) 0 sk sn fm ft
  rw [hx b (by omega), acc_0 (nI o) sk sn fm ft h32] at hc
  unfold m_readsOrder
  simp only [spLet_x, b5]
  by_cases w : zt b = 119
  · have ef : m_firstMotion (zt b) = -1 := by rw [w]; rfl
    rw [if_pos ef, if_pos w]
    rw [if_pos w, if_neg z1] at hc
    rw [hc]
    unfold m_readsOrder_j23
    rw [if_pos ef, nI_clamp (by omega), ef]
    exact (num_c h8 ht hx (o := o) (p := b + 1) (by omega) (by omega) (mask := 0) (v2 := -1) rfl (by unfold byt; decide) zm zk fm ft).imp id fun ⟨p', a, b, c, d⟩ => ⟨p', a, b, by omega, d⟩
  · rw [if_neg w] at hc
    by_cases f : m_firstMotion (zt b) = -1
    · rw [if_pos f, if_neg w]
      rw [if_pos f, if_pos rfl] at hc
      rw [hc]
      exact Or.inl ⟨rfl, b, by omega, rfl, rfl⟩
    · rw [if_neg f]
      rw [if_neg f, if_neg z1] at hc
      rw [hc]
      obtain ⟨⟨m1, m2⟩, m3, m4, m5⟩ := msk (fm_v f)
      unfold m_readsOrder_j23
      rw [if_neg f, nI_clamp (by omega)]
      obtain ⟨d, d1, d2, d3, d4, d5⟩ := sign_a (zt := zt) h8 (show b + 1 ≤ tl.toNatClampNeg by omega)
      have es := skip_c h8 hx (se := 1) (nI o) ((1 : Int32) <<< (m_firstMotion (zt b) &&& 31)) 0 fm ft (Or.inl (Or.inr (Or.inl rfl))) (d - (b + 1)) (b + 1) d (by omega) d2 d3
      rw [es]
      simp only [spLet_x, d5]
      generalize m_firstMotion (zt b) = r at *
      by_cases c : d < tl.toNatClampNeg
      · rw [if_pos c]
        have hc1 := crun_s c h8 (xf := xf) (nI o) 1 ((1 : Int32) <<< (r &&& 31)) 0 fm ft
        rw [hx d (by omega), acc_1 (nI o) _ 0 fm ft (d4 c)] at hc1
        by_cases e1 : zt d = 45
        · rw [if_pos e1, if_neg z1] at hc1
          rw [hc1, if_neg (show ¬ zt d = 43 by rw [e1]; decide), if_pos e1]
          unfold m_readsOrder_j57 m_readsOrder_j69
          rw [if_pos e1, spLet_x, nI_clamp (by omega)]
          show ordR _ (crun xf tl (d + 1) (nI o) 2 (((1 : Int32) <<< (r &&& 31)) <<< 1) 0 fm ft) tl xf zm zk fm ft o (b + 3)
          rw [m3]
          exact (num_c h8 ht hx (o := o) (p := d + 1) (by omega) (by omega) (mask := (1 : Int32) <<< ((r + 1) &&& 31)) (v2 := r + 1) (by rw [if_neg m2]) m5 zm zk fm ft).imp id fun ⟨p', a, b, c, d⟩ => ⟨p', a, b, by omega, d⟩
        · by_cases e2 : zt d = 43
          · rw [if_neg e1, if_pos e2, if_neg z1] at hc1
            rw [hc1, if_pos e2]
            unfold m_readsOrder_j57 m_readsOrder_j69
            rw [if_neg e1, spLet_x, nI_clamp (by omega)]
            exact (num_c h8 ht hx (o := o) (p := d + 1) (by omega) (by omega) (mask := (1 : Int32) <<< (r &&& 31)) (v2 := r + 0) (by rw [if_neg m1, Int32.add_zero]) m4 zm zk fm ft).imp id fun ⟨p', a, b, c, d⟩ => ⟨p', a, b, by omega, d⟩
          · rw [if_neg e1, if_neg e2, if_pos rfl] at hc1
            rw [hc1, if_neg e2, if_neg e1]
            exact Or.inl ⟨rfl, d, by omega, rfl, rfl⟩
      · rw [if_neg c, if_neg (by decide), if_neg (by decide)]
        refine Or.inl ⟨rfl, d, by omega, rfl, ?_⟩
        rw [crun_e (by omega), if_neg z1]
        show tl = nI d
        rw [show d = tl.toNatClampNeg by omega]
        exact ht
end SC
