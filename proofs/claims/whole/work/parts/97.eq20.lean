/-! both sides: the checksum -/
def acch (f : Nat → Int32) : Nat → Int64 → Nat → Int64
  | 0, v, _ => v
  | m + 1, v, c => acch f m (31 * v + (f c).toInt64) (c + 1)
theorem acch_add (f : Nat → Int32) : ∀ (a b : Nat) (v : Int64) (c : Nat), acch f (a + b) v c = acch f b (acch f a v c) (c + a) := by
  intro a
  induction a with
  | zero => intro b v c; rw [Nat.zero_add]; rfl
  | succ a ih =>
    intro b v c
    rw [show a + 1 + b = (a + b) + 1 by omega]
    show acch f (a + b) (31 * v + (f c).toInt64) (c + 1) = acch f b (acch f a (31 * v + (f c).toInt64) (c + 1)) (c + (a + 1))
    rw [ih, show c + 1 + a = c + (a + 1) by omega]
theorem acch_cong {f g : Nat → Int32} : ∀ (m : Nat) (v : Int64) (c d : Nat), (∀ j, j < m → f (c + j) = g (d + j)) → acch f m v c = acch g m v d := by
  intro m
  induction m with
  | zero => intro v c d h; rfl
  | succ m ih =>
    intro v c d h
    show acch f m (31 * v + (f c).toInt64) (c + 1) = acch g m (31 * v + (g d).toInt64) (d + 1)
    have h0 := h 0 (by omega)
    rw [Nat.add_zero, Nat.add_zero] at h0
    rw [h0]
    exact ih _ _ _ fun j hj => by
      have := h (j + 1) (by omega)
      rw [show c + 1 + j = c + (j + 1) by omega, show d + 1 + j = d + (j + 1) by omega]
      exact this
theorem hloop {β : Type} (N : Nat) (f : Nat → Int32) (K : Int64 → β) (d : Int64 → Nat → β) (B : (Int64 → Nat → β) → Int64 → Nat → β) (hB : ∀ R v k, k ≤ N → B R v k = if N ≤ k then K v else R (31 * v + (f k).toInt64) (k + 1)) : ∀ (n k : Nat) (v : Int64), k ≤ N → N < k + n → spIter d B n v k = K (acch f (N - k) v k) := by
  intro n
  induction n with
  | zero => intro k v h1 h2; omega
  | succ n ih =>
    intro k v h1 h2
    show B (spIter d B n) v k = _
    rw [hB _ _ _ h1]
    by_cases c : N ≤ k
    · rw [if_pos c, show N - k = 0 by omega]; rfl
    · rw [if_neg c, ih (k + 1) _ (by omega) (by omega), show N - k = (N - (k + 1)) + 1 by omega]
      rfl
section DG
variable {iv : Nat → Int32} {av : Nat → Nat → Int32} {z : Nat → Int32}
theorem sumOf_p (z : Nat → Int32) {t : Nat} (h : t < 4) : m_sumOf z t = m_sumOf_p z (nI t) := by
  have key : ∀ (n k : Nat) (v : Int32), spIter (fun _ _ => default) (m_sumOf_b4 z t) n v k = spIter (fun _ _ => default) (m_sumOf_p_b4 z (nI t)) n v k := by
    intro n
    induction n with
    | zero => intro k v; rfl
    | succ n ih =>
      intro k v
      show m_sumOf_b4 z t (spIter (fun _ _ => default) (m_sumOf_b4 z t) n) v k = m_sumOf_p_b4 z (nI t) (spIter (fun _ _ => default) (m_sumOf_p_b4 z (nI t)) n) v k
      generalize spIter (fun _ _ => default) (m_sumOf_b4 z t) n = R1 at ih ⊢
      generalize spIter (fun _ _ => default) (m_sumOf_p_b4 z (nI t)) n = R2 at ih ⊢
      unfold m_sumOf_b4 m_sumOf_p_b4
      simp only [spLet_x]
      rw [nI_clamp (by omega), ih]
  exact key 25 0 0
theorem h_chart (hr : cTab (iv 11) (av 0) (av 1) (av 2) z) (hG : mG z) (v : Int64) : x_X1_hash (iv 11) (av 0) (av 1) v = acch (fun t => m_sumOf z t) 4 (31 * acch (fun k => z (43 + k)) 4 v 0 + (z 10).toInt64) 0 := by
  obtain ⟨a1, a2, a3, a4⟩ := hr
  have b := hG.c10
  have hj : ∀ v : Int64, (if iv 11 = 0 then x_X1_hash_j63 (av 0) v 0 else x_X1_hash_j63 (av 0) v 1) = acch (fun t => m_sumOf z t) 4 (31 * v + (z 10).toInt64) 0 := fun v => by
    have e : ∀ x : Int32, x_X1_hash_j63 (av 0) v x = acch (fun t => m_sumOf z t) 4 (31 * v + x.toInt64) 0 := fun x => by
      unfold x_X1_hash_j63
      rw [spLet_x, hloop 4 (fun t => x_X1_sum (av 0) (nI t)) (fun v => v) _ (x_X1_hash_b69 (av 0)) (fun R v k hk => by unfold x_X1_hash_b69; simp only [spLet_x]) 5 0 _ (by omega) (by omega)]
      exact acch_cong 4 _ 0 0 fun j hj => by
        rw [Nat.zero_add, sumOf_p z hj]
        exact q_sum (ta := nI j) a2 (by rw [nI_clamp (by omega)]) (by rw [nI_clamp (by omega)]; exact hj)
    rw [e, e, a1]
    by_cases c : z 10 = 0
    · rw [if_pos c, c]
    · have c1 : z 10 = 1 := Int32.toInt_inj.mp (by
        have : ¬ (z 10).toInt = 0 := fun k => c (Int32.toInt_inj.mp (by rw [k, l_0]))
        rw [l_1]; omega)
      rw [if_neg c, c1]
  unfold x_X1_hash
  rw [hloop 4 (fun k => av 1 k) (fun v => if iv 11 = 0 then x_X1_hash_j63 (av 0) v 0 else x_X1_hash_j63 (av 0) v 1) _ (x_X1_hash_b16 (iv 11) (av 0) (av 1)) (fun R v k hk => by unfold x_X1_hash_b16; simp only [spLet_x]) 5 0 _ (by omega) (by omega)]
  rw [hj]
  rw [acch_cong (f := fun k => av 1 k) (g := fun k => z (43 + k)) 4 v 0 0 fun j hj => by
    rw [Nat.zero_add]; exact a3 j hj]
theorem h_zone (hz : cZon (iv 12) (av 3) z) (hG : mG z) (v : Int64) : x_X7_hash (iv 12) (av 3) v = acch (fun k => z (18 + k)) (4 * (z 18).toNatClampNeg + 1) v 0 := by
  obtain ⟨y1, y2⟩ := hG.zones
  obtain ⟨e1, e2⟩ := hz
  unfold x_X7_hash
  rw [spLet_x, e1, hloop (4 * (z 18).toNatClampNeg) (av 3) (fun v => v) _ (x_X7_hash_b15 (z 18) (av 3)) (fun R v k hk => by
    unfold x_X7_hash_b15
    simp only [spLet_x]
    by_cases c : 4 * (z 18).toNatClampNeg ≤ k
    · rw [if_pos (by omega), if_pos c]
    · rw [if_neg (by omega), if_neg c, if_neg (by omega)]) 25 0 _ (by omega) (by omega)]
  show acch (av 3) (4 * (z 18).toNatClampNeg - 0) (31 * v + (z 18).toInt64) 0 = acch (fun k => z (18 + k)) (4 * (z 18).toNatClampNeg) (31 * v + (z 18).toInt64) 1
  exact acch_cong _ _ 0 1 fun j hj => by
    rw [Nat.zero_add, e2 j (by omega)]
    exact congrArg z (by omega)
theorem h_logi {go : Int32} {gt gk gv : Nat → Int32} {o c : Nat} (h1 : go = nI o) (h3 : o < 30) (h4 : c ≤ 30) (h6 : ∀ i, i < c → gt ((o + i) % 30) = z (144 + 3 * i) ∧ gk ((o + i) % 30) = z (145 + 3 * i) ∧ gv ((o + i) % 30) = z (146 + 3 * i)) (i : Nat) (hi : i < c) (R : Int64 → Nat → Int64) (v : Int64) : spIter (fun _ _ => default) (x_X3_hash_b27 go gt gk gv i R) 4 v 0 = R (acch (fun k => z (144 + k)) 3 v (3 * i)) (i + 1) := by
  have es := slot_n h3 (i := i) (by omega)
  rw [← h1] at es
  obtain ⟨r1, r2, r3⟩ := h6 i hi
  have ep : ∀ w, w < 3 → x_X3_part go gt gk gv (nI i) (nI w) = z (144 + (3 * i + w)) := fun w hw => by
    unfold x_X3_part
    simp only [spLet_x, es]
    rw [nI_clamp (by omega), r1, r2, r3]
    rcases (show w = 0 ∨ w = 1 ∨ w = 2 by omega) with k | k | k
    · rw [k, if_pos (show nI 0 = 0 from rfl)]; rfl
    · rw [k, if_neg (show ¬ nI 1 = 0 by decide), if_pos (show nI 1 = 1 from rfl)]
      exact congrArg z (by omega)
    · rw [k, if_neg (show ¬ nI 2 = 0 by decide), if_neg (show ¬ nI 2 = 1 by decide)]
      exact congrArg z (by omega)
  rw [hloop 3 (fun w => x_X3_part go gt gk gv (nI i) (nI w)) (fun v => R v (i + 1)) _ (x_X3_hash_b27 go gt gk gv i R) (fun R' v k hk => by unfold x_X3_hash_b27; simp only [spLet_x]) 4 0 _ (by omega) (by omega)]
  exact congrArg (fun t => R t (i + 1)) (acch_cong 3 v 0 (3 * i) fun j hj => by rw [Nat.zero_add]; exact ep j hj)
theorem h_log {go gc : Int32} {gt gk gv : Nat → Int32} (h : logR go gc gt gk gv z) (v : Int64) : x_X3_hash go gc gt gk gv v = acch (fun k => z (143 + k)) (3 * (z 143).toNatClampNeg + 1) v 0 := by
  obtain ⟨o, c, h1, h2, h3, h4, h5, h6⟩ := h
  have ec : gc.toNatClampNeg = c := by rw [h2, nI_clamp (by omega)]
  have ez : (z 143).toNatClampNeg = c := by rw [h5, nI_clamp (by omega)]
  have key : ∀ (n i : Nat) (v : Int64), i ≤ c → c < i + n → spIter (fun _ _ => default) (x_X3_hash_b15 go gc gt gk gv) n v i = acch (fun k => z (144 + k)) (3 * (c - i)) v (3 * i) := by
    intro n
    induction n with
    | zero => intro i v a b; omega
    | succ n ih =>
      intro i v a b
      show x_X3_hash_b15 go gc gt gk gv (spIter (fun _ _ => default) (x_X3_hash_b15 go gc gt gk gv) n) v i = _
      generalize spIter (fun _ _ => default) (x_X3_hash_b15 go gc gt gk gv) n = R at ih ⊢
      unfold x_X3_hash_b15
      rw [ec]
      by_cases d : c ≤ i
      · rw [if_pos d, show 3 * (c - i) = 0 by omega]; rfl
      · rw [if_neg d, h_logi h1 h3 h4 h6 i (by omega) R v, ih (i + 1) _ (by omega) (by omega), show 3 * (c - i) = 3 + 3 * (c - (i + 1)) by omega, acch_add]
        rfl
  unfold x_X3_hash
  rw [spLet_x, key 31 0 _ (by omega) (by omega), ez, h2, ← h5]
  show acch (fun k => z (144 + k)) (3 * (c - 0)) (31 * v + (z 143).toInt64) 0 = acch (fun k => z (143 + k)) (3 * c) (31 * v + (z 143).toInt64) 1
  exact acch_cong _ _ 0 1 fun j hj => congrArg z (by omega)
theorem h_tally {yg : Int32} {ys yl : Nat → Int32} (h : lifR yg ys yl z) (v : Int64) : x_X6_hash ys yl v = acch (fun k => z (234 + k)) 12 v 0 := by
  obtain ⟨l1, l2, l3⟩ := h
  unfold x_X6_hash
  rw [hloop 4 ys (fun v => spIter (fun _ _ => default) (x_X6_hash_b60 yl) 9 v 0) _ (x_X6_hash_b16 ys yl) (fun R v k hk => by unfold x_X6_hash_b16; simp only [spLet_x]) 5 0 _ (by omega) (by omega)]
  show spIter (fun _ _ => default) (x_X6_hash_b60 yl) 9 (acch ys (4 - 0) v 0) 0 = _
  rw [hloop 8 yl (fun v => v) _ (x_X6_hash_b60 yl) (fun R v k hk => by unfold x_X6_hash_b60; simp only [spLet_x]) 9 0 _ (by omega) (by omega)]
  show acch yl 8 (acch ys 4 v 0) 0 = acch (fun k => z (234 + k)) (4 + 8) v 0
  rw [acch_add, acch_cong (f := ys) (g := fun k => z (234 + k)) 4 v 0 0 fun j hj => by rw [Nat.zero_add]; exact l2 j hj]
  exact acch_cong 8 _ 0 4 fun j hj => by
    rw [Nat.zero_add, l3 j hj]
    exact congrArg z (by omega)
/-- the reference's later half -/
def hTail (z : Nat → Int32) (v : Int64) : Int64 := acch (fun k => z (234 + k)) 12 (acch (fun k => z (143 + k)) (3 * (z 143).toNatClampNeg + 1) (acch (fun k => z (18 + k)) (4 * (z 18).toNatClampNeg + 1) (acch (fun t => m_sumOf z t) 4 (31 * acch (fun k => z (43 + k)) 4 v 0 + (z 10).toInt64) 0) 0) 0) 0
theorem hm_tail (hG : mG z) (u : Int32 × Int32 × Int32 × (Nat → Int32)) (v : Int64) : spIter (fun _ _ => default) (m_digest_b105 z u) 5 v 0 = (hTail z v, 0, u.2.1, u.2.2.1, u.2.2.2) := by
  obtain ⟨y1, y2⟩ := hG.zones
  obtain ⟨w1, w2⟩ := hG.ev
  have e254 : ∀ v, spIter (fun _ _ => default) (m_digest_b254 z u) 13 v 0 = (acch (fun k => z (234 + k)) 12 v 0, 0, u.2.1, u.2.2.1, u.2.2.2) := fun v =>
    hloop 12 (fun k => z (234 + k)) (fun v => (v, (0 : Int32), u.2.1, u.2.2.1, u.2.2.2)) _ (m_digest_b254 z u) (fun R v k hk => by unfold m_digest_b254; simp only [spLet_x]) 13 0 v (by omega) (by omega)
  have e214 : ∀ v, spIter (fun _ _ => default) (m_digest_b214 z u) 92 v 0 = (acch (fun k => z (234 + k)) 12 (acch (fun k => z (143 + k)) (3 * (z 143).toNatClampNeg + 1) v 0) 0, 0, u.2.1, u.2.2.1, u.2.2.2) := fun v => by
    rw [← e254]
    exact hloop (3 * (z 143).toNatClampNeg + 1) (fun k => z (143 + k)) (fun v => spIter (fun _ _ => default) (m_digest_b254 z u) 13 v 0) _ (m_digest_b214 z u) (fun R v k hk => by
      unfold m_digest_b214
      simp only [spLet_x]
      by_cases c : 3 * (z 143).toNatClampNeg + 1 ≤ k
      · rw [if_pos (by omega), if_pos c]
      · rw [if_neg (by omega), if_neg c]) 92 0 v (by omega) (by omega)
  have e176 : ∀ v, spIter (fun _ _ => default) (m_digest_b176 z u) 26 v 0 = (acch (fun k => z (234 + k)) 12 (acch (fun k => z (143 + k)) (3 * (z 143).toNatClampNeg + 1) (acch (fun k => z (18 + k)) (4 * (z 18).toNatClampNeg + 1) v 0) 0) 0, 0, u.2.1, u.2.2.1, u.2.2.2) := fun v => by
    rw [← e214]
    exact hloop (4 * (z 18).toNatClampNeg + 1) (fun k => z (18 + k)) (fun v => spIter (fun _ _ => default) (m_digest_b214 z u) 92 v 0) _ (m_digest_b176 z u) (fun R v k hk => by
      unfold m_digest_b176
      simp only [spLet_x]
      by_cases c : 4 * (z 18).toNatClampNeg + 1 ≤ k
      · rw [if_pos (by omega), if_pos c]
      · rw [if_neg (by omega), if_neg c]) 26 0 v (by omega) (by omega)
  have e150 : ∀ v, spIter (fun _ _ => default) (m_digest_b150 z u) 5 v 0 = (acch (fun k => z (234 + k)) 12 (acch (fun k => z (143 + k)) (3 * (z 143).toNatClampNeg + 1) (acch (fun k => z (18 + k)) (4 * (z 18).toNatClampNeg + 1) (acch (fun t => m_sumOf z t) 4 v 0) 0) 0) 0, 0, u.2.1, u.2.2.1, u.2.2.2) := fun v => by
    rw [← e176]
    exact hloop 4 (fun t => m_sumOf z t) (fun v => spIter (fun _ _ => default) (m_digest_b176 z u) 26 v 0) _ (m_digest_b150 z u) (fun R v k hk => by unfold m_digest_b150; simp only [spLet_x]) 5 0 v (by omega) (by omega)
  unfold hTail
  rw [← e150]
  exact hloop 4 (fun k => z (43 + k)) (fun v => spIter (fun _ _ => default) (m_digest_b150 z u) 5 (31 * v + (z 10).toInt64) 0) _ (m_digest_b105 z u) (fun R v k hk => by unfold m_digest_b105; simp only [spLet_x]) 5 0 v (by omega) (by omega)
theorem q_digest (h : relSt iv av z) (svc svm tl mm mr : Int32) (zp : Nat → Int32) (hs : svc = svm) : ∃ mm' mr' zp', m_digest svm tl mm mr z zp = (x_X8_digest svc tl (iv 0) (iv 1) (iv 2) (iv 4) (iv 5) (iv 6) (iv 7) (iv 8) (iv 9) (iv 10) (iv 11) (av 0) (av 1) (av 2) (iv 12) (av 3) (iv 13) (iv 14) (av 4) (av 5) (av 6) (av 7) (av 8), 0, mm', mr', zp') := by
  have hG := h.G
  have e10 : iv 10 = z 5 := h.1.2.2.2.2.2.2.2.2.2.2
  -- the class's end
  have et : ∀ v : Int64, x_X6_hash (av 7) (av 8) (x_X3_hash (iv 13) (iv 14) (av 4) (av 5) (av 6) (x_X7_hash (iv 12) (av 3) (x_X1_hash (iv 11) (av 0) (av 1) v))) = hTail z v := fun v => by
    rw [h_chart h.tab hG, h_zone h.zon hG, h_log h.2.2.2.1, h_tally h.2.2.2.2.1]
    rfl
  have ex57 : ∀ v, spIter (fun _ _ => default) (x_X8_digest_b57 (iv 0) (iv 4) (iv 5) (iv 6) (iv 7) (iv 8) (iv 9) (iv 10) (iv 11) (av 0) (av 1) (av 2) (iv 12) (av 3) (iv 13) (iv 14) (av 4) (av 5) (av 6) (av 7) (av 8)) 9 v 0 = hTail z (31 * (31 * acch (fun k => x_X8_limiterValue (iv 0) (iv 4) (iv 5) (iv 6) (iv 8) (iv 9) (iv 10) (iv 11) (av 0) (av 1) (av 2) (nI k)) 8 v 0 + (x_X8_permitted (iv 0) (iv 4) (iv 5) (iv 6) (iv 7) (iv 8) (iv 9) (iv 10) (iv 11) (av 0) (av 1) (av 2) (iv 12) (av 3)).toInt64) + (z 5).toInt64) := fun v =>
    hloop 8 (fun k => x_X8_limiterValue (iv 0) (iv 4) (iv 5) (iv 6) (iv 8) (iv 9) (iv 10) (iv 11) (av 0) (av 1) (av 2) (nI k)) (fun v => hTail z (31 * (31 * v + (x_X8_permitted (iv 0) (iv 4) (iv 5) (iv 6) (iv 7) (iv 8) (iv 9) (iv 10) (iv 11) (av 0) (av 1) (av 2) (iv 12) (av 3)).toInt64) + (z 5).toInt64)) _ _ (fun R v k hk => by
      unfold x_X8_digest_b57
      simp only [spLet_x, et, e10]) 9 0 v (by omega) (by omega)
  have em54 : ∀ (n k : Nat) (v : Int64) (mm mr : Int32), k ≤ 8 → 8 < k + n → ∃ mm' mr' zp', spIter (fun _ _ _ _ => default) (m_digest_b54 z zp) n v k mm mr = (hTail z (31 * (31 * acch (fun k => x_X8_limiterValue (iv 0) (iv 4) (iv 5) (iv 6) (iv 8) (iv 9) (iv 10) (iv 11) (av 0) (av 1) (av 2) (nI k)) (8 - k) v k + (x_X8_permitted (iv 0) (iv 4) (iv 5) (iv 6) (iv 7) (iv 8) (iv 9) (iv 10) (iv 11) (av 0) (av 1) (av 2) (iv 12) (av 3)).toInt64) + (z 5).toInt64), 0, mm', mr', zp') := by
    intro n
    induction n with
    | zero => intro k v mm mr a b; omega
    | succ n ih =>
      intro k v mm mr a b
      show ∃ mm' mr' zp', m_digest_b54 z zp (spIter (fun _ _ _ _ => default) (m_digest_b54 z zp) n) v k mm mr = _
      generalize spIter (fun _ _ _ _ => default) (m_digest_b54 z zp) n = R at ih ⊢
      unfold m_digest_b54
      by_cases c : 8 ≤ k
      · rw [if_pos c, show 8 - k = 0 by omega]
        simp only [spLet_x]
        rw [hm_tail hG, q_permNow h mm mr zp]
        exact ⟨_, _, _, rfl⟩
      · rw [if_neg c]
        simp only [spLet_x, q_limV h]
        rw [show 8 - k = (8 - (k + 1)) + 1 by omega]
        exact ih (k + 1) _ _ _ (by omega) (by omega)
  obtain ⟨mm', mr', zp', e54⟩ := em54 9 0 (acch (fun k => m_boomValue z (nI k)) 12 (31 * (612653 + svm.toInt64) + tl.toInt64) 0) mm mr (by omega) (by omega)
  refine ⟨mm', mr', zp', ?_⟩
  have em : m_digest svm tl mm mr z zp = spIter (fun _ _ _ _ => default) (m_digest_b54 z zp) 9 (acch (fun k => m_boomValue z (nI k)) 12 (31 * (612653 + svm.toInt64) + tl.toInt64) 0) 0 mm mr := by
    unfold m_digest
    rw [spLet_x]
    exact hloop 12 (fun k => m_boomValue z (nI k)) (fun v => spIter (fun _ _ _ _ => default) (m_digest_b54 z zp) 9 v 0 mm mr) _ _ (fun R v k hk => by unfold m_digest_b27; simp only [spLet_x]) 13 0 _ (by omega) (by omega)
  have ex : x_X8_digest svc tl (iv 0) (iv 1) (iv 2) (iv 4) (iv 5) (iv 6) (iv 7) (iv 8) (iv 9) (iv 10) (iv 11) (av 0) (av 1) (av 2) (iv 12) (av 3) (iv 13) (iv 14) (av 4) (av 5) (av 6) (av 7) (av 8) = hTail z (31 * (31 * acch (fun k => x_X8_limiterValue (iv 0) (iv 4) (iv 5) (iv 6) (iv 8) (iv 9) (iv 10) (iv 11) (av 0) (av 1) (av 2) (nI k)) 8 (acch (fun k => m_boomValue z (nI k)) 12 (31 * (612653 + svm.toInt64) + tl.toInt64) 0) 0 + (x_X8_permitted (iv 0) (iv 4) (iv 5) (iv 6) (iv 7) (iv 8) (iv 9) (iv 10) (iv 11) (av 0) (av 1) (av 2) (iv 12) (av 3)).toInt64) + (z 5).toInt64) := by
    rw [← ex57]
    unfold x_X8_digest
    simp only [spLet_x]
    rw [show (31 : Int64) * 19763 = 612653 by decide, hs]
    exact hloop 12 (fun k => m_boomValue z (nI k)) (fun v => spIter (fun _ _ => default) (x_X8_digest_b57 (iv 0) (iv 4) (iv 5) (iv 6) (iv 7) (iv 8) (iv 9) (iv 10) (iv 11) (av 0) (av 1) (av 2) (iv 12) (av 3) (iv 13) (iv 14) (av 4) (av 5) (av 6) (av 7) (av 8)) 9 v 0) _ _ (fun R v k hk => by unfold x_X8_digest_b30; simp only [spLet_x, q_boomV h]) 13 0 _ (by omega) (by omega)
  rw [em, ex]
  exact e54
end DG
