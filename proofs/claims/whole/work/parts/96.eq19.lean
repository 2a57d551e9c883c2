/-! both sides: sums of tables and filled tables -/
def accs (f : Nat → Int32) : Nat → Int32 → Nat → Int32
  | 0, v, _ => v
  | m + 1, v, c => accs f m (v + f c) (c + 1)
theorem accs_add (f : Nat → Int32) : ∀ (a b : Nat) (v : Int32) (c : Nat), accs f (a + b) v c = accs f b (accs f a v c) (c + a) := by
  intro a
  induction a with
  | zero => intro b v c; rw [Nat.zero_add]; rfl
  | succ a ih =>
    intro b v c
    rw [show a + 1 + b = (a + b) + 1 by omega]
    show accs f (a + b) (v + f c) (c + 1) = accs f b (accs f a (v + f c) (c + 1)) (c + (a + 1))
    rw [ih, show c + 1 + a = c + (a + 1) by omega]
theorem accs_cong {f g : Nat → Int32} : ∀ (m : Nat) (v : Int32) (c d : Nat), (∀ j, j < m → f (c + j) = g (d + j)) → accs f m v c = accs g m v d := by
  intro m
  induction m with
  | zero => intro v c d h; rfl
  | succ m ih =>
    intro v c d h
    show accs f m (v + f c) (c + 1) = accs g m (v + g d) (d + 1)
    have h0 := h 0 (by omega)
    rw [Nat.add_zero, Nat.add_zero] at h0
    rw [h0]
    exact ih _ _ _ fun j hj => by
      have := h (j + 1) (by omega)
      rw [show c + 1 + j = c + (j + 1) by omega, show d + 1 + j = d + (j + 1) by omega]
      exact this
theorem sum_m (z : Nat → Int32) (ta : Int32) : ∀ (n k : Nat) (v : Int32), k ≤ 24 → 24 < k + n → spIter (fun _ _ => default) (m_sumOf_p_b4 z ta) n v k = accs (fun k => z (47 + 24 * ta.toNatClampNeg + k)) (24 - k) v k := by
  intro n
  induction n with
  | zero => intro k v h1 h2; omega
  | succ n ih =>
    intro k v h1 h2
    show m_sumOf_p_b4 z ta (spIter (fun _ _ => default) (m_sumOf_p_b4 z ta) n) v k = _
    generalize spIter (fun _ _ => default) (m_sumOf_p_b4 z ta) n = R at ih ⊢
    unfold m_sumOf_p_b4
    by_cases c : 24 ≤ k
    · rw [if_pos c, show 24 - k = 0 by omega]; rfl
    · rw [if_neg c, spLet_x, show 24 - k = (24 - (k + 1)) + 1 by omega]
      exact ih (k + 1) _ (by omega) (by omega)
theorem sum_i (cv : Nat → Int32) {ta : Int32} {t : Nat} (ht : ta = nI t) (t4 : t < 4) (r : Nat) (hr : r < 4) (R : Int32 → Nat → Int32) : ∀ (n c : Nat) (v : Int32), c ≤ 6 → 6 < c + n → spIter (fun _ _ => default) (x_X1_sum_b12 cv ta r R) n v c = R (accs (fun k => cv (24 * t + k)) (6 - c) v (6 * r + c)) (r + 1) := by
  intro n
  induction n with
  | zero => intro k v h1 h2; omega
  | succ n ih =>
    intro c v h1 h2
    show x_X1_sum_b12 cv ta r R (spIter (fun _ _ => default) (x_X1_sum_b12 cv ta r R) n) v c = _
    generalize spIter (fun _ _ => default) (x_X1_sum_b12 cv ta r R) n = R2 at ih ⊢
    unfold x_X1_sum_b12
    by_cases d : 6 ≤ c
    · rw [if_pos d, show 6 - c = 0 by omega]; rfl
    · have hv := x_val (cv := cv) (zs := fun q => cv (q - 47)) (fun k hk => by show cv k = cv (47 + k - 47); rw [Nat.add_sub_cancel_left]) (t := t) (i := r) (j := c) t4 hr (by omega)
      rw [← ht] at hv
      rw [if_neg d, spLet_x, spLet_x, hv, show 6 - c = (6 - (c + 1)) + 1 by omega]
      have e : cv (47 + 24 * t + 6 * r + c - 47) = cv (24 * t + (6 * r + c)) := congrArg cv (by omega)
      rw [e]
      exact ih (c + 1) _ (by omega) (by omega)
theorem sum_o (cv : Nat → Int32) {ta : Int32} {t : Nat} (ht : ta = nI t) (t4 : t < 4) : ∀ (n r : Nat) (v : Int32), r ≤ 4 → 4 < r + n → spIter (fun _ _ => default) (x_X1_sum_b4 cv ta) n v r = accs (fun k => cv (24 * t + k)) (24 - 6 * r) v (6 * r) := by
  intro n
  induction n with
  | zero => intro k v h1 h2; omega
  | succ n ih =>
    intro r v h1 h2
    show x_X1_sum_b4 cv ta (spIter (fun _ _ => default) (x_X1_sum_b4 cv ta) n) v r = _
    generalize spIter (fun _ _ => default) (x_X1_sum_b4 cv ta) n = R at ih ⊢
    unfold x_X1_sum_b4
    by_cases d : 4 ≤ r
    · rw [if_pos d, show 24 - 6 * r = 0 by omega]; rfl
    · rw [if_neg d, sum_i cv ht t4 r (by omega) R 7 0 v (by omega) (by omega), ih (r + 1) _ (by omega) (by omega)]
      rw [show 24 - 6 * r = 6 + (24 - 6 * (r + 1)) by omega, accs_add]
      rfl
theorem q_sum {cv z : Nat → Int32} (h : ∀ k, k < 96 → cv k = z (47 + k)) {ta : Int32} (ht : ta = nI ta.toNatClampNeg) (t4 : ta.toNatClampNeg < 4) : x_X1_sum cv ta = m_sumOf_p z ta := by
  unfold x_X1_sum m_sumOf_p
  rw [sum_m z ta 25 0 0 (by omega) (by omega), sum_o cv ht t4 5 0 0 (by omega) (by omega)]
  exact accs_cong 24 0 0 0 fun j hj => by
    rw [h _ (by omega)]
    exact congrArg z (by omega)
/-- the value that fills a place -/
def fV (mo : Int32) (r c : Nat) : Int32 := m_lesser 100000 (1000 * mo / tRad c) * (10 - nI r) / 10
theorem fV_r {mo : Int32} (h : okA mo 0 1000000) {r c : Nat} (hr : r < 4) (hc : c < 6) : 0 ≤ (fV mo r c).toInt ∧ (fV mo r c).toInt ≤ 100000 := by
  obtain ⟨h1, h2⟩ := h
  rw [l_0] at h1
  rw [show ((1000000 : Int32)).toInt = 1000000 by decide] at h2
  have z3 : ((1000 : Int32)).toInt = 1000 := by decide
  have z10 : ((10 : Int32)).toInt = 10 := by decide
  have z5 : ((100000 : Int32)).toInt = 100000 := by decide
  have rb : 300 ≤ (tRad c).toInt := by
    rcases (show c < 5 ∨ c = 5 by omega) with k | k
    · exact (rad_b c k).1
    · rw [k]; decide
  have e1 := zdiv (zmul z3 (x := 1000) (y := mo) rfl (by omega) (by omega)) (y := tRad c) rfl (by omega) (by omega)
  have q0 : 0 ≤ 1000 * mo.toInt / (tRad c).toInt := Int.ediv_nonneg (by omega) (by omega)
  have e2 : (m_lesser 100000 (1000 * mo / tRad c)).toInt = min 100000 (1000 * mo.toInt / (tRad c).toInt) := by rw [lesser_r, z5, e1]
  have e3 := zsub z10 (nI_toInt (n := r) (by omega)) (by omega) (by omega)
  obtain ⟨m0, m1⟩ := mulb (a := min 100000 (1000 * mo.toInt / (tRad c).toInt)) (A := 100000) (b := 10 - (r : Int)) (B := 10) (by omega) (by omega) (by omega) (by omega)
  have e4 := zdiv (zmul e2 e3 (by omega) (by omega)) z10 (by omega) (by omega)
  unfold fV
  rw [e4]
  omega
def flM (z : Nat → Int32) (mo : Int32) (b k : Nat) : Nat → Int32 := fun q => if b + k ≤ q ∧ q < b + 24 then fV mo ((q - b) / 6) ((q - b) % 6) else z q
theorem div6_d : ∀ k, k < 24 → nI k / 6 = nI (k / 6) ∧ nI k - nI k / 6 * 6 = nI (k % 6) := by decide
theorem fill_m (ta mo : Int32) (u : Int32 × (Nat → Int32)) : ∀ (n k : Nat) (w : Nat → Int32), k ≤ 24 → 24 < k + n → spIter (fun _ _ => default) (m_fillTable_b42 ta mo u) n k w = (m_sumOf_p (flM w mo (47 + 24 * ta.toNatClampNeg) k) ta, u.1, 0, flM w mo (47 + 24 * ta.toNatClampNeg) k, u.2) := by
  intro n
  induction n with
  | zero => intro k w h1 h2; omega
  | succ n ih =>
    intro k w h1 h2
    show m_fillTable_b42 ta mo u (spIter (fun _ _ => default) (m_fillTable_b42 ta mo u) n) k w = _
    generalize spIter (fun _ _ => default) (m_fillTable_b42 ta mo u) n = R at ih ⊢
    unfold m_fillTable_b42
    by_cases c : 24 ≤ k
    · have e : flM w mo (47 + 24 * ta.toNatClampNeg) k = w := by
        funext q
        unfold flM
        rw [if_neg (by omega)]
      rw [if_pos c, spLet_x, e]
    · obtain ⟨d1, d2⟩ := div6_d k (by omega)
      rw [if_neg c]
      simp only [spLet_x]
      rw [d2, d1, col_t _ (by omega)]
      rw [ih (k + 1) _ (by omega) (by omega)]
      have e : flM (upd w (47 + 24 * ta.toNatClampNeg + k) (m_lesser 100000 (1000 * mo / tRad (k % 6)) * (10 - nI (k / 6)) / 10)) mo (47 + 24 * ta.toNatClampNeg) (k + 1) = flM w mo (47 + 24 * ta.toNatClampNeg) k := by
        funext q
        unfold flM upd
        by_cases h : q = 47 + 24 * ta.toNatClampNeg + k
        · rw [if_neg (by omega), if_pos h, if_pos (by omega), h, Nat.add_sub_cancel_left]
          rfl
        · by_cases h2 : 47 + 24 * ta.toNatClampNeg + (k + 1) ≤ q ∧ q < 47 + 24 * ta.toNatClampNeg + 24
          · rw [if_pos h2, if_pos (by omega)]
          · rw [if_neg h2, if_neg h, if_neg (by omega)]
      rw [e]
def flR (w : Nat → Int32) (mo : Int32) (b c r : Nat) : Nat → Int32 := fun q => if b + 6 * r + c ≤ q ∧ q < b + 24 ∧ (q - b) % 6 = c then fV mo ((q - b) / 6) c else w q
def flC (w : Nat → Int32) (mo : Int32) (b c : Nat) : Nat → Int32 := fun q => if b ≤ q ∧ q < b + 24 ∧ c ≤ (q - b) % 6 then fV mo ((q - b) / 6) ((q - b) % 6) else w q
theorem fill_i {ta mo : Int32} {t : Nat} (ht : ta = nI t) (t4 : t < 4) (c : Nat) (hc : c < 6) (R : Nat → (Nat → Int32) → (Nat → Int32)) : ∀ (n r : Nat) (w : Nat → Int32), r ≤ 4 → 4 < r + n → spIter (fun _ _ => default) (x_X1_fill_b44 ta c R (m_lesser 100000 (1000 * mo / tRad c))) n r w = R (c + 1) (flR w mo (24 * t) c r) := by
  intro n
  induction n with
  | zero => intro k w h1 h2; omega
  | succ n ih =>
    intro r w h1 h2
    show x_X1_fill_b44 ta c R (m_lesser 100000 (1000 * mo / tRad c)) (spIter (fun _ _ => default) (x_X1_fill_b44 ta c R (m_lesser 100000 (1000 * mo / tRad c))) n) r w = _
    generalize spIter (fun _ _ => default) (x_X1_fill_b44 ta c R (m_lesser 100000 (1000 * mo / tRad c))) n = R2 at ih ⊢
    unfold x_X1_fill_b44
    by_cases d : 4 ≤ r
    · have e : flR w mo (24 * t) c r = w := by
        funext q
        unfold flR
        rw [if_neg (by omega)]
      rw [if_pos d, e]
    · have hp := put_val (cv := w) (t := t) (i := r) (j := c) t4 (by omega) hc (m_lesser 100000 (1000 * mo / tRad c) * (10 - nI r) / 10)
      rw [← ht] at hp
      rw [if_neg d, spLet_x, hp, ih (r + 1) _ (by omega) (by omega)]
      have e : flR (upd w (24 * t + 6 * r + c) (m_lesser 100000 (1000 * mo / tRad c) * (10 - nI r) / 10)) mo (24 * t) c (r + 1) = flR w mo (24 * t) c r := by
        funext q
        unfold flR upd
        by_cases h : q = 24 * t + 6 * r + c
        · rw [if_neg (by omega), if_pos h, if_pos (by omega), show (q - 24 * t) / 6 = r by omega]
          rfl
        · by_cases h2 : 24 * t + 6 * (r + 1) + c ≤ q ∧ q < 24 * t + 24 ∧ (q - 24 * t) % 6 = c
          · rw [if_pos h2, if_pos (by omega)]
          · rw [if_neg h2, if_neg h, if_neg (by omega)]
      rw [e]
theorem fill_o {ta mo : Int32} {t : Nat} (ht : ta = nI t) (t4 : t < 4) : ∀ (n c : Nat) (w : Nat → Int32), c ≤ 6 → 6 < c + n → spIter (fun _ _ => default) (x_X1_fill_b2 ta mo) n c w = flC w mo (24 * t) c := by
  intro n
  induction n with
  | zero => intro k w h1 h2; omega
  | succ n ih =>
    intro c w h1 h2
    show x_X1_fill_b2 ta mo (spIter (fun _ _ => default) (x_X1_fill_b2 ta mo) n) c w = _
    generalize spIter (fun _ _ => default) (x_X1_fill_b2 ta mo) n = R at ih ⊢
    unfold x_X1_fill_b2 x_X1_fill_j39
    by_cases d : 6 ≤ c
    · have e : flC w mo (24 * t) c = w := by
        funext q
        unfold flC
        rw [if_neg (by omega)]
      rw [if_pos d, e]
    · have rb : 0 < tRad c := by
        rcases (show c = 0 ∨ c = 1 ∨ c = 2 ∨ c = 3 ∨ c = 4 ∨ c = 5 by omega) with rfl | rfl | rfl | rfl | rfl | rfl <;> decide
      rw [if_neg d, spLet_x, if_pos rb, ← lesser_lt, fill_i ht t4 c (by omega) R 5 0 w (by omega) (by omega), ih (c + 1) _ (by omega) (by omega)]
      funext q
      unfold flC flR
      by_cases h2 : 24 * t ≤ q ∧ q < 24 * t + 24 ∧ c + 1 ≤ (q - 24 * t) % 6
      · rw [if_pos h2, if_pos (by omega)]
      · rw [if_neg h2]
        by_cases h3 : 24 * t + 6 * 0 + c ≤ q ∧ q < 24 * t + 24 ∧ (q - 24 * t) % 6 = c
        · rw [if_pos h3, if_pos (by omega), h3.2.2]
        · rw [if_neg h3, if_neg (by omega)]
theorem q_fillTable {iv : Nat → Int32} {av : Nat → Nat → Int32} {z : Nat → Int32} {n : Nat} (h : relSt iv av z) {ta mo : Int32} (h1 : okI ta 4) (h2 : okA mo 0 1000000) (svm svc svn : Int32) (zv : Nat → Int32) :
    ∃ A cv' w, m_fillTable svm z zv ta mo = (A, (m_keep svm z zv).1, 0, w, (m_keep svm z zv).2) ∧ x_X8_fillTable svc svn (av 0) ta mo = (A, (x_X8_saveN svc svn).1, (x_X8_saveN svc svn).2, cv') ∧ relSt iv (avu av 0 cv') w ∧ (bnd n z → bnd n w) := by
  obtain ⟨hn, hr⟩ := h
  have hG := hr.G
  have hc := hr.1
  obtain ⟨t1, t2⟩ := okI_n h1
  have t4 : ta.toNatClampNeg < 4 := t2
  have o : ∀ q, q < 47 ∨ 143 ≤ q → flM z mo (47 + 24 * ta.toNatClampNeg) 0 q = z q := fun q hq => by
    unfold flM
    rw [if_neg (by omega)]
  have hv : ∀ k, k < 96 → flC (av 0) mo (24 * ta.toNatClampNeg) 0 k = flM z mo (47 + 24 * ta.toNatClampNeg) 0 (47 + k) := fun k hk => by
    unfold flC flM
    by_cases e : 24 * ta.toNatClampNeg ≤ k ∧ k < 24 * ta.toNatClampNeg + 24
    · rw [if_pos (by omega), if_pos (by omega), show 47 + k - (47 + 24 * ta.toNatClampNeg) = k - 24 * ta.toNatClampNeg by omega]
    · rw [if_neg (by omega), if_neg (by omega)]
      exact hc.2.1 k hk
  have G : mG (flM z mo (47 + 24 * ta.toNatClampNeg) 0) := fun k hk => by
    by_cases e : 47 + 24 * ta.toNatClampNeg + 0 ≤ k ∧ k < 47 + 24 * ta.toNatClampNeg + 24
    · obtain ⟨m1, m2⟩ := mlh_tab k (by omega) (by omega)
      unfold flM
      rw [if_pos e, m1, m2]
      exact fV_r h2 (by omega) (by omega)
    · unfold flM
      rw [if_neg e]
      exact hG k hk
  have es := q_sum hv t1 t4
  refine ⟨m_sumOf_p (flM z mo (47 + 24 * ta.toNatClampNeg) 0) ta, flC (av 0) mo (24 * ta.toNatClampNeg) 0, flM z mo (47 + 24 * ta.toNatClampNeg) 0, ?_, ?_, ⟨?_, ?_⟩, fun hb => hb.up fun q hq => o q (by omega)⟩
  · unfold m_fillTable
    simp only [spLet_x]
    rw [in_1 (okI_4.mp h1), in_1 h2, if_neg (by decide), if_neg (by decide), fill_m ta mo _ 25 0 z (by omega) (by omega)]
  · have ef : x_X1_fill (av 0) ta mo = flC (av 0) mo (24 * ta.toNatClampNeg) 0 := fill_o t1 t4 7 0 (av 0) (by omega) (by omega)
    unfold x_X8_fillTable
    simp only [spLet_x, ef, es]
  · obtain ⟨a0, a1, a2, a3, a4, a5, a6, a7, a8, a9, a10⟩ := hn
    refine ⟨?_, ?_, ?_, ?_, ?_, ?_, ?_, ?_, ?_, ?_, ?_⟩ <;> (rw [o _ (by omega)]; assumption)
  · exact hr.re (cv' := flC (av 0) mo (24 * ta.toNatClampNeg) 0) ⟨by rw [o _ (by omega)]; exact hc.1, hv, fun k hk => by rw [o _ (by omega)]; exact hc.2.2.1 k hk, fun k hk => by rw [o _ (by omega)]; exact hc.2.2.2 k hk⟩ (hr.2.1.up fun q hq => o q (by omega)) G fun q hq => o q (by omega)
theorem q_fillTable_1 {z : Nat → Int32} {ta mo : Int32} (h1 : ¬ okI ta 4) (svm : Int32) (zv : Nat → Int32) : m_fillTable svm z zv ta mo = (0, svm, 1, z, zv) := by
  unfold m_fillTable m_fails
  simp only [spLet_x]
  rw [in_0 (fun k => h1 (okI_4.mpr k)), if_pos rfl]
theorem q_fillTable_2 {z : Nat → Int32} {ta mo : Int32} (h1 : okI ta 4) (h2 : ¬ okA mo 0 1000000) (svm : Int32) (zv : Nat → Int32) : m_fillTable svm z zv ta mo = (0, svm, 2, z, zv) := by
  unfold m_fillTable m_fails
  simp only [spLet_x]
  rw [in_1 (okI_4.mp h1), in_0 h2, if_neg (by decide), if_pos rfl]
