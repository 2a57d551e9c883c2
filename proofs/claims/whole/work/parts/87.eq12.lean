/-! both sides: what is kept for undo -/
def shv (w : Nat → Int32) (k : Nat) : Nat → Int32 := fun q => if k ≤ q ∧ q < 738 then w (q + 246) else w q
theorem shv_s (w : Nat → Int32) (k : Nat) (hk : k < 738) : shv (upd w k (w (k + 246))) (k + 1) = shv w k := by
  funext q
  unfold shv upd
  by_cases h : q = k
  · subst h
    rw [if_neg (by omega), if_pos rfl, if_pos (by omega)]
  · by_cases h2 : k + 1 ≤ q ∧ q < 738
    · rw [if_pos h2, if_neg (by omega), if_pos (by omega)]
    · rw [if_neg h2, if_neg h, if_neg (by omega)]
theorem keep_l1 (svc : Int32) (zs : Nat → Int32) : ∀ (n k : Nat) (w : Nat → Int32), k ≤ 738 → 738 < k + n → spIter (fun _ _ => default) (m_keep_b10 svc zs) n k w = m_keep_j49 zs (svc - 1) (shv w k) := by
  intro n
  induction n with
  | zero => intro k w h h1; omega
  | succ n ih =>
    intro k w h h1
    show m_keep_b10 svc zs (spIter (fun _ _ => default) (m_keep_b10 svc zs) n) k w = _
    generalize spIter (fun _ _ => default) (m_keep_b10 svc zs) n = R at ih ⊢
    unfold m_keep_b10
    simp only [spLet_x]
    by_cases c : 738 ≤ k
    · have e : shv w k = w := by
        funext q
        unfold shv
        rw [if_neg (by omega)]
      rw [if_pos c, e]
    · rw [if_neg c]
      have := ih (k + 1) (upd w k (w (k + 246))) (by omega) (by omega)
      rw [shv_s w k (by omega)] at this
      exact this
def cpv (zs w : Nat → Int32) (s k : Nat) : Nat → Int32 := fun q => if 246 * s + k ≤ q ∧ q < 246 * s + 246 then zs (q - 246 * s) else w q
theorem cpv_s (zs w : Nat → Int32) (s k : Nat) (hk : k < 246) : cpv zs (upd w (246 * s + k) (zs k)) s (k + 1) = cpv zs w s k := by
  funext q
  unfold cpv upd
  by_cases h : q = 246 * s + k
  · subst h
    rw [if_neg (by omega), if_pos rfl, if_pos (by omega)]
    exact congrArg _ (by omega)
  · by_cases h2 : 246 * s + (k + 1) ≤ q ∧ q < 246 * s + 246
    · rw [if_pos h2, if_pos (by omega)]
    · rw [if_neg h2, if_neg h, if_neg (by omega)]
theorem keep_l2 (zs : Nat → Int32) (sv : Int32) : ∀ (n k : Nat) (w : Nat → Int32), k ≤ 246 → 246 < k + n → spIter (fun _ _ => default) (m_keep_b51 zs sv) n k w = (nI (sv.toNatClampNeg + 1), cpv zs w sv.toNatClampNeg k) := by
  intro n
  induction n with
  | zero => intro k w h h1; omega
  | succ n ih =>
    intro k w h h1
    show m_keep_b51 zs sv (spIter (fun _ _ => default) (m_keep_b51 zs sv) n) k w = _
    generalize spIter (fun _ _ => default) (m_keep_b51 zs sv) n = R at ih ⊢
    unfold m_keep_b51
    simp only [spLet_x]
    by_cases c : 246 ≤ k
    · have e : cpv zs w sv.toNatClampNeg k = w := by
        funext q
        unfold cpv
        rw [if_neg (by omega)]
      rw [if_pos c, e]
    · rw [if_neg c]
      have := ih (k + 1) (upd w (246 * sv.toNatClampNeg + k) (zs k)) (by omega) (by omega)
      rw [cpv_s zs w _ k (by omega)] at this
      exact this
theorem keep_at {svc : Int32} {zs zv : Nat → Int32} {s : Nat} (hs : svc = nI s) (h4 : s ≤ 4) : (m_keep svc zs zv).1 = nI (if s = 4 then 4 else s + 1) ∧ (∀ q, q < 246 → (m_keep svc zs zv).2 (246 * (if s = 4 then 3 else s) + q) = zs q) ∧ ∀ q, q < 246 * (if s = 4 then 3 else s) → (m_keep svc zs zv).2 q = zv (if s = 4 then q + 246 else q) := by
  have e : svc.toNatClampNeg = s := by rw [hs, nI_clamp (by omega)]
  unfold m_keep
  rw [e]
  by_cases c : s = 4
  · simp only [if_pos c]
    have e3 : svc - 1 = nI 3 := by rw [hs, c]; rfl
    rw [keep_l1 svc zs 739 0 zv (by omega) (by omega), e3]
    unfold m_keep_j49
    rw [keep_l2 zs (nI 3) 247 0 _ (by omega) (by omega), nI_clamp (by omega)]
    refine ⟨rfl, fun q hq => ?_, fun q hq => ?_⟩
    · show cpv zs (shv zv 0) 3 0 (246 * 3 + q) = zs q
      unfold cpv
      rw [if_pos (by omega)]
      exact congrArg _ (by omega)
    · show cpv zs (shv zv 0) 3 0 q = zv (q + 246)
      unfold cpv shv
      rw [if_neg (by omega), if_pos (by omega)]
  · simp only [if_neg c]
    unfold m_keep_j49
    rw [keep_l2 zs svc 247 0 zv (by omega) (by omega), e]
    refine ⟨rfl, fun q hq => ?_, fun q hq => ?_⟩
    · show cpv zs zv s 0 (246 * s + q) = zs q
      unfold cpv
      rw [if_pos (by omega)]
      exact congrArg _ (by omega)
    · show cpv zs zv s 0 q = zv q
      unfold cpv
      rw [if_neg (by omega)]
/-- a class's state (its numbers and rows) and the cells -/
def relSt (iv : Nat → Int32) (av : Nat → Nat → Int32) (z : Nat → Int32) : Prop :=
  (iv 0 = z 7 ∧ iv 1 = z 8 ∧ iv 2 = z 9 ∧ iv 3 = z 11 ∧ iv 4 = z 0 ∧ iv 5 = z 1 ∧ iv 6 = z 2 ∧ iv 7 = z 3 ∧ iv 8 = z 4 ∧ iv 9 = z 6 ∧ iv 10 = z 5) ∧ relZ (iv 11) (iv 12) (iv 13) (iv 14) (iv 15) (av 0) (av 1) (av 2) (av 3) (av 4) (av 5) (av 6) (av 7) (av 8) z
theorem bnd.mono {m n : Nat} {z : Nat → Int32} (h : bnd m z) (hm : m ≤ n) : bnd n z := fun k hk => ⟨(h k hk).1, by have := (h k hk).2; omega⟩
/-- only the 246 cells count -/
theorem relZ.cong {cw zc go gc yg : Int32} {cv ce cs zf gt gk gv ys yl z w : Nat → Int32} (h : relZ cw zc go gc yg cv ce cs zf gt gk gv ys yl z) (e : ∀ q, q < 246 → w q = z q) : relZ cw zc go gc yg cv ce cs zf gt gk gv ys yl w := by
  obtain ⟨⟨a1, a2, a3, a4⟩, ⟨b1, b2⟩, ⟨o, c, c1, c2, c3, c4, c5, c6⟩, ⟨d1, d2, d3⟩, g, hb⟩ := h
  refine ⟨⟨by rw [e 10 (by omega)]; exact a1, fun k hk => by rw [e _ (by omega)]; exact a2 k hk, fun k hk => by rw [e _ (by omega)]; exact a3 k hk, fun k hk => by rw [e _ (by omega)]; exact a4 k hk⟩, ⟨by rw [e 18 (by omega)]; exact b1, fun k hk => by rw [e _ (by omega)]; exact b2 k hk⟩, ⟨o, c, c1, c2, c3, c4, by rw [e 143 (by omega)]; exact c5, fun i hi => ?_⟩, ⟨by rw [e 12 (by omega), e 13 (by omega)]; exact d1, fun k hk => by rw [e _ (by omega)]; exact d2 k hk, fun k hk => by rw [e _ (by omega)]; exact d3 k hk⟩, fun k hk => by rw [e k hk]; exact g k hk, by rw [e 11 (by omega)]; exact hb⟩
  rw [e _ (by omega), e _ (by omega), e _ (by omega)]
  exact c6 i hi
theorem relSt.cong {iv : Nat → Int32} {av : Nat → Nat → Int32} {z w : Nat → Int32} (h : relSt iv av z) (e : ∀ q, q < 246 → w q = z q) : relSt iv av w := by
  obtain ⟨⟨a0, a1, a2, a3, a4, a5, a6, a7, a8, a9, a10⟩, b⟩ := h
  exact ⟨⟨by rw [e 7 (by omega)]; exact a0, by rw [e 8 (by omega)]; exact a1, by rw [e 9 (by omega)]; exact a2, by rw [e 11 (by omega)]; exact a3, by rw [e 0 (by omega)]; exact a4, by rw [e 1 (by omega)]; exact a5, by rw [e 2 (by omega)]; exact a6, by rw [e 3 (by omega)]; exact a7, by rw [e 4 (by omega)]; exact a8, by rw [e 6 (by omega)]; exact a9, by rw [e 5 (by omega)]; exact a10⟩, b.cong e⟩
theorem bnd.cong {n : Nat} {z w : Nat → Int32} (h : bnd n z) (e : ∀ q, q < 246 → w q = z q) : bnd n w := fun k hk => by rw [e _ (by omega)]; exact h k hk
abbrev rowT : Type := (Nat → Nat) × (Nat → Int32) × (Nat → Nat → Int32)
/-- the class's ring of saved states and the reference's rows, the oldest first -/
def savR (svc svn : Int32) (ro : Nat → Option rowT) (svm : Int32) (zv : Nat → Int32) (n : Nat) : Prop :=
  ∃ s p : Nat, svc = nI s ∧ svm = nI s ∧ svn = nI p ∧ s ≤ 4 ∧ p < 4 ∧ ∀ j, j < s → ∃ a iv av, ro ((p + 4 - s + j) % 4) = some (a, iv, av) ∧ relSt iv av (fun q => zv (246 * j + q)) ∧ bnd n (fun q => zv (246 * j + q))
def rup (ro : Nat → Option rowT) (j : Nat) (r : rowT) : Nat → Option rowT := fun k => if k = j then some r else ro k
theorem save_n {svc svn : Int32} {s p : Nat} (hs : svc = nI s) (hp : svn = nI p) (h4 : s ≤ 4) (hp4 : p < 4) : x_X8_saveN svc svn = (nI (if s = 4 then 4 else s + 1), nI ((p + 1) % 4)) := by
  have hd : ∀ s, s ≤ 4 → ∀ p, p < 4 → x_X8_saveN (nI s) (nI p) = (nI (if s = 4 then 4 else s + 1), nI ((p + 1) % 4)) := by
    intro s hs p hp
    unfold x_X8_saveN
    simp only [spLet_x]
    rcases (show s = 0 ∨ s = 1 ∨ s = 2 ∨ s = 3 ∨ s = 4 by omega) with rfl | rfl | rfl | rfl | rfl <;> rcases (show p = 0 ∨ p = 1 ∨ p = 2 ∨ p = 3 by omega) with rfl | rfl | rfl | rfl <;> decide
  rw [hs, hp]
  exact hd s h4 p hp4
theorem q_save {svc svn svm : Int32} {ro : Nat → Option rowT} {zv z : Nat → Int32} {n : Nat} (h : savR svc svn ro svm zv n) {iv : Nat → Int32} {av : Nat → Nat → Int32} (hr : relSt iv av z) (hb : bnd n z) (a : Nat → Nat) :
    savR (x_X8_saveN svc svn).1 (x_X8_saveN svc svn).2 (rup ro svn.toNatClampNeg (a, iv, av)) (m_keep svm z zv).1 (m_keep svm z zv).2 n := by
  obtain ⟨s, p, e1, e2, e3, h4, hp4, hrows⟩ := h
  obtain ⟨k1, k2, k3⟩ := keep_at (zs := z) (zv := zv) e2 h4
  have ep : svn.toNatClampNeg = p := by rw [e3, nI_clamp (by omega)]
  rw [save_n e1 e3 h4 hp4, ep]
  by_cases c : s = 4
  · simp only [if_pos c] at k1 k2 k3 ⊢
    refine ⟨4, (p + 1) % 4, rfl, k1, rfl, by omega, by omega, fun j hj => ?_⟩
    by_cases hj3 : j = 3
    · refine ⟨a, iv, av, ?_, hr.cong fun q hq => by rw [hj3]; exact k2 q hq, hb.cong fun q hq => by rw [hj3]; exact k2 q hq⟩
      unfold rup
      rw [if_pos (by omega)]
    · obtain ⟨a', iv', av', r1, r2, r3⟩ := hrows (j + 1) (by omega)
      have ee : ∀ q, q < 246 → (m_keep svm z zv).2 (246 * j + q) = zv (246 * (j + 1) + q) := fun q hq => by
        rw [k3 _ (by omega)]
        exact congrArg _ (by omega)
      refine ⟨a', iv', av', ?_, r2.cong ee, r3.cong ee⟩
      unfold rup
      rw [if_neg (by omega), ← r1]
      exact congrArg _ (by omega)
  · simp only [if_neg c] at k1 k2 k3 ⊢
    refine ⟨s + 1, (p + 1) % 4, rfl, k1, rfl, by omega, by omega, fun j hj => ?_⟩
    by_cases hjs : j = s
    · refine ⟨a, iv, av, ?_, hr.cong fun q hq => by rw [hjs]; exact k2 q hq, hb.cong fun q hq => by rw [hjs]; exact k2 q hq⟩
      unfold rup
      rw [if_pos (by omega)]
    · obtain ⟨a', iv', av', r1, r2, r3⟩ := hrows j (by omega)
      have ee : ∀ q, q < 246 → (m_keep svm z zv).2 (246 * j + q) = zv (246 * j + q) := fun q hq => by rw [k3 _ (by omega)]
      refine ⟨a', iv', av', ?_, r2.cong ee, r3.cong ee⟩
      unfold rup
      rw [if_neg (by omega), ← r1]
      exact congrArg _ (by omega)
