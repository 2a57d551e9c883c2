/-! both sides: whole scripts -/
section SC
variable {xf zt : Nat → Int32} {tl : Int32}
/-- both have read the same orders, or stand at the same fault -/
def allR (M : roT) (C : scR) : Prop := (M.1 = 0 ∧ ∃ x, x ≤ 80 ∧ M.2.1 = nI x ∧ C.1 = nI x) ∨ (M.1 = 1 ∧ C.1 = -1 ∧ ∃ o, o ≤ 26 ∧ M.2.2.1 = nI o ∧ C.2.1 = nI o ∧ ∀ k, k < o → C.2.2.2.2.2.1 k = M.2.2.2.1 k ∧ C.2.2.2.2.2.2 k = M.2.2.2.2 k ∧ byt (M.2.2.2.1 k))
theorem all_c (h8 : tl.toNatClampNeg ≤ 80) (ht : tl = nI tl.toNatClampNeg) (hx : ∀ k, k < 80 → xf k = zt k) (hc : ∀ k, k < 80 → 0 ≤ (zt k).toInt) : ∀ (m a o : Nat) (sk sn : Int32) (zm zk fm ft : Nat → Int32), a ≤ tl.toNatClampNeg → tl.toNatClampNeg + 2 ≤ m + a → 3 * o ≤ a → (∀ k, k < o → fm k = zm k ∧ ft k = zk k ∧ byt (zm k)) →
    allR (spIter (fun _ _ _ _ _ => default) (m_readsAll_b12 tl zt) m 1 (nI a) (nI o) zm zk) (crun xf tl a (nI o) 0 sk sn fm ft) := by
  intro m
  induction m with
  | zero => intro a o sk sn zm zk fm ft h1 h2; omega
  | succ m ih =>
    intro a o sk sn zm zk fm ft h1 h2 h3 hk
    show allR (m_readsAll_b12 tl zt (spIter (fun _ _ _ _ _ => default) (m_readsAll_b12 tl zt) m) 1 (nI a) (nI o) zm zk) (crun xf tl a (nI o) 0 sk sn fm ft)
    have z1 : ¬ (1 : Int32) = 0 := by decide
    have em : ∀ (x o' : Int32) (zm' zk' : Nat → Int32), 0 < m → spIter (fun _ _ _ _ _ => default) (m_readsAll_b12 tl zt) m 0 x o' zm' zk' = (0, x, o', zm', zk') := fun x o' zm' zk' hm => by
      obtain ⟨m', rfl⟩ : ∃ q, m = q + 1 := ⟨m - 1, by omega⟩
      show m_readsAll_b12 tl zt (spIter (fun _ _ _ _ _ => default) (m_readsAll_b12 tl zt) m') 0 x o' zm' zk' = _
      generalize spIter (fun _ _ _ _ _ => default) (m_readsAll_b12 tl zt) m' = R
      unfold m_readsAll_b12
      rw [if_pos rfl]
    generalize spIter (fun _ _ _ _ _ => default) (m_readsAll_b12 tl zt) m = R at ih em ⊢
    obtain ⟨b, b1, b2, b3, b4, b5⟩ := sign_a (zt := zt) h8 h1
    have es := skip_c h8 hx (se := 0) (nI o) sk sn fm ft (Or.inl (Or.inl rfl)) (b - a) a b (by omega) b2 b3
    rw [es]
    unfold m_readsAll_b12
    rw [if_neg z1]
    simp only [spLet_x, b5]
    by_cases c : b < tl.toNatClampNeg
    · have hne : ¬ zt b = -1 := fun k => by
        have := hc b (by omega)
        rw [k] at this
        exact absurd this (by decide)
      rw [if_pos c, if_neg hne]
      rcases order_c h8 ht hx c (b4 c) (show 3 * o ≤ b by omega) sk sn zm zk fm ft with ⟨r1, x, r2, r3, r4⟩ | ⟨p', mask, num, r1, r2, r3, r4, r5⟩
      · rw [r1, em _ _ _ _ (by omega)]
        exact Or.inl ⟨rfl, x, r2, r3, r4⟩
      · rw [r4, r5]
        refine ih p' (o + 1) mask num (upd zm o mask) (upd zk o num) (upd fm o mask) (upd ft o num) r2 (by omega) (by omega) fun k hk2 => ?_
        by_cases e : k = o
        · rw [e, upd_s, upd_s, upd_s, upd_s]
          exact ⟨rfl, rfl, r3⟩
        · rw [upd_o _ _ _ e, upd_o _ _ _ e, upd_o _ _ _ e, upd_o _ _ _ e]
          exact hk k (by omega)
    · rw [if_neg c, if_pos rfl, crun_e (by omega), if_pos rfl]
      exact Or.inr ⟨rfl, rfl, o, by omega, rfl, rfl, hk⟩
theorem q_reads (h8 : tl.toNatClampNeg ≤ 80) (ht : tl = nI tl.toNatClampNeg) (hx : ∀ k, k < 80 → xf k = zt k) (hc : ∀ k, k < 80 → 0 ≤ (zt k).toInt) (sk sn : Int32) (zm zk fm ft : Nat → Int32) : allR (m_readsAll tl zt zm zk) (x_X4_read sk sn fm ft xf tl) :=
  all_c h8 ht hx hc 82 0 0 sk sn zm zk fm ft (by omega) (by omega) (by omega) fun k hk => by omega
/-- a faulty script: nothing changes -/
theorem q_script_F (h8 : tl.toNatClampNeg ≤ 80) (ht : tl = nI tl.toNatClampNeg) (hx : ∀ k, k < 80 → xf k = zt k) (hc : ∀ k, k < 80 → 0 ≤ (zt k).toInt) {sk sn : Int32} {fm ft : Nat → Int32} (h : ¬ (x_X4_read sk sn fm ft xf tl).1 = -1) (zm zk : Nat → Int32) (svm mm mr : Int32) (z zv zp : Nat → Int32) :
    ∃ A at' or' zm' zk' c e k n fm' ft', m_runScript svm tl mm mr z zv zt zp zm zk = (A, svm, 0, mm, mr, at', or', z, zv, zp, zm', zk') ∧ x_X8_runScriptF tl sk sn fm ft xf = (A, c, e, k, n, fm', ft') := by
  rcases q_reads h8 ht hx hc sk sn zm zk fm ft with ⟨a1, x, a2, a3, a4⟩ | ⟨a1, a2, -⟩
  · have em : m_runScript svm tl mm mr z zv zt zp zm zk = (-10 - nI x, svm, 0, mm, mr, (m_readsAll tl zt zm zk).2.1, (m_readsAll tl zt zm zk).2.2.1, z, zv, zp, (m_readsAll tl zt zm zk).2.2.2.1, (m_readsAll tl zt zm zk).2.2.2.2) := by
      unfold m_runScript
      rw [spLet_x, if_pos a1, a3]
    have ex : x_X8_runScriptF tl sk sn fm ft xf = (-10 - nI x, (x_X4_read sk sn fm ft xf tl).2) := by
      unfold x_X8_runScriptF
      rw [spLet_x, spLet_x, a4]
    exact ⟨_, _, _, _, _, _, _, _, _, _, _, em, ex⟩
  · exact absurd a2 h
theorem mot_e (fm : Nat → Int32) {k : Nat} (hk : k < 26) : x_X4_motionsOf fm (nI k) = fm k := by
  have e := nI_toInt (n := k) (by omega)
  have z26 : ((26 : Int32)).toInt = 26 := by decide
  unfold x_X4_motionsOf
  rw [if_neg (fun q => by have := (lt_i l_0).mp q; omega), if_neg (fun q => by have := (i_le z26).mp q; omega), nI_clamp (by omega)]
theorem tik_e (ft : Nat → Int32) {k : Nat} (hk : k < 26) : x_X4_ticksOf ft (nI k) = ft k := by
  have e := nI_toInt (n := k) (by omega)
  have z26 : ((26 : Int32)).toInt = 26 := by decide
  unfold x_X4_ticksOf
  rw [if_neg (fun q => by have := (lt_i l_0).mp q; omega), if_neg (fun q => by have := (i_le z26).mp q; omega), nI_clamp (by omega)]
theorem le_nI {r : Int32} {t k : Nat} (hr : r = nI t) (ht : t < 1000) (hk : k < 1000) : (r ≤ nI k) ↔ t ≤ k := by
  have e1 := nI_toInt (n := t) (by omega)
  have e2 := nI_toInt (n := k) (by omega)
  rw [hr, Int32.le_iff_toInt_le]
  omega
/-- one order's ticks -/
theorem ord_loop {ma ta cw zc mos : Int32} {cv ce cs zf : Nat → Int32} (hm : byt mos) (u : roT) {k2 t : Nat} (hmo : u.2.2.2.1 k2 = mos) (htk : u.2.2.2.2 k2 = nI t) (ht : t ≤ 99) (v2 : Int32) (R1 R2) : ∀ (n1 n2 k : Nat) (v mm mr : Int32) (z zp : Nat → Int32) (go gc yg : Int32) (gt gk gv ys yl : Nat → Int32) (b : Nat), k ≤ t → t < k + n1 → t < k + n2 → relZ cw zc go gc yg cv ce cs zf gt gk gv ys yl z → z 6 = ma → z 5 = ta → b + t < 1900000000 + k → bnd b z →
    ∃ mm' mr' w zp' go' gc' yg' gt' gk' gv' ys' yl', spIter (fun _ _ _ _ _ _ _ _ _ _ _ _ _ _ _ _ _ _ => default) (x_X8_runScriptG_b68 ma ta cw cv ce cs zc zf v2 k2 R1 mos (nI t)) n1 k (z 7) (z 8) (z 9) (z 11) (z 0) (z 1) (z 2) (z 3) (z 4) go gc gt gk gv yg ys yl = R1 (v2 + nI t) (k2 + 1) (w 7) (w 8) (w 9) (w 11) (w 0) (w 1) (w 2) (w 3) (w 4) go' gc' gt' gk' gv' yg' ys' yl' ∧
      spIter (fun _ _ _ _ _ _ => default) (m_runScript_b38 u k2 R2) n2 v k mm mr z zp = R2 (v + nI (t - k)) (k2 + 1) mm' mr' w zp' ∧ relZ cw zc go' gc' yg' cv ce cs zf gt' gk' gv' ys' yl' w ∧ w 6 = ma ∧ w 5 = ta ∧ bnd (b + (t - k)) w := by
  intro n1
  induction n1 with
  | zero => intro n2 k v mm mr z zp go gc yg gt gk gv ys yl b h1 h2; omega
  | succ n1 ih =>
    intro n2 k v mm mr z zp go gc yg gt gk gv ys yl b h1 h2 h2' hr h6 h5 hb hB
    obtain ⟨m2, rfl⟩ : ∃ m, n2 = m + 1 := ⟨n2 - 1, by omega⟩
    show ∃ mm' mr' w zp' go' gc' yg' gt' gk' gv' ys' yl', x_X8_runScriptG_b68 ma ta cw cv ce cs zc zf v2 k2 R1 mos (nI t) (spIter (fun _ _ _ _ _ _ _ _ _ _ _ _ _ _ _ _ _ _ => default) (x_X8_runScriptG_b68 ma ta cw cv ce cs zc zf v2 k2 R1 mos (nI t)) n1) k (z 7) (z 8) (z 9) (z 11) (z 0) (z 1) (z 2) (z 3) (z 4) go gc gt gk gv yg ys yl = R1 (v2 + nI t) (k2 + 1) (w 7) (w 8) (w 9) (w 11) (w 0) (w 1) (w 2) (w 3) (w 4) go' gc' gt' gk' gv' yg' ys' yl' ∧
      m_runScript_b38 u k2 R2 (spIter (fun _ _ _ _ _ _ => default) (m_runScript_b38 u k2 R2) m2) v k mm mr z zp = R2 (v + nI (t - k)) (k2 + 1) mm' mr' w zp' ∧ relZ cw zc go' gc' yg' cv ce cs zf gt' gk' gv' ys' yl' w ∧ w 6 = ma ∧ w 5 = ta ∧ bnd (b + (t - k)) w
    have ih2 := ih m2 (k + 1)
    clear ih
    generalize spIter (fun _ _ _ _ _ _ _ _ _ _ _ _ _ _ _ _ _ _ => default) (x_X8_runScriptG_b68 ma ta cw cv ce cs zc zf v2 k2 R1 mos (nI t)) n1 = Q1 at ih2 ⊢
    generalize spIter (fun _ _ _ _ _ _ => default) (m_runScript_b38 u k2 R2) m2 = Q2 at ih2 ⊢
    unfold x_X8_runScriptG_b68 m_runScript_b38
    rw [htk, nI_clamp (show t < 2147483648 by omega), hmo]
    have el := le_nI (r := nI t) (t := t) (k := k) rfl (by omega) (by omega)
    by_cases c : t ≤ k
    · rw [if_pos (el.mpr c), if_pos c, spLet_x, show t - k = 0 by omega]
      exact ⟨mm, mr, z, zp, go, gc, yg, gt, gk, gv, ys, yl, rfl, by rw [show nI 0 = (0 : Int32) from rfl, Int32.add_zero], hr, h6, h5, hB.o' (by omega)⟩
    · rw [if_neg (fun q => c (el.mp q)), if_neg c]
      obtain ⟨go1, gc1, gt1, gk1, gv1, yg1, ys1, yl1, e1, r1, ⟨f5, f6⟩, B1⟩ := q_tick hr hm mm mr zp
      rw [h6, h5] at e1
      have B2 := B1 b (by omega) hB
      rw [e1]
      simp only [spLet_x]
      generalize m_tick mm mr z zp mos = T at r1 f5 f6 B2 ⊢
      obtain ⟨a1, a2, a3, a4, a5, a6, a7, a8, a9, a10, a11, a12, p1, p2, p3, p4, p5, p6⟩ := ih2 (v + 1) T.2.1 T.2.2.1 T.2.2.2.1 T.2.2.2.2 go1 gc1 yg1 gt1 gk1 gv1 ys1 yl1 (b + 1) (by omega) (by omega) (by omega) r1 (by rw [f6, h6]) (by rw [f5, h5]) (by omega) B2
      refine ⟨a1, a2, a3, a4, a5, a6, a7, a8, a9, a10, a11, a12, p1, ?_, p3, p4, p5, p6.o' (by omega)⟩
      rw [p2, Int32.add_assoc, show (1 : Int32) + nI (t - (k + 1)) = nI (t - k) by rw [show (1 : Int32) = nI 1 from rfl, show t - k = 1 + (t - (k + 1)) by omega]; exact nadd rfl rfl]
/-- all orders -/
theorem scr_loop {ma ta cw zc : Int32} {cv ce cs zf : Nat → Int32} (u : roT) (uc : scR) (ks : Int32 × Int32) (km : Int32 × (Nat → Int32)) {o : Nat} (ho : o ≤ 26) (h1 : u.2.2.1 = nI o) (h2 : uc.2.1 = nI o) (hk : ∀ k, k < o → uc.2.2.2.2.2.1 k = u.2.2.2.1 k ∧ uc.2.2.2.2.2.2 k = u.2.2.2.2 k ∧ byt (u.2.2.2.1 k)) (hz : zkP u.2.2.2.2 o) : ∀ (n1 n2 k : Nat) (v mm mr : Int32) (z zp : Nat → Int32) (go gc yg : Int32) (gt gk gv ys yl : Nat → Int32) (b : Nat), k ≤ o → o < k + n1 → o < k + n2 → relZ cw zc go gc yg cv ce cs zf gt gk gv ys yl z → z 6 = ma → z 5 = ta → b + 99 * o < 1800000000 + 99 * k → bnd b z →
    ∃ A mm' mr' w zp' go' gc' yg' gt' gk' gv' ys' yl', spIter (fun _ _ _ _ _ _ _ _ _ _ _ _ _ _ _ _ _ _ _ => default) (x_X8_runScriptG_b34 ma ta cw cv ce cs zc zf uc ks) n1 v k (z 7) (z 8) (z 9) (z 11) (z 0) (z 1) (z 2) (z 3) (z 4) go gc gt gk gv yg ys yl = (A, ks.1, ks.2, w 7, w 8, w 9, w 11, w 0, w 1, w 2, w 3, w 4, go', gc', gt', gk', gv', yg', ys', yl', uc.2.1, uc.2.2.1, uc.2.2.2.1, uc.2.2.2.2.1, uc.2.2.2.2.2.1, uc.2.2.2.2.2.2) ∧
      spIter (fun _ _ _ _ _ _ => default) (m_runScript_b28 u km) n2 v k mm mr z zp = (A, km.1, 0, mm', mr', u.2.1, u.2.2.1, w, km.2, zp', u.2.2.2.1, u.2.2.2.2) ∧ relZ cw zc go' gc' yg' cv ce cs zf gt' gk' gv' ys' yl' w ∧ w 6 = ma ∧ w 5 = ta ∧ bnd (b + 99 * (o - k)) w := by
  intro n1
  induction n1 with
  | zero => intro n2 k v mm mr z zp go gc yg gt gk gv ys yl b h1 h2; omega
  | succ n1 ih =>
    intro n2 k v mm mr z zp go gc yg gt gk gv ys yl b g1 g2 g2' hr h6 h5 hb hB
    obtain ⟨m2, rfl⟩ : ∃ m, n2 = m + 1 := ⟨n2 - 1, by omega⟩
    show ∃ A mm' mr' w zp' go' gc' yg' gt' gk' gv' ys' yl', x_X8_runScriptG_b34 ma ta cw cv ce cs zc zf uc ks (spIter (fun _ _ _ _ _ _ _ _ _ _ _ _ _ _ _ _ _ _ _ => default) (x_X8_runScriptG_b34 ma ta cw cv ce cs zc zf uc ks) n1) v k (z 7) (z 8) (z 9) (z 11) (z 0) (z 1) (z 2) (z 3) (z 4) go gc gt gk gv yg ys yl = (A, ks.1, ks.2, w 7, w 8, w 9, w 11, w 0, w 1, w 2, w 3, w 4, go', gc', gt', gk', gv', yg', ys', yl', uc.2.1, uc.2.2.1, uc.2.2.2.1, uc.2.2.2.2.1, uc.2.2.2.2.2.1, uc.2.2.2.2.2.2) ∧
      m_runScript_b28 u km (spIter (fun _ _ _ _ _ _ => default) (m_runScript_b28 u km) m2) v k mm mr z zp = (A, km.1, 0, mm', mr', u.2.1, u.2.2.1, w, km.2, zp', u.2.2.2.1, u.2.2.2.2) ∧ relZ cw zc go' gc' yg' cv ce cs zf gt' gk' gv' ys' yl' w ∧ w 6 = ma ∧ w 5 = ta ∧ bnd (b + 99 * (o - k)) w
    have ih2 := ih m2 (k + 1)
    clear ih
    generalize spIter (fun _ _ _ _ _ _ _ _ _ _ _ _ _ _ _ _ _ _ _ => default) (x_X8_runScriptG_b34 ma ta cw cv ce cs zc zf uc ks) n1 = Q1 at ih2 ⊢
    generalize spIter (fun _ _ _ _ _ _ => default) (m_runScript_b28 u km) m2 = Q2 at ih2 ⊢
    unfold x_X8_runScriptG_b34 m_runScript_b28
    have el := le_nI (r := uc.2.1) (t := o) (k := k) h2 (by omega) (by omega)
    rw [h1, nI_clamp (show o < 2147483648 by omega)]
    by_cases c : o ≤ k
    · rw [if_pos (el.mpr c), if_pos c]
      exact ⟨v, mm, mr, z, zp, go, gc, yg, gt, gk, gv, ys, yl, rfl, rfl, hr, h6, h5, hB.o' (by omega)⟩
    · rw [if_neg (fun q => c (el.mp q)), if_neg c]
      obtain ⟨k1, k2, k3⟩ := hk k (by omega)
      obtain ⟨t1, t2⟩ := hz k (by omega)
      simp only [spLet_x, mot_e _ (show k < 26 by omega), tik_e _ (show k < 26 by omega)]
      rw [k1, k2]
      have e1 : spIter (fun _ _ _ _ _ _ _ _ _ _ _ _ _ _ _ _ _ _ => default) (x_X8_runScriptG_b68 ma ta cw cv ce cs zc zf v k Q1 (u.2.2.2.1 k) (u.2.2.2.2 k)) ((u.2.2.2.2 k).toNatClampNeg + 1) 0 (z 7) (z 8) (z 9) (z 11) (z 0) (z 1) (z 2) (z 3) (z 4) go gc gt gk gv yg ys yl = spIter (fun _ _ _ _ _ _ _ _ _ _ _ _ _ _ _ _ _ _ => default) (x_X8_runScriptG_b68 ma ta cw cv ce cs zc zf v k Q1 (u.2.2.2.1 k) (nI (u.2.2.2.2 k).toNatClampNeg)) ((u.2.2.2.2 k).toNatClampNeg + 1) 0 (z 7) (z 8) (z 9) (z 11) (z 0) (z 1) (z 2) (z 3) (z 4) go gc gt gk gv yg ys yl := by rw [← t1]
      obtain ⟨mm', mr', w, zp', go', gc', yg', gt', gk', gv', ys', yl', p1, p2, p3, p4, p5, p6⟩ := ord_loop (cw := cw) (zc := zc) (cv := cv) (ce := ce) (cs := cs) (zf := zf) k3 u (k2 := k) (t := (u.2.2.2.2 k).toNatClampNeg) rfl t1 t2 v Q1 Q2 ((u.2.2.2.2 k).toNatClampNeg + 1) 100 0 v mm mr z zp go gc yg gt gk gv ys yl b (by omega) (by omega) (by omega) hr h6 h5 (by omega) hB
      rw [e1, p1, p2]
      obtain ⟨a0, a1, a2, a3, a4, a5, a6, a7, a8, a9, a10, a11, a12, q1, q2, q3, q4, q5, q6⟩ := ih2 (v + nI (u.2.2.2.2 k).toNatClampNeg) mm' mr' w zp' go' gc' yg' gt' gk' gv' ys' yl' (b + ((u.2.2.2.2 k).toNatClampNeg - 0)) (by omega) (by omega) (by omega) p3 p4 p5 (by omega) p6
      rw [h1] at q2
      exact ⟨a0, a1, a2, a3, a4, a5, a6, a7, a8, a9, a10, a11, a12, q1, by rw [Nat.sub_zero]; exact q2, q3, q4, q5, q6.o' (by omega)⟩
theorem q_script_G (h8 : tl.toNatClampNeg ≤ 80) (ht : tl = nI tl.toNatClampNeg) (hx : ∀ k, k < 80 → xf k = zt k) (hc : ∀ k, k < 80 → 0 ≤ (zt k).toInt) {sk sn : Int32} {fm ft : Nat → Int32} (h : (x_X4_read sk sn fm ft xf tl).1 = -1) {iv : Nat → Int32} {av : Nat → Nat → Int32} {z : Nat → Int32} {b : Nat} (hr : relSt iv av z) (hb : b < 1000000000) (hB : bnd b z) (zm zk : Nat → Int32) (svm svc svn mm mr : Int32) (zv zp : Nat → Int32) :
    ∃ A mm' mr' at' or' w zp' zm' zk' go gc yg gt gk gv ys yl c e k n fm' ft', m_runScript svm tl mm mr z zv zt zp zm zk = (A, (m_keep svm z zv).1, 0, mm', mr', at', or', w, (m_keep svm z zv).2, zp', zm', zk') ∧
      x_X8_runScriptG svc svn tl (iv 0) (iv 1) (iv 2) (iv 3) (iv 4) (iv 5) (iv 6) (iv 7) (iv 8) (iv 9) (iv 10) (iv 11) (av 0) (av 1) (av 2) (iv 12) (av 3) (iv 13) (iv 14) (av 4) (av 5) (av 6) (iv 15) (av 7) (av 8) sk sn fm ft xf = (A, (x_X8_saveN svc svn).1, (x_X8_saveN svc svn).2, w 7, w 8, w 9, w 11, w 0, w 1, w 2, w 3, w 4, go, gc, gt, gk, gv, yg, ys, yl, c, e, k, n, fm', ft') ∧
      relSt (ivT iv w go gc yg) (avT av gt gk gv ys yl) w ∧ bnd (b + 2574) w := by
  obtain ⟨⟨a0, a1, a2, a3, a4, a5, a6, a7, a8, a9, a10⟩, hr2⟩ := hr
  have z1 : ¬ (1 : Int32) = 0 := by decide
  rcases q_reads h8 ht hx hc sk sn zm zk fm ft with ⟨c1, x, c2, c3, c4⟩ | ⟨c1, c2, o, ho, c3, c4, c5⟩
  · rw [c4] at h
    have := nI_toInt (n := x) (by omega)
    rw [h] at this
    exact absurd this (by rw [show ((-1 : Int32)).toInt = -1 by decide]; omega)
  · obtain ⟨y1, y2, y3, y4⟩ := readsAll_q (tl := tl) (zt := zt) (zm := zm) (zk := zk) rfl h8
    have y3' : zkP (m_readsAll tl zt zm zk).2.2.2.2 o := by
      rw [c3, nI_clamp (by omega)] at y3
      exact y3
    obtain ⟨A, mm', mr', w, zp', go, gc, yg, gt, gk, gv, ys, yl, e1, e2, e3, e4, e5, e6⟩ := scr_loop (ma := z 6) (ta := z 5) (m_readsAll tl zt zm zk) (x_X4_read sk sn fm ft xf tl) (x_X8_saveN svc svn) (m_keep svm z zv) ho c3 c4 c5 y3' ((x_X4_read sk sn fm ft xf tl).2.1.toNatClampNeg + 1) 27 0 0 mm mr z zp (iv 13) (iv 14) (iv 15) (av 4) (av 5) (av 6) (av 7) (av 8) b (by omega) (by rw [c4, nI_clamp (by omega)]; omega) (by omega) hr2 rfl rfl (by omega) hB
    refine ⟨A, mm', mr', (m_readsAll tl zt zm zk).2.1, (m_readsAll tl zt zm zk).2.2.1, w, zp', (m_readsAll tl zt zm zk).2.2.2.1, (m_readsAll tl zt zm zk).2.2.2.2, go, gc, yg, gt, gk, gv, ys, yl, (x_X4_read sk sn fm ft xf tl).2.1, (x_X4_read sk sn fm ft xf tl).2.2.1, (x_X4_read sk sn fm ft xf tl).2.2.2.1, (x_X4_read sk sn fm ft xf tl).2.2.2.2.1, (x_X4_read sk sn fm ft xf tl).2.2.2.2.2.1, (x_X4_read sk sn fm ft xf tl).2.2.2.2.2.2, ?_, ?_, relSt_T e3 (by rw [e4, a9]) (by rw [e5, a10]), e6.o' (by omega)⟩
    · unfold m_runScript
      rw [spLet_x, if_neg (by rw [c1]; exact z1), spLet_x, e2]
    · unfold x_X8_runScriptG
      rw [a0, a1, a2, a3, a4, a5, a6, a7, a8, a9, a10]
      rw [spLet_x, spLet_x, spLet_x, e1]
end SC
