def m_isMotions (mos : Int32) : Int32 :=
  spLet (m_in mos (0 : Int32) (255 : Int32)) (fun r_1 => if r_1 = 0 then (0 : Int32) else (if ((mos &&& (mos >>> ((1 : Int32) &&& 31))) &&& (85 : Int32)) = 0 then (1 : Int32) else (0 : Int32)))
set_option maxHeartbeats 1000000 in
set_option maxRecDepth 100000 in
theorem c_X9_isMotions (l : Launch) (dC : Nat → ClassId) (dI : Nat → Nat → Nat) (cyI : ClassId) (mos : Int32) : Met l yX9_isMotions wqX9_isMotions ({ frames := 1, cells := 0, slots := 0, locals := 22 } : Room) (va_Pc [.int mos] (pB (dC, dI) [] [] eM)) (vp_Si (fun r => r = (m_isMotions mos) ∧ (r = 0 ∨ r = 1))) 0 0 aF := by
  refine Met.ofW (cc := cX9_isMotions) (maxL := 1) (ret := (some .boolean)) (by decide) rfl ?_
  intro p e s m args below meth c s₁ B hml hv
  obtain ⟨rfl, hP, hK, he⟩ := hv
  have hx := B.exec
  have hb := B.bytes
  have hr := B.returns
  have hts := atoms_spec (ws := wqX9_isMotions) B.pre
  have hown : s.vm.findClass RX9 = some m.cls := findClass_of_methodNamed B.named
  have hlocks := B.notSynchronized
  have hS : va_S aF s.heap s.heap [] := va_S.rf
  have hP : va_P (dC, dI) vwCl [] s.heap := hP
  have hl := lv_entry ([.int mos] : List Value) (n := 1) (Nat.le_of_ble_eq_true rfl)
  rw [lg_entry_eq]
  generalize (lg_sl ([.int mos] : List Value) ++ List.replicate (1 - (lg_sl ([.int mos] : List Value)).length) Slot.unset).toArray = ls at hl ⊢
  have hl : lv_has ls 1 [(0, .int mos)] := hl
  have hE : m_isMotions mos = m_isMotions mos := rfl
  refine lv_iload_n hx hb dX9_isMotions_0 rfl (lv_at hl 0 rfl) ?_
  refine lv_iconst (v := 0) hx hb dX9_isMotions_1 (by decide) ?_
  refine lv_sipush (v := 255) hx hb dX9_isMotions_2 (by decide) ?_
  refine vp_callSi (W.runS (As := [.int mos, .int (0 : Int32), .int (255 : Int32)]) (rest := []) ⟨hx, hb, hml, hown, hts⟩ (c_X9_in l dC dI cyI mos (0 : Int32) (255 : Int32)) (va_cwS 3 hts (gBS b_182 b_183 b_5 b_184) rfl rfl rfl (by decide +kernel) ⟨Nat.le_of_ble_eq_true rfl, Nat.le_of_ble_eq_true rfl⟩) (pre_s eM_ok he hS hP hK) rfl rfl hl.1 rfl (lv_room (Nat.le_of_ble_eq_true rfl)) dX9_isMotions_5 ⟨Nat.zero_le _, Nat.zero_le _⟩) (fun r_1 hr_1 => ?_)
  obtain ⟨hr_1, hbr_1⟩ := hr_1
  have hE := hE.trans (spLet_eq hr_1)
  refine lv_if_eq (tgt := 26) hx hb dX9_isMotions_8 (by decide) (fun c_2 => ?_) (fun c_2 => ?_)
  ·
    have hE := hE.trans (if_pos c_2)
    refine lv_iconst (v := 0) hx hb dX9_isMotions_26 (by decide) ?_
    exact W.zret (v := (0 : Int32)) hx hb hr rfl (fun t ht hW => ⟨_, rfl, ⟨hE.symm, (by decide)⟩, ht⟩) (fun q h => by cases h) dX9_isMotions_27
  ·
    have hE := hE.trans (if_neg c_2)
    refine lv_iload_n hx hb dX9_isMotions_11 rfl (lv_at hl 0 rfl) ?_
    refine lv_iload_n hx hb dX9_isMotions_12 rfl (lv_at hl 0 rfl) ?_
    refine lv_iconst (v := 1) hx hb dX9_isMotions_13 (by decide) ?_
    refine lv_ishr hx hb dX9_isMotions_14 ?_
    refine lv_iand hx hb dX9_isMotions_15 ?_
    refine lv_bipush (v := 85) hx hb dX9_isMotions_16 (by decide) ?_
    refine lv_iand hx hb dX9_isMotions_18 ?_
    refine lv_if_ne (tgt := 26) hx hb dX9_isMotions_19 (by decide) (fun c_3 => ?_) (fun c_3 => ?_)
    ·
      have hE := hE.trans (if_neg c_3)
      refine lv_iconst (v := 0) hx hb dX9_isMotions_26 (by decide) ?_
      exact W.zret (v := (0 : Int32)) hx hb hr rfl (fun t ht hW => ⟨_, rfl, ⟨hE.symm, (by decide)⟩, ht⟩) (fun q h => by cases h) dX9_isMotions_27
    ·
      have hE := hE.trans (if_pos c_3)
      refine lv_iconst (v := 1) hx hb dX9_isMotions_22 (by decide) ?_
      refine lv_goto (tgt := 27) hx hb dX9_isMotions_23 (by decide) ?_
      exact W.zret (v := (1 : Int32)) hx hb hr rfl (fun t ht hW => ⟨_, rfl, ⟨hE.symm, (by decide)⟩, ht⟩) (fun q h => by cases h) dX9_isMotions_27
def m_run_j22 (svc : Int32) (mm : Int32) (mr : Int32) (zs : Nat → Int32) (zv : Nat → Int32) (zp : Nat → Int32) : Int32 × Int32 × Int32 × Int32 × Int32 × (Nat → Int32) × (Nat → Int32) × (Nat → Int32) :=
  spLet (m_fails (1 : Int32)) (fun u_3 => ((u_3.1), svc, (u_3.2), mm, mr, zs, zv, zp))
def m_run_j57 (v3_37 : Int32) (k4_37 : Nat) (rec37 : Int32 → Nat → Int32 → Int32 → (Nat → Int32) → (Nat → Int32) → (Int32 × Int32 × Int32 × Int32 × Int32 × (Nat → Int32) × (Nat → Int32) × (Nat → Int32))) (u_9 : Int32 × Int32 × Int32 × (Nat → Int32) × (Nat → Int32)) (t0_57 : Int32) : Int32 × Int32 × Int32 × Int32 × Int32 × (Nat → Int32) × (Nat → Int32) × (Nat → Int32) :=
  spLet ((v3_37 + t0_57)) (fun x_12 => rec37 x_12 (k4_37 + 1) (u_9.2.1) (u_9.2.2.1) (u_9.2.2.2.1) (u_9.2.2.2.2))
def m_run_b37 (mos : Int32) (tk : Int32) (u_7 : Int32 × (Nat → Int32)) (rec37 : Int32 → Nat → Int32 → Int32 → (Nat → Int32) → (Nat → Int32) → (Int32 × Int32 × Int32 × Int32 × Int32 × (Nat → Int32) × (Nat → Int32) × (Nat → Int32))) : Int32 → Nat → Int32 → Int32 → (Nat → Int32) → (Nat → Int32) → (Int32 × Int32 × Int32 × Int32 × Int32 × (Nat → Int32) × (Nat → Int32) × (Nat → Int32)) :=
  fun v3_37 k4_37 w0_6_37 w0_7_37 w1_a_37 w4_a_37 => if tk.toNatClampNeg ≤ k4_37 then ((v3_37, (u_7.1), (0 : Int32), w0_6_37, w0_7_37, w1_a_37, (u_7.2), w4_a_37)) else (spLet (m_tick w0_6_37 w0_7_37 w1_a_37 w4_a_37 mos) (fun u_9 => if (u_9.1) = 0 then (m_run_j57 v3_37 k4_37 rec37 u_9 (0 : Int32)) else (m_run_j57 v3_37 k4_37 rec37 u_9 (1 : Int32))))
def m_run (svc : Int32) (mm : Int32) (mr : Int32) (zs : Nat → Int32) (zv : Nat → Int32) (zp : Nat → Int32) (mos : Int32) (tk : Int32) : Int32 × Int32 × Int32 × Int32 × Int32 × (Nat → Int32) × (Nat → Int32) × (Nat → Int32) :=
  spLet (m_isMotions mos) (fun r_1 => if r_1 = 0 then (m_run_j22 svc mm mr zs zv zp) else (spLet (m_in tk (1 : Int32) (100 : Int32)) (fun r_5 => if r_5 = 0 then (m_run_j22 svc mm mr zs zv zp) else (spLet (m_keep svc zs zv) (fun u_7 => spIter (fun _ _ _ _ _ _ => default) (m_run_b37 mos tk u_7) (tk.toNatClampNeg + 1) (0 : Int32) 0 mm mr zs zp)))))
set_option maxHeartbeats 1000000 in
set_option maxRecDepth 100000 in
theorem c_X9_run (l : Launch) (dC : Nat → ClassId) (dI : Nat → Nat → Nat) (cyI : ClassId) (sz : Nat) (q0 : Nat) (q1 : Nat) (q2 : Nat) (q3 : Nat) (q4 : Nat) (q5 : Nat) (q6 : Nat) (svc : Int32) (tl : Int32) (cde : Int32) (mm : Int32) (mr : Int32) (ati : Int32) (ors : Int32) (zs : Nat → Int32) (zv : Nat → Int32) (zt : Nat → Int32) (zp : Nat → Int32) (zm : Nat → Int32) (zk : Nat → Int32) (mos : Int32) (tk : Int32) (hsv : svc = nI svc.toNatClampNeg) (hs4 : svc.toNatClampNeg ≤ 4) (hG : mG zs) : Met l yX9_run wqX9_run ({ frames := 12, cells := 0, slots := 0, locals := 263 } : Room) (va_Pc [.ref q0, .int mos, .int tk] (pC (dC, dI) [(q0, .inr (9, [.ref q1, .ref q2, .int svc, .ref q3, .int tl, .int cde, .int mm, .int mr, .ref q4, .int ati, .int ors, .ref q5, .ref q6])), (q1, .inl (cyI, 246, .inl zs)), (q2, .inl (cyI, 984, .inl zv)), (q3, .inl (cyI, 80, .inl zt)), (q4, .inl (cyI, 5, .inl zp)), (q5, .inl (cyI, 40, .inl zm)), (q6, .inl (cyI, 40, .inl zk))] [(cyI, .int)] eM sz)) (va_Qi (fun (r : Int32) (u : Int32 × Int32 × Int32 × Int32 × Int32 × (Nat → Int32) × (Nat → Int32) × (Nat → Int32)) => u = (m_run svc mm mr zs zv zp mos tk) ∧ r = u.1) (fun (u : Int32 × Int32 × Int32 × Int32 × Int32 × (Nat → Int32) × (Nat → Int32) × (Nat → Int32)) t => va_P (dC, dI) vwCl [(q0, .inr (9, [.ref q1, .ref q2, .int (u.2.1), .ref q3, .int tl, .int (u.2.2.1), .int (u.2.2.2.1), .int (u.2.2.2.2.1), .ref q4, .int ati, .int ors, .ref q5, .ref q6])), (q1, .inl (cyI, 246, .inl (u.2.2.2.2.2.1))), (q2, .inl (cyI, 984, .inl (u.2.2.2.2.2.2.1))), (q3, .inl (cyI, 80, .inl zt)), (q4, .inl (cyI, 5, .inl (u.2.2.2.2.2.2.2))), (q5, .inl (cyI, 40, .inl zm)), (q6, .inl (cyI, 40, .inl zk))] t.heap ∧ va_D (va_A [(q0, .inr (9, [.ref q1, .ref q2, .int svc, .ref q3, .int tl, .int cde, .int mm, .int mr, .ref q4, .int ati, .int ors, .ref q5, .ref q6])), (q1, .inl (cyI, 246, .inl zs)), (q2, .inl (cyI, 984, .inl zv)), (q3, .inl (cyI, 80, .inl zt)), (q4, .inl (cyI, 5, .inl zp)), (q5, .inl (cyI, 40, .inl zm)), (q6, .inl (cyI, 40, .inl zk))] sz) [(q0, .inr (9, [.ref q1, .ref q2, .int (u.2.1), .ref q3, .int tl, .int (u.2.2.1), .int (u.2.2.2.1), .int (u.2.2.2.2.1), .ref q4, .int ati, .int ors, .ref q5, .ref q6])), (q1, .inl (cyI, 246, .inl (u.2.2.2.2.2.1))), (q2, .inl (cyI, 984, .inl (u.2.2.2.2.2.2.1))), (q3, .inl (cyI, 80, .inl zt)), (q4, .inl (cyI, 5, .inl (u.2.2.2.2.2.2.2))), (q5, .inl (cyI, 40, .inl zm)), (q6, .inl (cyI, 40, .inl zk))]) (va_A [(q0, .inr (9, [.ref q1, .ref q2, .int svc, .ref q3, .int tl, .int cde, .int mm, .int mr, .ref q4, .int ati, .int ors, .ref q5, .ref q6])), (q1, .inl (cyI, 246, .inl zs)), (q2, .inl (cyI, 984, .inl zv)), (q3, .inl (cyI, 80, .inl zt)), (q4, .inl (cyI, 5, .inl zp)), (q5, .inl (cyI, 40, .inl zm)), (q6, .inl (cyI, 40, .inl zk))] sz)) 0 0 (va_A [(q0, .inr (9, [.ref q1, .ref q2, .int svc, .ref q3, .int tl, .int cde, .int mm, .int mr, .ref q4, .int ati, .int ors, .ref q5, .ref q6])), (q1, .inl (cyI, 246, .inl zs)), (q2, .inl (cyI, 984, .inl zv)), (q3, .inl (cyI, 80, .inl zt)), (q4, .inl (cyI, 5, .inl zp)), (q5, .inl (cyI, 40, .inl zm)), (q6, .inl (cyI, 40, .inl zk))] sz) := by
  refine Met.ofW (cc := cX9_run) (maxL := 5) (ret := (some .int)) (by decide) rfl ?_
  intro p e s m args below meth c s₁ B hml hv
  obtain ⟨rfl, hsz, hP, hK, hD0, he⟩ := hv
  have hx := B.exec
  have hb := B.bytes
  have hr := B.returns
  have hts := atoms_spec (ws := wqX9_run) B.pre
  have hown : s.vm.findClass RX9 = some m.cls := findClass_of_methodNamed B.named
  have hlocks := B.notSynchronized
  have w_0 := hts (Cond.fieldLink RX9 28 "CraneLimiterModel" "code" "I") (List.mem_cons_of_mem _ b_181)
  have i_X9 : ∀ w ∈ u_ws RX9 TX9 13, w ∈ wqX9_run := fun w h => List.mem_cons_of_mem _ (bX9 w h)
  subst hsz
  have hD := hD0.self (sz := s.heap.size)
  generalize hAe : va_A [(q0, .inr (9, [.ref q1, .ref q2, .int svc, .ref q3, .int tl, .int cde, .int mm, .int mr, .ref q4, .int ati, .int ors, .ref q5, .ref q6])), (q1, .inl (cyI, 246, .inl zs)), (q2, .inl (cyI, 984, .inl zv)), (q3, .inl (cyI, 80, .inl zt)), (q4, .inl (cyI, 5, .inl zp)), (q5, .inl (cyI, 40, .inl zm)), (q6, .inl (cyI, 40, .inl zk))] s.heap.size = A at hD he ⊢
  have hA : ∀ q : Nat, s.heap.size ≤ q → A q := fun q h => by rw [← hAe]; exact Or.inr h
  have hS : va_S A s.heap s.heap [] := va_S.rf
  have hP : va_P (dC, dI) vwCl [(q0, .inr (9, [.ref q1, .ref q2, .int svc, .ref q3, .int tl, .int cde, .int mm, .int mr, .ref q4, .int ati, .int ors, .ref q5, .ref q6])), (q1, .inl (cyI, 246, .inl zs)), (q2, .inl (cyI, 984, .inl zv)), (q3, .inl (cyI, 80, .inl zt)), (q4, .inl (cyI, 5, .inl zp)), (q5, .inl (cyI, 40, .inl zm)), (q6, .inl (cyI, 40, .inl zk))] s.heap := hP
  have hl := lv_entry ([.ref q0, .int mos, .int tk] : List Value) (n := 5) (Nat.le_of_ble_eq_true rfl)
  rw [lg_entry_eq]
  generalize (lg_sl ([.ref q0, .int mos, .int tk] : List Value) ++ List.replicate (5 - (lg_sl ([.ref q0, .int mos, .int tk] : List Value)).length) Slot.unset).toArray = ls at hl ⊢
  have hl : lv_has ls 5 [(0, .ref q0), (1, .int mos), (2, .int tk)] := hl
  have hE : m_run svc mm mr zs zv zp mos tk = m_run svc mm mr zs zv zp mos tk := rfl
  refine lv_aload_n hx hb dX9_run_0 rfl (lv_at hl 0 rfl) ?_
  refine lv_iconst (v := 0) hx hb dX9_run_1 (by decide) ?_
  refine va_put (D := (dC, dI)) (ci := 9) (v := .int (0 : Int32)) (ty := .int) (C := RX9) (T := TX9) (N := 13) hx hb hts i_X9 tyX9 tyX9_ok nmX9 hown hK hP hD hS 0 rfl rfl 5 (by decide) w_0 (fun _ h9 => h9) rfl (by decide +kernel) (rfl) (rfl) (Nat.le_of_ble_eq_true rfl) dX9_run_2 (fun H locs hP hD hS => ?_)
  have hP : va_P (dC, dI) vwCl [(q0, .inr (9, [.ref q1, .ref q2, .int svc, .ref q3, .int tl, .int (0 : Int32), .int mm, .int mr, .ref q4, .int ati, .int ors, .ref q5, .ref q6])), (q1, .inl (cyI, 246, .inl zs)), (q2, .inl (cyI, 984, .inl zv)), (q3, .inl (cyI, 80, .inl zt)), (q4, .inl (cyI, 5, .inl zp)), (q5, .inl (cyI, 40, .inl zm)), (q6, .inl (cyI, 40, .inl zk))] H := hP
  have hD : va_D A [(q0, .inr (9, [.ref q1, .ref q2, .int svc, .ref q3, .int tl, .int (0 : Int32), .int mm, .int mr, .ref q4, .int ati, .int ors, .ref q5, .ref q6])), (q1, .inl (cyI, 246, .inl zs)), (q2, .inl (cyI, 984, .inl zv)), (q3, .inl (cyI, 80, .inl zt)), (q4, .inl (cyI, 5, .inl zp)), (q5, .inl (cyI, 40, .inl zm)), (q6, .inl (cyI, 40, .inl zk))] := hD
  refine lv_iload_n hx hb dX9_run_5 rfl (lv_at hl 1 rfl) ?_
  refine vp_callSi (W.runS (As := [.int mos]) (rest := []) ⟨hx, hb, hml, hown, hts⟩ (c_X9_isMotions l dC dI cyI mos) (va_cwS 1 hts (gBS b_630 b_631 b_5 b_632) rfl rfl rfl (by decide +kernel) ⟨Nat.le_of_ble_eq_true rfl, Nat.le_of_ble_eq_true rfl⟩) (pre_s eM_ok he hS (hP.sub (ws' := []) [] rfl) (hK.sub (tys' := []) [] rfl)) rfl rfl hl.1 rfl (lv_room (Nat.le_of_ble_eq_true rfl)) dX9_run_6 ⟨Nat.zero_le _, Nat.zero_le _⟩) (fun r_1 hr_1 => ?_)
  obtain ⟨hr_1, hbr_1⟩ := hr_1
  have hE := hE.trans (spLet_eq hr_1)
  have J22 : ∀ (ls : Array Slot) (hl : lv_has ls 5 [(0, .ref q0)]) (hE : (m_run svc mm mr zs zv zp mos tk) = m_run_j22 svc mm mr zs zv zp), W p l e (headSpec wqX9_run ({ frames := 12, cells := 0, slots := 0, locals := 263 } : Room)).room s m ([.ref q0, .int mos, .int tk] : List Value).toArray below meth c H locs 0 0 (MQ below (va_Qi (fun (r : Int32) (u : Int32 × Int32 × Int32 × Int32 × Int32 × (Nat → Int32) × (Nat → Int32) × (Nat → Int32)) => u = (m_run svc mm mr zs zv zp mos tk) ∧ r = u.1) (fun (u : Int32 × Int32 × Int32 × Int32 × Int32 × (Nat → Int32) × (Nat → Int32) × (Nat → Int32)) t => va_P (dC, dI) vwCl [(q0, .inr (9, [.ref q1, .ref q2, .int (u.2.1), .ref q3, .int tl, .int (u.2.2.1), .int (u.2.2.2.1), .int (u.2.2.2.2.1), .ref q4, .int ati, .int ors, .ref q5, .ref q6])), (q1, .inl (cyI, 246, .inl (u.2.2.2.2.2.1))), (q2, .inl (cyI, 984, .inl (u.2.2.2.2.2.2.1))), (q3, .inl (cyI, 80, .inl zt)), (q4, .inl (cyI, 5, .inl (u.2.2.2.2.2.2.2))), (q5, .inl (cyI, 40, .inl zm)), (q6, .inl (cyI, 40, .inl zk))] t.heap ∧ va_D A [(q0, .inr (9, [.ref q1, .ref q2, .int (u.2.1), .ref q3, .int tl, .int (u.2.2.1), .int (u.2.2.2.1), .int (u.2.2.2.2.1), .ref q4, .int ati, .int ors, .ref q5, .ref q6])), (q1, .inl (cyI, 246, .inl (u.2.2.2.2.2.1))), (q2, .inl (cyI, 984, .inl (u.2.2.2.2.2.2.1))), (q3, .inl (cyI, 80, .inl zt)), (q4, .inl (cyI, 5, .inl (u.2.2.2.2.2.2.2))), (q5, .inl (cyI, 40, .inl zm)), (q6, .inl (cyI, 40, .inl zk))]) A) ([.ref q0, .int mos, .int tk] : List Value).toArray s 0 0 A) (F0 m 22 ls []) := by
    intro ls hl hE
    refine lv_aload_n hx hb dX9_run_22 rfl (lv_at hl 0 rfl) ?_
    refine lv_iconst (v := 1) hx hb dX9_run_23 (by decide) ?_
    refine mj_i (wr := []) (va_runV (As := [.int (1 : Int32)]) (rest := []) ⟨hx, hb, hml, hown, hts⟩ (c_X9_fails l dC dI cyI H.size q0 q1 q2 q3 q4 q5 q6 svc tl (0 : Int32) mm mr ati ors zs zv zt zp zm zk (1 : Int32)) (cwV 1 hts (gBV b_185 b_186 b_187 b_5 b_188) rfl rfl rfl (by decide +kernel) ⟨Nat.le_of_ble_eq_true rfl, Nat.le_of_ble_eq_true rfl⟩) (prm_v eM_ok he hS hP hD hK (va_free (wc := [(q0, .inr (9, [.ref q1, .ref q2, .int svc, .ref q3, .int tl, .int (0 : Int32), .int mm, .int mr, .ref q4, .int ati, .int ors, .ref q5, .ref q6])), (q1, .inl (cyI, 246, .inl zs)), (q2, .inl (cyI, 984, .inl zv)), (q3, .inl (cyI, 80, .inl zt)), (q4, .inl (cyI, 5, .inl zp)), (q5, .inl (cyI, 40, .inl zm)), (q6, .inl (cyI, 40, .inl zk))]) hD hS hA [0, 1, 2, 3, 4, 5, 6] rfl) 0 rfl rfl rfl) rfl rfl hl.1 rfl (lv_room (Nat.le_of_ble_eq_true rfl)) dX9_run_24 ⟨Nat.le_of_ble_eq_true rfl, Nat.le_of_ble_eq_true rfl⟩) hP hD hS hA [0, 1, 2, 3, 4, 5, 6] [] rfl rfl (by decide) (by decide) (fun r_4 u_3 H locs hw hP hD hS => ?_)
    obtain ⟨hu_3, rfl⟩ := hw
    have hE := hE.trans (spLet_eq hu_3)
    have hP : va_P (dC, dI) vwCl [(q0, .inr (9, [.ref q1, .ref q2, .int svc, .ref q3, .int tl, .int (u_3.2), .int mm, .int mr, .ref q4, .int ati, .int ors, .ref q5, .ref q6])), (q1, .inl (cyI, 246, .inl zs)), (q2, .inl (cyI, 984, .inl zv)), (q3, .inl (cyI, 80, .inl zt)), (q4, .inl (cyI, 5, .inl zp)), (q5, .inl (cyI, 40, .inl zm)), (q6, .inl (cyI, 40, .inl zk))] H := hP
    have hD : va_D A [(q0, .inr (9, [.ref q1, .ref q2, .int svc, .ref q3, .int tl, .int (u_3.2), .int mm, .int mr, .ref q4, .int ati, .int ors, .ref q5, .ref q6])), (q1, .inl (cyI, 246, .inl zs)), (q2, .inl (cyI, 984, .inl zv)), (q3, .inl (cyI, 80, .inl zt)), (q4, .inl (cyI, 5, .inl zp)), (q5, .inl (cyI, 40, .inl zm)), (q6, .inl (cyI, 40, .inl zk))] := hD
    exact W.iret (v := (u_3.1)) hx hb hr (fun t h9 hW => ⟨⟨(u_3.1), (((u_3.1), svc, (u_3.2), mm, mr, zs, zv, zp) : Int32 × Int32 × Int32 × Int32 × Int32 × (Nat → Int32) × (Nat → Int32) × (Nat → Int32)), rfl, ⟨hE.symm, rfl⟩, by rw [h9]; exact hP, hD⟩, hS.F h9⟩) hS.2.2 dX9_run_27
  refine lv_if_eq (tgt := 22) hx hb dX9_run_9 (by decide) (fun c_2 => ?_) (fun c_2 => ?_)
  ·
    have hE := hE.trans (if_pos c_2)
    exact J22 ls (lv_sub hl [0] rfl) hE
  ·
    have hE := hE.trans (if_neg c_2)
    refine lv_iload_n hx hb dX9_run_12 rfl (lv_at hl 2 rfl) ?_
    refine lv_iconst (v := 1) hx hb dX9_run_13 (by decide) ?_
    refine lv_bipush (v := 100) hx hb dX9_run_14 (by decide) ?_
    refine vp_callSi (W.runS (As := [.int tk, .int (1 : Int32), .int (100 : Int32)]) (rest := []) ⟨hx, hb, hml, hown, hts⟩ (c_X9_in l dC dI cyI tk (1 : Int32) (100 : Int32)) (va_cwS 3 hts (gBS b_182 b_183 b_5 b_184) rfl rfl rfl (by decide +kernel) ⟨Nat.le_of_ble_eq_true rfl, Nat.le_of_ble_eq_true rfl⟩) (pre_s eM_ok he hS (hP.sub (ws' := []) [] rfl) (hK.sub (tys' := []) [] rfl)) rfl rfl hl.1 rfl (lv_room (Nat.le_of_ble_eq_true rfl)) dX9_run_16 ⟨Nat.zero_le _, Nat.zero_le _⟩) (fun r_5 hr_5 => ?_)
    obtain ⟨hr_5, hbr_5⟩ := hr_5
    have hE := hE.trans (spLet_eq hr_5)
    refine lv_if_ne (tgt := 28) hx hb dX9_run_19 (by decide) (fun c_6 => ?_) (fun c_6 => ?_)
    ·
      have hE := hE.trans (if_neg c_6)
      have hk := in_n2 (n := 100) (by decide) (by decide) hr_5 (by assumption)
      refine lv_aload_n hx hb dX9_run_28 rfl (lv_at hl 0 rfl) ?_
      refine mj_v (wr := []) (va_runV (As := []) (rest := []) ⟨hx, hb, hml, hown, hts⟩ (c_X9_keep l dC dI cyI H.size q0 q1 q2 q3 q4 q5 q6 svc tl (0 : Int32) mm mr ati ors zs zv zt zp zm zk hsv hs4) (cwV 0 hts (gBV b_193 b_194 b_195 b_5 b_196) rfl rfl rfl (by decide +kernel) ⟨Nat.le_of_ble_eq_true rfl, Nat.le_of_ble_eq_true rfl⟩) (prm_v eM_ok he hS hP hD hK (va_free (wc := [(q0, .inr (9, [.ref q1, .ref q2, .int svc, .ref q3, .int tl, .int (0 : Int32), .int mm, .int mr, .ref q4, .int ati, .int ors, .ref q5, .ref q6])), (q1, .inl (cyI, 246, .inl zs)), (q2, .inl (cyI, 984, .inl zv)), (q3, .inl (cyI, 80, .inl zt)), (q4, .inl (cyI, 5, .inl zp)), (q5, .inl (cyI, 40, .inl zm)), (q6, .inl (cyI, 40, .inl zk))]) hD hS hA [0, 1, 2, 3, 4, 5, 6] rfl) 0 rfl rfl rfl) rfl rfl hl.1 rfl (lv_room (Nat.le_of_ble_eq_true rfl)) dX9_run_29 ⟨Nat.le_of_ble_eq_true rfl, Nat.le_of_ble_eq_true rfl⟩) hP hD hS hA [0, 1, 2, 3, 4, 5, 6] [] rfl rfl (by decide) (by decide) (fun u_7 H locs hw hP hD hS => ?_)
      have hu_7 := hw
      have hE := hE.trans (spLet_eq hu_7)
      have hP : va_P (dC, dI) vwCl [(q0, .inr (9, [.ref q1, .ref q2, .int (u_7.1), .ref q3, .int tl, .int (0 : Int32), .int mm, .int mr, .ref q4, .int ati, .int ors, .ref q5, .ref q6])), (q1, .inl (cyI, 246, .inl zs)), (q2, .inl (cyI, 984, .inl (u_7.2))), (q3, .inl (cyI, 80, .inl zt)), (q4, .inl (cyI, 5, .inl zp)), (q5, .inl (cyI, 40, .inl zm)), (q6, .inl (cyI, 40, .inl zk))] H := hP
      have hD : va_D A [(q0, .inr (9, [.ref q1, .ref q2, .int (u_7.1), .ref q3, .int tl, .int (0 : Int32), .int mm, .int mr, .ref q4, .int ati, .int ors, .ref q5, .ref q6])), (q1, .inl (cyI, 246, .inl zs)), (q2, .inl (cyI, 984, .inl (u_7.2))), (q3, .inl (cyI, 80, .inl zt)), (q4, .inl (cyI, 5, .inl zp)), (q5, .inl (cyI, 40, .inl zm)), (q6, .inl (cyI, 40, .inl zk))] := hD
      refine lv_iconst (v := 0) hx hb dX9_run_32 (by decide) ?_
      refine lv_istore_n (lv' := [(3, .int (0 : Int32)), (0, .ref q0), (1, .int mos), (2, .int tk)]) hx hb dX9_run_33 rfl hl (by decide) rfl (fun ls hl => ?_)
      refine lv_iconst (v := 0) hx hb dX9_run_34 (by decide) ?_
      refine lv_istore (lv' := [(4, .int (0 : Int32)), (3, .int (0 : Int32)), (0, .ref q0), (1, .int mos), (2, .int tk)]) hx hb dX9_run_35 hl (by decide) rfl (fun ls hl => ?_)
      have L37 : ∀ (n37 : Nat) (v3_37 : Int32) (k4_37 : Nat) (w0_6_37 : Int32) (w0_7_37 : Int32) (w1_a_37 : Nat → Int32) (w4_a_37 : Nat → Int32) (hi : mG w1_a_37 ∧ k4_37 ≤ tk.toNatClampNeg ∧ tk.toNatClampNeg < k4_37 + n37) (H : Heap) (locs : List Loc) (hP : va_P (dC, dI) vwCl [(q0, .inr (9, [.ref q1, .ref q2, .int (u_7.1), .ref q3, .int tl, .int (0 : Int32), .int w0_6_37, .int w0_7_37, .ref q4, .int ati, .int ors, .ref q5, .ref q6])), (q1, .inl (cyI, 246, .inl w1_a_37)), (q2, .inl (cyI, 984, .inl (u_7.2))), (q3, .inl (cyI, 80, .inl zt)), (q4, .inl (cyI, 5, .inl w4_a_37)), (q5, .inl (cyI, 40, .inl zm)), (q6, .inl (cyI, 40, .inl zk))] H) (hD : va_D A [(q0, .inr (9, [.ref q1, .ref q2, .int (u_7.1), .ref q3, .int tl, .int (0 : Int32), .int w0_6_37, .int w0_7_37, .ref q4, .int ati, .int ors, .ref q5, .ref q6])), (q1, .inl (cyI, 246, .inl w1_a_37)), (q2, .inl (cyI, 984, .inl (u_7.2))), (q3, .inl (cyI, 80, .inl zt)), (q4, .inl (cyI, 5, .inl w4_a_37)), (q5, .inl (cyI, 40, .inl zm)), (q6, .inl (cyI, 40, .inl zk))]) (hS : va_S A s.heap H locs) (ls : Array Slot) (hl : lv_has ls 5 [(0, .ref q0), (1, .int mos), (2, .int tk), (3, .int v3_37), (4, .int (nI k4_37))]) (hE : (m_run svc mm mr zs zv zp mos tk) = spIter (fun _ _ _ _ _ _ => default) (m_run_b37 mos tk u_7) n37 v3_37 k4_37 w0_6_37 w0_7_37 w1_a_37 w4_a_37), W p l e (headSpec wqX9_run ({ frames := 12, cells := 0, slots := 0, locals := 263 } : Room)).room s m ([.ref q0, .int mos, .int tk] : List Value).toArray below meth c H locs 0 0 (MQ below (va_Qi (fun (r : Int32) (u : Int32 × Int32 × Int32 × Int32 × Int32 × (Nat → Int32) × (Nat → Int32) × (Nat → Int32)) => u = (m_run svc mm mr zs zv zp mos tk) ∧ r = u.1) (fun (u : Int32 × Int32 × Int32 × Int32 × Int32 × (Nat → Int32) × (Nat → Int32) × (Nat → Int32)) t => va_P (dC, dI) vwCl [(q0, .inr (9, [.ref q1, .ref q2, .int (u.2.1), .ref q3, .int tl, .int (u.2.2.1), .int (u.2.2.2.1), .int (u.2.2.2.2.1), .ref q4, .int ati, .int ors, .ref q5, .ref q6])), (q1, .inl (cyI, 246, .inl (u.2.2.2.2.2.1))), (q2, .inl (cyI, 984, .inl (u.2.2.2.2.2.2.1))), (q3, .inl (cyI, 80, .inl zt)), (q4, .inl (cyI, 5, .inl (u.2.2.2.2.2.2.2))), (q5, .inl (cyI, 40, .inl zm)), (q6, .inl (cyI, 40, .inl zk))] t.heap ∧ va_D A [(q0, .inr (9, [.ref q1, .ref q2, .int (u.2.1), .ref q3, .int tl, .int (u.2.2.1), .int (u.2.2.2.1), .int (u.2.2.2.2.1), .ref q4, .int ati, .int ors, .ref q5, .ref q6])), (q1, .inl (cyI, 246, .inl (u.2.2.2.2.2.1))), (q2, .inl (cyI, 984, .inl (u.2.2.2.2.2.2.1))), (q3, .inl (cyI, 80, .inl zt)), (q4, .inl (cyI, 5, .inl (u.2.2.2.2.2.2.2))), (q5, .inl (cyI, 40, .inl zm)), (q6, .inl (cyI, 40, .inl zk))]) A) ([.ref q0, .int mos, .int tk] : List Value).toArray s 0 0 A) (F0 m 37 ls []) := by
        intro n37
        induction n37 with
        | zero =>
          intro v3_37 k4_37 w0_6_37 w0_7_37 w1_a_37 w4_a_37 hi H locs hP hD hS ls hl hE
          exact absurd hi (by omega)
        | succ n37 ih37 =>
          intro v3_37 k4_37 w0_6_37 w0_7_37 w1_a_37 w4_a_37 hi H locs hP hD hS ls hl hE
          have hE : (m_run svc mm mr zs zv zp mos tk) = m_run_b37 mos tk u_7 (spIter (fun _ _ _ _ _ _ => default) (m_run_b37 mos tk u_7) n37) v3_37 k4_37 w0_6_37 w0_7_37 w1_a_37 w4_a_37 := hE
          refine lv_iload hx hb dX9_run_37 (lv_at hl 4 rfl) ?_
          refine lv_iload_n hx hb dX9_run_39 rfl (lv_at hl 2 rfl) ?_
          refine lv_icmp_ge (tgt := 65) hx hb dX9_run_40 (by decide) (fun c_8 => ?_) (fun c_8 => ?_)
          ·
            have c_8 : tk.toNatClampNeg ≤ k4_37 := by
              have h1 : ((nI k4_37)) = nI k4_37 := rfl
              have h2 : (tk) = nI tk.toNatClampNeg := hk.1
              have h3 : (nI tk.toNatClampNeg ≤ nI k4_37) := by first | exact c_8 | (rw [← h1, ← h2]; exact c_8)
              exact (nI_leI (by omega) (by omega)).mp h3
            have hE := hE.trans (if_pos c_8)
            refine lv_iload_n hx hb dX9_run_65 rfl (lv_at hl 3 rfl) ?_
            exact W.iret (v := v3_37) hx hb hr (fun t h9 hW => ⟨⟨v3_37, ((v3_37, (u_7.1), (0 : Int32), w0_6_37, w0_7_37, w1_a_37, (u_7.2), w4_a_37) : Int32 × Int32 × Int32 × Int32 × Int32 × (Nat → Int32) × (Nat → Int32) × (Nat → Int32)), rfl, ⟨hE.symm, rfl⟩, by rw [h9]; exact hP, hD⟩, hS.F h9⟩) hS.2.2 dX9_run_66
          ·
            have c_8 : ¬ tk.toNatClampNeg ≤ k4_37 := by
              have h1 : ((nI k4_37)) = nI k4_37 := rfl
              have h2 : (tk) = nI tk.toNatClampNeg := hk.1
              have h3 : ¬ (nI tk.toNatClampNeg ≤ nI k4_37) := by first | exact c_8 | (rw [← h1, ← h2]; exact c_8)
              exact fun h => h3 ((nI_leI (by omega) (by omega)).mpr h)
            have hE := hE.trans (if_neg c_8)
            refine lv_iload_n hx hb dX9_run_43 rfl (lv_at hl 3 rfl) ?_
            refine lv_aload_n hx hb dX9_run_44 rfl (lv_at hl 0 rfl) ?_
            refine lv_iload_n hx hb dX9_run_45 rfl (lv_at hl 1 rfl) ?_
            refine mj_i (wr := []) (va_runV (As := [.int mos]) (rest := [.int v3_37]) ⟨hx, hb, hml, hown, hts⟩ (c_X9_tick l dC dI cyI H.size q0 q1 q2 q3 q4 q5 q6 (u_7.1) tl (0 : Int32) w0_6_37 w0_7_37 ati ors w1_a_37 (u_7.2) zt w4_a_37 zm zk mos hi.1) (cwV 1 hts (gBV b_633 b_634 b_635 b_5 b_636) rfl rfl rfl (by decide +kernel) ⟨Nat.le_of_ble_eq_true rfl, Nat.le_of_ble_eq_true rfl⟩) (prm_v eM_ok he hS hP hD hK (va_free (wc := [(q0, .inr (9, [.ref q1, .ref q2, .int (u_7.1), .ref q3, .int tl, .int (0 : Int32), .int w0_6_37, .int w0_7_37, .ref q4, .int ati, .int ors, .ref q5, .ref q6])), (q1, .inl (cyI, 246, .inl w1_a_37)), (q2, .inl (cyI, 984, .inl (u_7.2))), (q3, .inl (cyI, 80, .inl zt)), (q4, .inl (cyI, 5, .inl w4_a_37)), (q5, .inl (cyI, 40, .inl zm)), (q6, .inl (cyI, 40, .inl zk))]) hD hS hA [0, 1, 2, 3, 4, 5, 6] rfl) 0 rfl rfl rfl) rfl rfl hl.1 rfl (lv_room (Nat.le_of_ble_eq_true rfl)) dX9_run_46 ⟨Nat.le_of_ble_eq_true rfl, Nat.le_of_ble_eq_true rfl⟩) hP hD hS hA [0, 1, 2, 3, 4, 5, 6] [] rfl rfl (by decide) (by decide) (fun r_10 u_9 H locs hw hP hD hS => ?_)
            obtain ⟨hu_9, rfl, hbu_9⟩ := hw
            have hE := hE.trans (spLet_eq hu_9)
            have hP : va_P (dC, dI) vwCl [(q0, .inr (9, [.ref q1, .ref q2, .int (u_7.1), .ref q3, .int tl, .int (0 : Int32), .int (u_9.2.1), .int (u_9.2.2.1), .ref q4, .int ati, .int ors, .ref q5, .ref q6])), (q1, .inl (cyI, 246, .inl (u_9.2.2.2.1))), (q2, .inl (cyI, 984, .inl (u_7.2))), (q3, .inl (cyI, 80, .inl zt)), (q4, .inl (cyI, 5, .inl (u_9.2.2.2.2))), (q5, .inl (cyI, 40, .inl zm)), (q6, .inl (cyI, 40, .inl zk))] H := hP
            have hD : va_D A [(q0, .inr (9, [.ref q1, .ref q2, .int (u_7.1), .ref q3, .int tl, .int (0 : Int32), .int (u_9.2.1), .int (u_9.2.2.1), .ref q4, .int ati, .int ors, .ref q5, .ref q6])), (q1, .inl (cyI, 246, .inl (u_9.2.2.2.1))), (q2, .inl (cyI, 984, .inl (u_7.2))), (q3, .inl (cyI, 80, .inl zt)), (q4, .inl (cyI, 5, .inl (u_9.2.2.2.2))), (q5, .inl (cyI, 40, .inl zm)), (q6, .inl (cyI, 40, .inl zk))] := hD
            have J57 : ∀ (t0_57 : Int32) (ls : Array Slot) (hl : lv_has ls 5 [(0, .ref q0), (1, .int mos), (2, .int tk), (4, .int (nI k4_37))]) (hE : (m_run svc mm mr zs zv zp mos tk) = m_run_j57 v3_37 k4_37 (spIter (fun _ _ _ _ _ _ => default) (m_run_b37 mos tk u_7) n37) u_9 t0_57), W p l e (headSpec wqX9_run ({ frames := 12, cells := 0, slots := 0, locals := 263 } : Room)).room s m ([.ref q0, .int mos, .int tk] : List Value).toArray below meth c H locs 0 0 (MQ below (va_Qi (fun (r : Int32) (u : Int32 × Int32 × Int32 × Int32 × Int32 × (Nat → Int32) × (Nat → Int32) × (Nat → Int32)) => u = (m_run svc mm mr zs zv zp mos tk) ∧ r = u.1) (fun (u : Int32 × Int32 × Int32 × Int32 × Int32 × (Nat → Int32) × (Nat → Int32) × (Nat → Int32)) t => va_P (dC, dI) vwCl [(q0, .inr (9, [.ref q1, .ref q2, .int (u.2.1), .ref q3, .int tl, .int (u.2.2.1), .int (u.2.2.2.1), .int (u.2.2.2.2.1), .ref q4, .int ati, .int ors, .ref q5, .ref q6])), (q1, .inl (cyI, 246, .inl (u.2.2.2.2.2.1))), (q2, .inl (cyI, 984, .inl (u.2.2.2.2.2.2.1))), (q3, .inl (cyI, 80, .inl zt)), (q4, .inl (cyI, 5, .inl (u.2.2.2.2.2.2.2))), (q5, .inl (cyI, 40, .inl zm)), (q6, .inl (cyI, 40, .inl zk))] t.heap ∧ va_D A [(q0, .inr (9, [.ref q1, .ref q2, .int (u.2.1), .ref q3, .int tl, .int (u.2.2.1), .int (u.2.2.2.1), .int (u.2.2.2.2.1), .ref q4, .int ati, .int ors, .ref q5, .ref q6])), (q1, .inl (cyI, 246, .inl (u.2.2.2.2.2.1))), (q2, .inl (cyI, 984, .inl (u.2.2.2.2.2.2.1))), (q3, .inl (cyI, 80, .inl zt)), (q4, .inl (cyI, 5, .inl (u.2.2.2.2.2.2.2))), (q5, .inl (cyI, 40, .inl zm)), (q6, .inl (cyI, 40, .inl zk))]) A) ([.ref q0, .int mos, .int tk] : List Value).toArray s 0 0 A) (F0 m 57 ls [.int t0_57, .int v3_37]) := by
              intro t0_57 ls hl hE
              refine lv_iadd hx hb dX9_run_57 ?_
              refine lv_topi (fun x_12 ex_12 => ?_)
              have hE := hE.trans (spLet_eq ex_12)
              refine lv_istore_n (lv' := [(3, .int x_12), (0, .ref q0), (1, .int mos), (2, .int tk), (4, .int (nI k4_37))]) hx hb dX9_run_58 rfl hl (by decide) rfl (fun ls hl => ?_)
              refine lv_iinc (v := (nI (k4_37 + 1))) (lv' := [(4, .int (nI (k4_37 + 1))), (3, .int x_12), (0, .ref q0), (1, .int mos), (2, .int tk)]) hx hb dX9_run_59 hl (k := 4) rfl (show _ from (congrArg (fun z => z + Int32.ofInt 1) (rfl)).trans (ninc _ 1)) (by decide) rfl (fun ls hl => ?_)
              refine lv_goto (tgt := 37) hx hb dX9_run_62 (by decide) ?_
              exact ih37 x_12 (k4_37 + 1) (u_9.2.1) (u_9.2.2.1) (u_9.2.2.2.1) (u_9.2.2.2.2) ⟨(by rw [hu_9]; exact tick_G hi.1 _ _ _ _), by omega, by omega⟩ _ _ hP hD hS ls (lv_sub hl [2, 3, 4, 1, 0] rfl) hE
            refine lv_if_eq (tgt := 56) hx hb dX9_run_49 (by decide) (fun c_11 => ?_) (fun c_11 => ?_)
            ·
              have hE := hE.trans (if_pos c_11)
              refine lv_iconst (v := 0) hx hb dX9_run_56 (by decide) ?_
              exact J57 (0 : Int32) ls (lv_sub hl [0, 1, 2, 4] rfl) hE
            ·
              have hE := hE.trans (if_neg c_11)
              refine lv_iconst (v := 1) hx hb dX9_run_52 (by decide) ?_
              refine lv_goto (tgt := 57) hx hb dX9_run_53 (by decide) ?_
              exact J57 (1 : Int32) ls (lv_sub hl [0, 1, 2, 4] rfl) hE
      exact L37 (tk.toNatClampNeg + 1) (0 : Int32) 0 mm mr zs zp ⟨hG, by omega, by omega⟩ _ _ hP hD hS ls (lv_sub hl [2, 3, 4, 1, 0] rfl) hE
    ·
      have hE := hE.trans (if_pos c_6)
      exact J22 ls (lv_sub hl [0] rfl) hE
def m_permittedNow_j26 (v1_4 : Int32) (k2_4 : Nat) (rec4 : Int32 → Nat → Int32 → Int32 → (Nat → Int32) → (Int32 × Int32 × Int32 × (Nat → Int32))) (u_2 : Int32 × Int32 × Int32 × (Nat → Int32)) (t0_26 : Int32) : Int32 × Int32 × Int32 × (Nat → Int32) :=
  spLet ((v1_4 ||| t0_26)) (fun x_5 => rec4 x_5 (k2_4 + 1) (u_2.2.1) (u_2.2.2.1) (u_2.2.2.2))
def m_permittedNow_b4 (zs : Nat → Int32) (rec4 : Int32 → Nat → Int32 → Int32 → (Nat → Int32) → (Int32 × Int32 × Int32 × (Nat → Int32))) : Int32 → Nat → Int32 → Int32 → (Nat → Int32) → (Int32 × Int32 × Int32 × (Nat → Int32)) :=
  fun v1_4 k2_4 w0_6_4 w0_7_4 w4_a_4 => if 8 ≤ k2_4 then ((v1_4, w0_6_4, w0_7_4, w4_a_4)) else (spLet (m_isPermitted w0_6_4 w0_7_4 zs w4_a_4 (nI k2_4)) (fun u_2 => if (u_2.1) = 0 then (m_permittedNow_j26 v1_4 k2_4 rec4 u_2 (0 : Int32)) else (m_permittedNow_j26 v1_4 k2_4 rec4 u_2 ((1 : Int32) <<< ((nI k2_4) &&& 31)))))
def m_permittedNow (mm : Int32) (mr : Int32) (zs : Nat → Int32) (zp : Nat → Int32) : Int32 × Int32 × Int32 × (Nat → Int32) :=
  spIter (fun _ _ _ _ _ => default) (m_permittedNow_b4 zs) 9 (0 : Int32) 0 mm mr zp
set_option maxHeartbeats 1000000 in
set_option maxRecDepth 100000 in
theorem c_X9_permittedNow (l : Launch) (dC : Nat → ClassId) (dI : Nat → Nat → Nat) (cyI : ClassId) (sz : Nat) (q0 : Nat) (q1 : Nat) (q2 : Nat) (q3 : Nat) (q4 : Nat) (q5 : Nat) (q6 : Nat) (svc : Int32) (tl : Int32) (cde : Int32) (mm : Int32) (mr : Int32) (ati : Int32) (ors : Int32) (zs : Nat → Int32) (zv : Nat → Int32) (zt : Nat → Int32) (zp : Nat → Int32) (zm : Nat → Int32) (zk : Nat → Int32) (hG : mG zs) : Met l yX9_permittedNow wqX9_permittedNow ({ frames := 10, cells := 0, slots := 0, locals := 214 } : Room) (va_Pc [.ref q0] (pC (dC, dI) [(q0, .inr (9, [.ref q1, .ref q2, .int svc, .ref q3, .int tl, .int cde, .int mm, .int mr, .ref q4, .int ati, .int ors, .ref q5, .ref q6])), (q1, .inl (cyI, 246, .inl zs)), (q2, .inl (cyI, 984, .inl zv)), (q3, .inl (cyI, 80, .inl zt)), (q4, .inl (cyI, 5, .inl zp)), (q5, .inl (cyI, 40, .inl zm)), (q6, .inl (cyI, 40, .inl zk))] [(cyI, .int)] eM sz)) (va_Qi (fun (r : Int32) (u : Int32 × Int32 × Int32 × (Nat → Int32)) => u = (m_permittedNow mm mr zs zp) ∧ r = u.1) (fun (u : Int32 × Int32 × Int32 × (Nat → Int32)) t => va_P (dC, dI) vwCl [(q0, .inr (9, [.ref q1, .ref q2, .int svc, .ref q3, .int tl, .int cde, .int (u.2.1), .int (u.2.2.1), .ref q4, .int ati, .int ors, .ref q5, .ref q6])), (q1, .inl (cyI, 246, .inl zs)), (q2, .inl (cyI, 984, .inl zv)), (q3, .inl (cyI, 80, .inl zt)), (q4, .inl (cyI, 5, .inl (u.2.2.2))), (q5, .inl (cyI, 40, .inl zm)), (q6, .inl (cyI, 40, .inl zk))] t.heap ∧ va_D (va_A [(q0, .inr (9, [.ref q1, .ref q2, .int svc, .ref q3, .int tl, .int cde, .int mm, .int mr, .ref q4, .int ati, .int ors, .ref q5, .ref q6])), (q1, .inl (cyI, 246, .inl zs)), (q2, .inl (cyI, 984, .inl zv)), (q3, .inl (cyI, 80, .inl zt)), (q4, .inl (cyI, 5, .inl zp)), (q5, .inl (cyI, 40, .inl zm)), (q6, .inl (cyI, 40, .inl zk))] sz) [(q0, .inr (9, [.ref q1, .ref q2, .int svc, .ref q3, .int tl, .int cde, .int (u.2.1), .int (u.2.2.1), .ref q4, .int ati, .int ors, .ref q5, .ref q6])), (q1, .inl (cyI, 246, .inl zs)), (q2, .inl (cyI, 984, .inl zv)), (q3, .inl (cyI, 80, .inl zt)), (q4, .inl (cyI, 5, .inl (u.2.2.2))), (q5, .inl (cyI, 40, .inl zm)), (q6, .inl (cyI, 40, .inl zk))]) (va_A [(q0, .inr (9, [.ref q1, .ref q2, .int svc, .ref q3, .int tl, .int cde, .int mm, .int mr, .ref q4, .int ati, .int ors, .ref q5, .ref q6])), (q1, .inl (cyI, 246, .inl zs)), (q2, .inl (cyI, 984, .inl zv)), (q3, .inl (cyI, 80, .inl zt)), (q4, .inl (cyI, 5, .inl zp)), (q5, .inl (cyI, 40, .inl zm)), (q6, .inl (cyI, 40, .inl zk))] sz)) 0 0 (va_A [(q0, .inr (9, [.ref q1, .ref q2, .int svc, .ref q3, .int tl, .int cde, .int mm, .int mr, .ref q4, .int ati, .int ors, .ref q5, .ref q6])), (q1, .inl (cyI, 246, .inl zs)), (q2, .inl (cyI, 984, .inl zv)), (q3, .inl (cyI, 80, .inl zt)), (q4, .inl (cyI, 5, .inl zp)), (q5, .inl (cyI, 40, .inl zm)), (q6, .inl (cyI, 40, .inl zk))] sz) := by
  refine Met.ofW (cc := cX9_permittedNow) (maxL := 3) (ret := (some .int)) (by decide) rfl ?_
  intro p e s m args below meth c s₁ B hml hv
  obtain ⟨rfl, hsz, hP, hK, hD0, he⟩ := hv
  have hx := B.exec
  have hb := B.bytes
  have hr := B.returns
  have hts := atoms_spec (ws := wqX9_permittedNow) B.pre
  have hown : s.vm.findClass RX9 = some m.cls := findClass_of_methodNamed B.named
  have hlocks := B.notSynchronized
  subst hsz
  have hD := hD0.self (sz := s.heap.size)
  generalize hAe : va_A [(q0, .inr (9, [.ref q1, .ref q2, .int svc, .ref q3, .int tl, .int cde, .int mm, .int mr, .ref q4, .int ati, .int ors, .ref q5, .ref q6])), (q1, .inl (cyI, 246, .inl zs)), (q2, .inl (cyI, 984, .inl zv)), (q3, .inl (cyI, 80, .inl zt)), (q4, .inl (cyI, 5, .inl zp)), (q5, .inl (cyI, 40, .inl zm)), (q6, .inl (cyI, 40, .inl zk))] s.heap.size = A at hD he ⊢
  have hA : ∀ q : Nat, s.heap.size ≤ q → A q := fun q h => by rw [← hAe]; exact Or.inr h
  have hS : va_S A s.heap s.heap [] := va_S.rf
  have hP : va_P (dC, dI) vwCl [(q0, .inr (9, [.ref q1, .ref q2, .int svc, .ref q3, .int tl, .int cde, .int mm, .int mr, .ref q4, .int ati, .int ors, .ref q5, .ref q6])), (q1, .inl (cyI, 246, .inl zs)), (q2, .inl (cyI, 984, .inl zv)), (q3, .inl (cyI, 80, .inl zt)), (q4, .inl (cyI, 5, .inl zp)), (q5, .inl (cyI, 40, .inl zm)), (q6, .inl (cyI, 40, .inl zk))] s.heap := hP
  have hl := lv_entry ([.ref q0] : List Value) (n := 3) (Nat.le_of_ble_eq_true rfl)
  rw [lg_entry_eq]
  generalize (lg_sl ([.ref q0] : List Value) ++ List.replicate (3 - (lg_sl ([.ref q0] : List Value)).length) Slot.unset).toArray = ls at hl ⊢
  have hl : lv_has ls 3 [(0, .ref q0)] := hl
  have hE : m_permittedNow mm mr zs zp = m_permittedNow mm mr zs zp := rfl
  refine lv_iconst (v := 0) hx hb dX9_permittedNow_0 (by decide) ?_
  refine lv_istore_n (lv' := [(1, .int (0 : Int32)), (0, .ref q0)]) hx hb dX9_permittedNow_1 rfl hl (by decide) rfl (fun ls hl => ?_)
  refine lv_iconst (v := 0) hx hb dX9_permittedNow_2 (by decide) ?_
  refine lv_istore_n (lv' := [(2, .int (0 : Int32)), (1, .int (0 : Int32)), (0, .ref q0)]) hx hb dX9_permittedNow_3 rfl hl (by decide) rfl (fun ls hl => ?_)
  have L4 : ∀ (n4 : Nat) (v1_4 : Int32) (k2_4 : Nat) (w0_6_4 : Int32) (w0_7_4 : Int32) (w4_a_4 : Nat → Int32) (hi : k2_4 ≤ 8 ∧ 8 < k2_4 + n4) (H : Heap) (locs : List Loc) (hP : va_P (dC, dI) vwCl [(q0, .inr (9, [.ref q1, .ref q2, .int svc, .ref q3, .int tl, .int cde, .int w0_6_4, .int w0_7_4, .ref q4, .int ati, .int ors, .ref q5, .ref q6])), (q1, .inl (cyI, 246, .inl zs)), (q2, .inl (cyI, 984, .inl zv)), (q3, .inl (cyI, 80, .inl zt)), (q4, .inl (cyI, 5, .inl w4_a_4)), (q5, .inl (cyI, 40, .inl zm)), (q6, .inl (cyI, 40, .inl zk))] H) (hD : va_D A [(q0, .inr (9, [.ref q1, .ref q2, .int svc, .ref q3, .int tl, .int cde, .int w0_6_4, .int w0_7_4, .ref q4, .int ati, .int ors, .ref q5, .ref q6])), (q1, .inl (cyI, 246, .inl zs)), (q2, .inl (cyI, 984, .inl zv)), (q3, .inl (cyI, 80, .inl zt)), (q4, .inl (cyI, 5, .inl w4_a_4)), (q5, .inl (cyI, 40, .inl zm)), (q6, .inl (cyI, 40, .inl zk))]) (hS : va_S A s.heap H locs) (ls : Array Slot) (hl : lv_has ls 3 [(0, .ref q0), (1, .int v1_4), (2, .int (nI k2_4))]) (hE : (m_permittedNow mm mr zs zp) = spIter (fun _ _ _ _ _ => default) (m_permittedNow_b4 zs) n4 v1_4 k2_4 w0_6_4 w0_7_4 w4_a_4), W p l e (headSpec wqX9_permittedNow ({ frames := 10, cells := 0, slots := 0, locals := 214 } : Room)).room s m ([.ref q0] : List Value).toArray below meth c H locs 0 0 (MQ below (va_Qi (fun (r : Int32) (u : Int32 × Int32 × Int32 × (Nat → Int32)) => u = (m_permittedNow mm mr zs zp) ∧ r = u.1) (fun (u : Int32 × Int32 × Int32 × (Nat → Int32)) t => va_P (dC, dI) vwCl [(q0, .inr (9, [.ref q1, .ref q2, .int svc, .ref q3, .int tl, .int cde, .int (u.2.1), .int (u.2.2.1), .ref q4, .int ati, .int ors, .ref q5, .ref q6])), (q1, .inl (cyI, 246, .inl zs)), (q2, .inl (cyI, 984, .inl zv)), (q3, .inl (cyI, 80, .inl zt)), (q4, .inl (cyI, 5, .inl (u.2.2.2))), (q5, .inl (cyI, 40, .inl zm)), (q6, .inl (cyI, 40, .inl zk))] t.heap ∧ va_D A [(q0, .inr (9, [.ref q1, .ref q2, .int svc, .ref q3, .int tl, .int cde, .int (u.2.1), .int (u.2.2.1), .ref q4, .int ati, .int ors, .ref q5, .ref q6])), (q1, .inl (cyI, 246, .inl zs)), (q2, .inl (cyI, 984, .inl zv)), (q3, .inl (cyI, 80, .inl zt)), (q4, .inl (cyI, 5, .inl (u.2.2.2))), (q5, .inl (cyI, 40, .inl zm)), (q6, .inl (cyI, 40, .inl zk))]) A) ([.ref q0] : List Value).toArray s 0 0 A) (F0 m 4 ls []) := by
    intro n4
    induction n4 with
    | zero =>
      intro v1_4 k2_4 w0_6_4 w0_7_4 w4_a_4 hi H locs hP hD hS ls hl hE
      exact absurd hi (by omega)
    | succ n4 ih4 =>
      intro v1_4 k2_4 w0_6_4 w0_7_4 w4_a_4 hi H locs hP hD hS ls hl hE
      have hE : (m_permittedNow mm mr zs zp) = m_permittedNow_b4 zs (spIter (fun _ _ _ _ _ => default) (m_permittedNow_b4 zs) n4) v1_4 k2_4 w0_6_4 w0_7_4 w4_a_4 := hE
      refine lv_iload_n hx hb dX9_permittedNow_4 rfl (lv_at hl 2 rfl) ?_
      refine lv_bipush (v := 8) hx hb dX9_permittedNow_5 (by decide) ?_
      refine lv_icmp_ge (tgt := 34) hx hb dX9_permittedNow_7 (by decide) (fun c_1 => ?_) (fun c_1 => ?_)
      ·
        have c_1 : 8 ≤ k2_4 := by
          have h1 : ((nI k2_4)) = nI k2_4 := rfl
          have h2 : ((8 : Int32)) = nI 8 := rfl
          have h3 : (nI 8 ≤ nI k2_4) := by first | exact c_1 | (rw [← h1, ← h2]; exact c_1)
          exact (nI_leI (by omega) (by omega)).mp h3
        have hE := hE.trans (if_pos c_1)
        refine lv_iload_n hx hb dX9_permittedNow_34 rfl (lv_at hl 1 rfl) ?_
        exact W.iret (v := v1_4) hx hb hr (fun t h9 hW => ⟨⟨v1_4, ((v1_4, w0_6_4, w0_7_4, w4_a_4) : Int32 × Int32 × Int32 × (Nat → Int32)), rfl, ⟨hE.symm, rfl⟩, by rw [h9]; exact hP, hD⟩, hS.F h9⟩) hS.2.2 dX9_permittedNow_35
      ·
        have c_1 : ¬ 8 ≤ k2_4 := by
          have h1 : ((nI k2_4)) = nI k2_4 := rfl
          have h2 : ((8 : Int32)) = nI 8 := rfl
          have h3 : ¬ (nI 8 ≤ nI k2_4) := by first | exact c_1 | (rw [← h1, ← h2]; exact c_1)
          exact fun h => h3 ((nI_leI (by omega) (by omega)).mpr h)
        have hE := hE.trans (if_neg c_1)
        refine lv_iload_n hx hb dX9_permittedNow_10 rfl (lv_at hl 1 rfl) ?_
        refine lv_aload_n hx hb dX9_permittedNow_11 rfl (lv_at hl 0 rfl) ?_
        refine lv_iload_n hx hb dX9_permittedNow_12 rfl (lv_at hl 2 rfl) ?_
        refine mj_i (wr := []) (va_runV (As := [.int (nI k2_4)]) (rest := [.int v1_4]) ⟨hx, hb, hml, hown, hts⟩ (c_X9_isPermitted l dC dI cyI H.size q0 q1 q2 q3 q4 q5 q6 svc tl cde w0_6_4 w0_7_4 ati ors zs zv zt w4_a_4 zm zk (nI k2_4) hG) (cwV 1 hts (gBV b_641 b_642 b_643 b_5 b_644) rfl rfl rfl (by decide +kernel) ⟨Nat.le_of_ble_eq_true rfl, Nat.le_of_ble_eq_true rfl⟩) (prm_v eM_ok he hS hP hD hK (va_free (wc := [(q0, .inr (9, [.ref q1, .ref q2, .int svc, .ref q3, .int tl, .int cde, .int w0_6_4, .int w0_7_4, .ref q4, .int ati, .int ors, .ref q5, .ref q6])), (q1, .inl (cyI, 246, .inl zs)), (q2, .inl (cyI, 984, .inl zv)), (q3, .inl (cyI, 80, .inl zt)), (q4, .inl (cyI, 5, .inl w4_a_4)), (q5, .inl (cyI, 40, .inl zm)), (q6, .inl (cyI, 40, .inl zk))]) hD hS hA [0, 1, 2, 3, 4, 5, 6] rfl) 0 rfl rfl rfl) rfl rfl hl.1 rfl (lv_room (Nat.le_of_ble_eq_true rfl)) dX9_permittedNow_13 ⟨Nat.le_of_ble_eq_true rfl, Nat.le_of_ble_eq_true rfl⟩) hP hD hS hA [0, 1, 2, 3, 4, 5, 6] [] rfl rfl (by decide) (by decide) (fun r_3 u_2 H locs hw hP hD hS => ?_)
        obtain ⟨hu_2, rfl, hbu_2⟩ := hw
        have hE := hE.trans (spLet_eq hu_2)
        have hP : va_P (dC, dI) vwCl [(q0, .inr (9, [.ref q1, .ref q2, .int svc, .ref q3, .int tl, .int cde, .int (u_2.2.1), .int (u_2.2.2.1), .ref q4, .int ati, .int ors, .ref q5, .ref q6])), (q1, .inl (cyI, 246, .inl zs)), (q2, .inl (cyI, 984, .inl zv)), (q3, .inl (cyI, 80, .inl zt)), (q4, .inl (cyI, 5, .inl (u_2.2.2.2))), (q5, .inl (cyI, 40, .inl zm)), (q6, .inl (cyI, 40, .inl zk))] H := hP
        have hD : va_D A [(q0, .inr (9, [.ref q1, .ref q2, .int svc, .ref q3, .int tl, .int cde, .int (u_2.2.1), .int (u_2.2.2.1), .ref q4, .int ati, .int ors, .ref q5, .ref q6])), (q1, .inl (cyI, 246, .inl zs)), (q2, .inl (cyI, 984, .inl zv)), (q3, .inl (cyI, 80, .inl zt)), (q4, .inl (cyI, 5, .inl (u_2.2.2.2))), (q5, .inl (cyI, 40, .inl zm)), (q6, .inl (cyI, 40, .inl zk))] := hD
        have J26 : ∀ (t0_26 : Int32) (ls : Array Slot) (hl : lv_has ls 3 [(0, .ref q0), (2, .int (nI k2_4))]) (hE : (m_permittedNow mm mr zs zp) = m_permittedNow_j26 v1_4 k2_4 (spIter (fun _ _ _ _ _ => default) (m_permittedNow_b4 zs) n4) u_2 t0_26), W p l e (headSpec wqX9_permittedNow ({ frames := 10, cells := 0, slots := 0, locals := 214 } : Room)).room s m ([.ref q0] : List Value).toArray below meth c H locs 0 0 (MQ below (va_Qi (fun (r : Int32) (u : Int32 × Int32 × Int32 × (Nat → Int32)) => u = (m_permittedNow mm mr zs zp) ∧ r = u.1) (fun (u : Int32 × Int32 × Int32 × (Nat → Int32)) t => va_P (dC, dI) vwCl [(q0, .inr (9, [.ref q1, .ref q2, .int svc, .ref q3, .int tl, .int cde, .int (u.2.1), .int (u.2.2.1), .ref q4, .int ati, .int ors, .ref q5, .ref q6])), (q1, .inl (cyI, 246, .inl zs)), (q2, .inl (cyI, 984, .inl zv)), (q3, .inl (cyI, 80, .inl zt)), (q4, .inl (cyI, 5, .inl (u.2.2.2))), (q5, .inl (cyI, 40, .inl zm)), (q6, .inl (cyI, 40, .inl zk))] t.heap ∧ va_D A [(q0, .inr (9, [.ref q1, .ref q2, .int svc, .ref q3, .int tl, .int cde, .int (u.2.1), .int (u.2.2.1), .ref q4, .int ati, .int ors, .ref q5, .ref q6])), (q1, .inl (cyI, 246, .inl zs)), (q2, .inl (cyI, 984, .inl zv)), (q3, .inl (cyI, 80, .inl zt)), (q4, .inl (cyI, 5, .inl (u.2.2.2))), (q5, .inl (cyI, 40, .inl zm)), (q6, .inl (cyI, 40, .inl zk))]) A) ([.ref q0] : List Value).toArray s 0 0 A) (F0 m 26 ls [.int t0_26, .int v1_4]) := by
          intro t0_26 ls hl hE
          refine lv_ior hx hb dX9_permittedNow_26 ?_
          refine lv_topi (fun x_5 ex_5 => ?_)
          have hE := hE.trans (spLet_eq ex_5)
          refine lv_istore_n (lv' := [(1, .int x_5), (0, .ref q0), (2, .int (nI k2_4))]) hx hb dX9_permittedNow_27 rfl hl (by decide) rfl (fun ls hl => ?_)
          refine lv_iinc (v := (nI (k2_4 + 1))) (lv' := [(2, .int (nI (k2_4 + 1))), (1, .int x_5), (0, .ref q0)]) hx hb dX9_permittedNow_28 hl (k := 2) rfl (show _ from (congrArg (fun z => z + Int32.ofInt 1) (rfl)).trans (ninc _ 1)) (by decide) rfl (fun ls hl => ?_)
          refine lv_goto (tgt := 4) hx hb dX9_permittedNow_31 (by decide) ?_
          exact ih4 x_5 (k2_4 + 1) (u_2.2.1) (u_2.2.2.1) (u_2.2.2.2) (by omega) _ _ hP hD hS ls (lv_sub hl [2, 1, 0] rfl) hE
        refine lv_if_eq (tgt := 25) hx hb dX9_permittedNow_16 (by decide) (fun c_4 => ?_) (fun c_4 => ?_)
        ·
          have hE := hE.trans (if_pos c_4)
          refine lv_iconst (v := 0) hx hb dX9_permittedNow_25 (by decide) ?_
          exact J26 (0 : Int32) ls (lv_sub hl [0, 2] rfl) hE
        ·
          have hE := hE.trans (if_neg c_4)
          refine lv_iconst (v := 1) hx hb dX9_permittedNow_19 (by decide) ?_
          refine lv_iload_n hx hb dX9_permittedNow_20 rfl (lv_at hl 2 rfl) ?_
          refine lv_ishl hx hb dX9_permittedNow_21 ?_
          refine lv_goto (tgt := 26) hx hb dX9_permittedNow_22 (by decide) ?_
          exact J26 ((1 : Int32) <<< ((nI k2_4) &&& 31)) ls (lv_sub hl [0, 2] rfl) hE
  exact L4 9 (0 : Int32) 0 mm mr zp (by omega) _ _ hP hD hS ls (lv_sub hl [2, 1, 0] rfl) hE
def m_permitted (mm : Int32) (mr : Int32) (zs : Nat → Int32) (zp : Nat → Int32) : Int32 × Int32 × Int32 × Int32 × (Nat → Int32) :=
  spLet (m_permittedNow mm mr zs zp) (fun u_1 => ((u_1.1), (0 : Int32), (u_1.2.1), (u_1.2.2.1), (u_1.2.2.2)))
set_option maxHeartbeats 1000000 in
set_option maxRecDepth 100000 in
theorem c_X9_permitted (l : Launch) (dC : Nat → ClassId) (dI : Nat → Nat → Nat) (cyI : ClassId) (sz : Nat) (q0 : Nat) (q1 : Nat) (q2 : Nat) (q3 : Nat) (q4 : Nat) (q5 : Nat) (q6 : Nat) (svc : Int32) (tl : Int32) (cde : Int32) (mm : Int32) (mr : Int32) (ati : Int32) (ors : Int32) (zs : Nat → Int32) (zv : Nat → Int32) (zt : Nat → Int32) (zp : Nat → Int32) (zm : Nat → Int32) (zk : Nat → Int32) (hG : mG zs) : Met l yX9_permitted wqX9_permitted ({ frames := 11, cells := 0, slots := 0, locals := 236 } : Room) (va_Pc [.ref q0] (pC (dC, dI) [(q0, .inr (9, [.ref q1, .ref q2, .int svc, .ref q3, .int tl, .int cde, .int mm, .int mr, .ref q4, .int ati, .int ors, .ref q5, .ref q6])), (q1, .inl (cyI, 246, .inl zs)), (q2, .inl (cyI, 984, .inl zv)), (q3, .inl (cyI, 80, .inl zt)), (q4, .inl (cyI, 5, .inl zp)), (q5, .inl (cyI, 40, .inl zm)), (q6, .inl (cyI, 40, .inl zk))] [(cyI, .int)] eM sz)) (va_Qi (fun (r : Int32) (u : Int32 × Int32 × Int32 × Int32 × (Nat → Int32)) => u = (m_permitted mm mr zs zp) ∧ r = u.1) (fun (u : Int32 × Int32 × Int32 × Int32 × (Nat → Int32)) t => va_P (dC, dI) vwCl [(q0, .inr (9, [.ref q1, .ref q2, .int svc, .ref q3, .int tl, .int (u.2.1), .int (u.2.2.1), .int (u.2.2.2.1), .ref q4, .int ati, .int ors, .ref q5, .ref q6])), (q1, .inl (cyI, 246, .inl zs)), (q2, .inl (cyI, 984, .inl zv)), (q3, .inl (cyI, 80, .inl zt)), (q4, .inl (cyI, 5, .inl (u.2.2.2.2))), (q5, .inl (cyI, 40, .inl zm)), (q6, .inl (cyI, 40, .inl zk))] t.heap ∧ va_D (va_A [(q0, .inr (9, [.ref q1, .ref q2, .int svc, .ref q3, .int tl, .int cde, .int mm, .int mr, .ref q4, .int ati, .int ors, .ref q5, .ref q6])), (q1, .inl (cyI, 246, .inl zs)), (q2, .inl (cyI, 984, .inl zv)), (q3, .inl (cyI, 80, .inl zt)), (q4, .inl (cyI, 5, .inl zp)), (q5, .inl (cyI, 40, .inl zm)), (q6, .inl (cyI, 40, .inl zk))] sz) [(q0, .inr (9, [.ref q1, .ref q2, .int svc, .ref q3, .int tl, .int (u.2.1), .int (u.2.2.1), .int (u.2.2.2.1), .ref q4, .int ati, .int ors, .ref q5, .ref q6])), (q1, .inl (cyI, 246, .inl zs)), (q2, .inl (cyI, 984, .inl zv)), (q3, .inl (cyI, 80, .inl zt)), (q4, .inl (cyI, 5, .inl (u.2.2.2.2))), (q5, .inl (cyI, 40, .inl zm)), (q6, .inl (cyI, 40, .inl zk))]) (va_A [(q0, .inr (9, [.ref q1, .ref q2, .int svc, .ref q3, .int tl, .int cde, .int mm, .int mr, .ref q4, .int ati, .int ors, .ref q5, .ref q6])), (q1, .inl (cyI, 246, .inl zs)), (q2, .inl (cyI, 984, .inl zv)), (q3, .inl (cyI, 80, .inl zt)), (q4, .inl (cyI, 5, .inl zp)), (q5, .inl (cyI, 40, .inl zm)), (q6, .inl (cyI, 40, .inl zk))] sz)) 0 0 (va_A [(q0, .inr (9, [.ref q1, .ref q2, .int svc, .ref q3, .int tl, .int cde, .int mm, .int mr, .ref q4, .int ati, .int ors, .ref q5, .ref q6])), (q1, .inl (cyI, 246, .inl zs)), (q2, .inl (cyI, 984, .inl zv)), (q3, .inl (cyI, 80, .inl zt)), (q4, .inl (cyI, 5, .inl zp)), (q5, .inl (cyI, 40, .inl zm)), (q6, .inl (cyI, 40, .inl zk))] sz) := by
  refine Met.ofW (cc := cX9_permitted) (maxL := 1) (ret := (some .int)) (by decide) rfl ?_
  intro p e s m args below meth c s₁ B hml hv
  obtain ⟨rfl, hsz, hP, hK, hD0, he⟩ := hv
  have hx := B.exec
  have hb := B.bytes
  have hr := B.returns
  have hts := atoms_spec (ws := wqX9_permitted) B.pre
  have hown : s.vm.findClass RX9 = some m.cls := findClass_of_methodNamed B.named
  have hlocks := B.notSynchronized
  have w_0 := hts (Cond.fieldLink RX9 28 "CraneLimiterModel" "code" "I") (List.mem_cons_of_mem _ b_181)
  have i_X9 : ∀ w ∈ u_ws RX9 TX9 13, w ∈ wqX9_permitted := fun w h => List.mem_cons_of_mem _ (bX9 w h)
  subst hsz
  have hD := hD0.self (sz := s.heap.size)
  generalize hAe : va_A [(q0, .inr (9, [.ref q1, .ref q2, .int svc, .ref q3, .int tl, .int cde, .int mm, .int mr, .ref q4, .int ati, .int ors, .ref q5, .ref q6])), (q1, .inl (cyI, 246, .inl zs)), (q2, .inl (cyI, 984, .inl zv)), (q3, .inl (cyI, 80, .inl zt)), (q4, .inl (cyI, 5, .inl zp)), (q5, .inl (cyI, 40, .inl zm)), (q6, .inl (cyI, 40, .inl zk))] s.heap.size = A at hD he ⊢
  have hA : ∀ q : Nat, s.heap.size ≤ q → A q := fun q h => by rw [← hAe]; exact Or.inr h
  have hS : va_S A s.heap s.heap [] := va_S.rf
  have hP : va_P (dC, dI) vwCl [(q0, .inr (9, [.ref q1, .ref q2, .int svc, .ref q3, .int tl, .int cde, .int mm, .int mr, .ref q4, .int ati, .int ors, .ref q5, .ref q6])), (q1, .inl (cyI, 246, .inl zs)), (q2, .inl (cyI, 984, .inl zv)), (q3, .inl (cyI, 80, .inl zt)), (q4, .inl (cyI, 5, .inl zp)), (q5, .inl (cyI, 40, .inl zm)), (q6, .inl (cyI, 40, .inl zk))] s.heap := hP
  have hl := lv_entry ([.ref q0] : List Value) (n := 1) (Nat.le_of_ble_eq_true rfl)
  rw [lg_entry_eq]
  generalize (lg_sl ([.ref q0] : List Value) ++ List.replicate (1 - (lg_sl ([.ref q0] : List Value)).length) Slot.unset).toArray = ls at hl ⊢
  have hl : lv_has ls 1 [(0, .ref q0)] := hl
  have hE : m_permitted mm mr zs zp = m_permitted mm mr zs zp := rfl
  refine lv_aload_n hx hb dX9_permitted_0 rfl (lv_at hl 0 rfl) ?_
  refine lv_iconst (v := 0) hx hb dX9_permitted_1 (by decide) ?_
  refine va_put (D := (dC, dI)) (ci := 9) (v := .int (0 : Int32)) (ty := .int) (C := RX9) (T := TX9) (N := 13) hx hb hts i_X9 tyX9 tyX9_ok nmX9 hown hK hP hD hS 0 rfl rfl 5 (by decide) w_0 (fun _ h9 => h9) rfl (by decide +kernel) (rfl) (rfl) (Nat.le_of_ble_eq_true rfl) dX9_permitted_2 (fun H locs hP hD hS => ?_)
  have hP : va_P (dC, dI) vwCl [(q0, .inr (9, [.ref q1, .ref q2, .int svc, .ref q3, .int tl, .int (0 : Int32), .int mm, .int mr, .ref q4, .int ati, .int ors, .ref q5, .ref q6])), (q1, .inl (cyI, 246, .inl zs)), (q2, .inl (cyI, 984, .inl zv)), (q3, .inl (cyI, 80, .inl zt)), (q4, .inl (cyI, 5, .inl zp)), (q5, .inl (cyI, 40, .inl zm)), (q6, .inl (cyI, 40, .inl zk))] H := hP
  have hD : va_D A [(q0, .inr (9, [.ref q1, .ref q2, .int svc, .ref q3, .int tl, .int (0 : Int32), .int mm, .int mr, .ref q4, .int ati, .int ors, .ref q5, .ref q6])), (q1, .inl (cyI, 246, .inl zs)), (q2, .inl (cyI, 984, .inl zv)), (q3, .inl (cyI, 80, .inl zt)), (q4, .inl (cyI, 5, .inl zp)), (q5, .inl (cyI, 40, .inl zm)), (q6, .inl (cyI, 40, .inl zk))] := hD
  refine lv_aload_n hx hb dX9_permitted_5 rfl (lv_at hl 0 rfl) ?_
  refine mj_i (wr := []) (va_runV (As := []) (rest := []) ⟨hx, hb, hml, hown, hts⟩ (c_X9_permittedNow l dC dI cyI H.size q0 q1 q2 q3 q4 q5 q6 svc tl (0 : Int32) mm mr ati ors zs zv zt zp zm zk hG) (cwV 0 hts (gBV b_752 b_753 b_754 b_5 b_755) rfl rfl rfl (by decide +kernel) ⟨Nat.le_of_ble_eq_true rfl, Nat.le_of_ble_eq_true rfl⟩) (prm_v eM_ok he hS hP hD hK (va_free (wc := [(q0, .inr (9, [.ref q1, .ref q2, .int svc, .ref q3, .int tl, .int (0 : Int32), .int mm, .int mr, .ref q4, .int ati, .int ors, .ref q5, .ref q6])), (q1, .inl (cyI, 246, .inl zs)), (q2, .inl (cyI, 984, .inl zv)), (q3, .inl (cyI, 80, .inl zt)), (q4, .inl (cyI, 5, .inl zp)), (q5, .inl (cyI, 40, .inl zm)), (q6, .inl (cyI, 40, .inl zk))]) hD hS hA [0, 1, 2, 3, 4, 5, 6] rfl) 0 rfl rfl rfl) rfl rfl hl.1 rfl (lv_room (Nat.le_of_ble_eq_true rfl)) dX9_permitted_6 ⟨Nat.le_of_ble_eq_true rfl, Nat.le_of_ble_eq_true rfl⟩) hP hD hS hA [0, 1, 2, 3, 4, 5, 6] [] rfl rfl (by decide) (by decide) (fun r_2 u_1 H locs hw hP hD hS => ?_)
  obtain ⟨hu_1, rfl⟩ := hw
  have hE := hE.trans (spLet_eq hu_1)
  have hP : va_P (dC, dI) vwCl [(q0, .inr (9, [.ref q1, .ref q2, .int svc, .ref q3, .int tl, .int (0 : Int32), .int (u_1.2.1), .int (u_1.2.2.1), .ref q4, .int ati, .int ors, .ref q5, .ref q6])), (q1, .inl (cyI, 246, .inl zs)), (q2, .inl (cyI, 984, .inl zv)), (q3, .inl (cyI, 80, .inl zt)), (q4, .inl (cyI, 5, .inl (u_1.2.2.2))), (q5, .inl (cyI, 40, .inl zm)), (q6, .inl (cyI, 40, .inl zk))] H := hP
  have hD : va_D A [(q0, .inr (9, [.ref q1, .ref q2, .int svc, .ref q3, .int tl, .int (0 : Int32), .int (u_1.2.1), .int (u_1.2.2.1), .ref q4, .int ati, .int ors, .ref q5, .ref q6])), (q1, .inl (cyI, 246, .inl zs)), (q2, .inl (cyI, 984, .inl zv)), (q3, .inl (cyI, 80, .inl zt)), (q4, .inl (cyI, 5, .inl (u_1.2.2.2))), (q5, .inl (cyI, 40, .inl zm)), (q6, .inl (cyI, 40, .inl zk))] := hD
  exact W.iret (v := (u_1.1)) hx hb hr (fun t h9 hW => ⟨⟨(u_1.1), (((u_1.1), (0 : Int32), (u_1.2.1), (u_1.2.2.1), (u_1.2.2.2)) : Int32 × Int32 × Int32 × Int32 × (Nat → Int32)), rfl, ⟨hE.symm, rfl⟩, by rw [h9]; exact hP, hD⟩, hS.F h9⟩) hS.2.2 dX9_permitted_9
def m_predicted (mm : Int32) (mr : Int32) (zs : Nat → Int32) (zp : Nat → Int32) (mo : Int32) : Int32 × Int32 × Int32 × Int32 × (Nat → Int32) :=
  spLet (m_in mo (0 : Int32) (7 : Int32)) (fun r_1 => if r_1 = 0 then (spLet (m_fails (1 : Int32)) (fun u_9 => ((u_9.1), (u_9.2), mm, mr, zp))) else (spLet (m_remember zs zp) (fun u_3 => spLet (m_carry zs mo) (fun u_4 => spLet (m_utilization mr u_4) (fun u_5 => spLet ((u_5.1)) (fun x_7 => spLet (m_takeBack u_4 u_3) (fun u_8 => (x_7, (0 : Int32), (u_5.2.1), (u_5.2.2), u_3))))))))
set_option maxHeartbeats 1000000 in
set_option maxRecDepth 100000 in
theorem c_X9_predicted (l : Launch) (dC : Nat → ClassId) (dI : Nat → Nat → Nat) (cyI : ClassId) (sz : Nat) (q0 : Nat) (q1 : Nat) (q2 : Nat) (q3 : Nat) (q4 : Nat) (q5 : Nat) (q6 : Nat) (svc : Int32) (tl : Int32) (cde : Int32) (mm : Int32) (mr : Int32) (ati : Int32) (ors : Int32) (zs : Nat → Int32) (zv : Nat → Int32) (zt : Nat → Int32) (zp : Nat → Int32) (zm : Nat → Int32) (zk : Nat → Int32) (mo : Int32) (hG : mG zs) : Met l yX9_predicted wqX9_predicted ({ frames := 8, cells := 0, slots := 0, locals := 169 } : Room) (va_Pc [.ref q0, .int mo] (pC (dC, dI) [(q0, .inr (9, [.ref q1, .ref q2, .int svc, .ref q3, .int tl, .int cde, .int mm, .int mr, .ref q4, .int ati, .int ors, .ref q5, .ref q6])), (q1, .inl (cyI, 246, .inl zs)), (q2, .inl (cyI, 984, .inl zv)), (q3, .inl (cyI, 80, .inl zt)), (q4, .inl (cyI, 5, .inl zp)), (q5, .inl (cyI, 40, .inl zm)), (q6, .inl (cyI, 40, .inl zk))] [(cyI, .int)] eM sz)) (va_Qi (fun (r : Int32) (u : Int32 × Int32 × Int32 × Int32 × (Nat → Int32)) => u = (m_predicted mm mr zs zp mo) ∧ r = u.1) (fun (u : Int32 × Int32 × Int32 × Int32 × (Nat → Int32)) t => va_P (dC, dI) vwCl [(q0, .inr (9, [.ref q1, .ref q2, .int svc, .ref q3, .int tl, .int (u.2.1), .int (u.2.2.1), .int (u.2.2.2.1), .ref q4, .int ati, .int ors, .ref q5, .ref q6])), (q1, .inl (cyI, 246, .inl zs)), (q2, .inl (cyI, 984, .inl zv)), (q3, .inl (cyI, 80, .inl zt)), (q4, .inl (cyI, 5, .inl (u.2.2.2.2))), (q5, .inl (cyI, 40, .inl zm)), (q6, .inl (cyI, 40, .inl zk))] t.heap ∧ va_D (va_A [(q0, .inr (9, [.ref q1, .ref q2, .int svc, .ref q3, .int tl, .int cde, .int mm, .int mr, .ref q4, .int ati, .int ors, .ref q5, .ref q6])), (q1, .inl (cyI, 246, .inl zs)), (q2, .inl (cyI, 984, .inl zv)), (q3, .inl (cyI, 80, .inl zt)), (q4, .inl (cyI, 5, .inl zp)), (q5, .inl (cyI, 40, .inl zm)), (q6, .inl (cyI, 40, .inl zk))] sz) [(q0, .inr (9, [.ref q1, .ref q2, .int svc, .ref q3, .int tl, .int (u.2.1), .int (u.2.2.1), .int (u.2.2.2.1), .ref q4, .int ati, .int ors, .ref q5, .ref q6])), (q1, .inl (cyI, 246, .inl zs)), (q2, .inl (cyI, 984, .inl zv)), (q3, .inl (cyI, 80, .inl zt)), (q4, .inl (cyI, 5, .inl (u.2.2.2.2))), (q5, .inl (cyI, 40, .inl zm)), (q6, .inl (cyI, 40, .inl zk))]) (va_A [(q0, .inr (9, [.ref q1, .ref q2, .int svc, .ref q3, .int tl, .int cde, .int mm, .int mr, .ref q4, .int ati, .int ors, .ref q5, .ref q6])), (q1, .inl (cyI, 246, .inl zs)), (q2, .inl (cyI, 984, .inl zv)), (q3, .inl (cyI, 80, .inl zt)), (q4, .inl (cyI, 5, .inl zp)), (q5, .inl (cyI, 40, .inl zm)), (q6, .inl (cyI, 40, .inl zk))] sz)) 0 0 (va_A [(q0, .inr (9, [.ref q1, .ref q2, .int svc, .ref q3, .int tl, .int cde, .int mm, .int mr, .ref q4, .int ati, .int ors, .ref q5, .ref q6])), (q1, .inl (cyI, 246, .inl zs)), (q2, .inl (cyI, 984, .inl zv)), (q3, .inl (cyI, 80, .inl zt)), (q4, .inl (cyI, 5, .inl zp)), (q5, .inl (cyI, 40, .inl zm)), (q6, .inl (cyI, 40, .inl zk))] sz) := by
  refine Met.ofW (cc := cX9_predicted) (maxL := 3) (ret := (some .int)) (by decide) rfl ?_
  intro p e s m args below meth c s₁ B hml hv
  obtain ⟨rfl, hsz, hP, hK, hD0, he⟩ := hv
  have hx := B.exec
  have hb := B.bytes
  have hr := B.returns
  have hts := atoms_spec (ws := wqX9_predicted) B.pre
  have hown : s.vm.findClass RX9 = some m.cls := findClass_of_methodNamed B.named
  have hlocks := B.notSynchronized
  have w_0 := hts (Cond.fieldLink RX9 28 "CraneLimiterModel" "code" "I") (List.mem_cons_of_mem _ b_181)
  have i_X9 : ∀ w ∈ u_ws RX9 TX9 13, w ∈ wqX9_predicted := fun w h => List.mem_cons_of_mem _ (bX9 w h)
  subst hsz
  have hD := hD0.self (sz := s.heap.size)
  generalize hAe : va_A [(q0, .inr (9, [.ref q1, .ref q2, .int svc, .ref q3, .int tl, .int cde, .int mm, .int mr, .ref q4, .int ati, .int ors, .ref q5, .ref q6])), (q1, .inl (cyI, 246, .inl zs)), (q2, .inl (cyI, 984, .inl zv)), (q3, .inl (cyI, 80, .inl zt)), (q4, .inl (cyI, 5, .inl zp)), (q5, .inl (cyI, 40, .inl zm)), (q6, .inl (cyI, 40, .inl zk))] s.heap.size = A at hD he ⊢
  have hA : ∀ q : Nat, s.heap.size ≤ q → A q := fun q h => by rw [← hAe]; exact Or.inr h
  have hS : va_S A s.heap s.heap [] := va_S.rf
  have hP : va_P (dC, dI) vwCl [(q0, .inr (9, [.ref q1, .ref q2, .int svc, .ref q3, .int tl, .int cde, .int mm, .int mr, .ref q4, .int ati, .int ors, .ref q5, .ref q6])), (q1, .inl (cyI, 246, .inl zs)), (q2, .inl (cyI, 984, .inl zv)), (q3, .inl (cyI, 80, .inl zt)), (q4, .inl (cyI, 5, .inl zp)), (q5, .inl (cyI, 40, .inl zm)), (q6, .inl (cyI, 40, .inl zk))] s.heap := hP
  have hl := lv_entry ([.ref q0, .int mo] : List Value) (n := 3) (Nat.le_of_ble_eq_true rfl)
  rw [lg_entry_eq]
  generalize (lg_sl ([.ref q0, .int mo] : List Value) ++ List.replicate (3 - (lg_sl ([.ref q0, .int mo] : List Value)).length) Slot.unset).toArray = ls at hl ⊢
  have hl : lv_has ls 3 [(0, .ref q0), (1, .int mo)] := hl
  have hE : m_predicted mm mr zs zp mo = m_predicted mm mr zs zp mo := rfl
  refine lv_aload_n hx hb dX9_predicted_0 rfl (lv_at hl 0 rfl) ?_
  refine lv_iconst (v := 0) hx hb dX9_predicted_1 (by decide) ?_
  refine va_put (D := (dC, dI)) (ci := 9) (v := .int (0 : Int32)) (ty := .int) (C := RX9) (T := TX9) (N := 13) hx hb hts i_X9 tyX9 tyX9_ok nmX9 hown hK hP hD hS 0 rfl rfl 5 (by decide) w_0 (fun _ h9 => h9) rfl (by decide +kernel) (rfl) (rfl) (Nat.le_of_ble_eq_true rfl) dX9_predicted_2 (fun H locs hP hD hS => ?_)
  have hP : va_P (dC, dI) vwCl [(q0, .inr (9, [.ref q1, .ref q2, .int svc, .ref q3, .int tl, .int (0 : Int32), .int mm, .int mr, .ref q4, .int ati, .int ors, .ref q5, .ref q6])), (q1, .inl (cyI, 246, .inl zs)), (q2, .inl (cyI, 984, .inl zv)), (q3, .inl (cyI, 80, .inl zt)), (q4, .inl (cyI, 5, .inl zp)), (q5, .inl (cyI, 40, .inl zm)), (q6, .inl (cyI, 40, .inl zk))] H := hP
  have hD : va_D A [(q0, .inr (9, [.ref q1, .ref q2, .int svc, .ref q3, .int tl, .int (0 : Int32), .int mm, .int mr, .ref q4, .int ati, .int ors, .ref q5, .ref q6])), (q1, .inl (cyI, 246, .inl zs)), (q2, .inl (cyI, 984, .inl zv)), (q3, .inl (cyI, 80, .inl zt)), (q4, .inl (cyI, 5, .inl zp)), (q5, .inl (cyI, 40, .inl zm)), (q6, .inl (cyI, 40, .inl zk))] := hD
  refine lv_iload_n hx hb dX9_predicted_5 rfl (lv_at hl 1 rfl) ?_
  refine lv_iconst (v := 0) hx hb dX9_predicted_6 (by decide) ?_
  refine lv_bipush (v := 7) hx hb dX9_predicted_7 (by decide) ?_
  refine vp_callSi (W.runS (As := [.int mo, .int (0 : Int32), .int (7 : Int32)]) (rest := []) ⟨hx, hb, hml, hown, hts⟩ (c_X9_in l dC dI cyI mo (0 : Int32) (7 : Int32)) (va_cwS 3 hts (gBS b_182 b_183 b_5 b_184) rfl rfl rfl (by decide +kernel) ⟨Nat.le_of_ble_eq_true rfl, Nat.le_of_ble_eq_true rfl⟩) (pre_s eM_ok he hS (hP.sub (ws' := []) [] rfl) (hK.sub (tys' := []) [] rfl)) rfl rfl hl.1 rfl (lv_room (Nat.le_of_ble_eq_true rfl)) dX9_predicted_9 ⟨Nat.zero_le _, Nat.zero_le _⟩) (fun r_1 hr_1 => ?_)
  obtain ⟨hr_1, hbr_1⟩ := hr_1
  have hE := hE.trans (spLet_eq hr_1)
  refine lv_if_ne (tgt := 21) hx hb dX9_predicted_12 (by decide) (fun c_2 => ?_) (fun c_2 => ?_)
  ·
    have hE := hE.trans (if_neg c_2)
    refine lv_aload_n hx hb dX9_predicted_21 rfl (lv_at hl 0 rfl) ?_
    refine mj_v (wr := []) (va_runV (As := []) (rest := []) ⟨hx, hb, hml, hown, hts⟩ (c_X9_remember l dC dI cyI H.size q0 q1 q2 q3 q4 q5 q6 svc tl (0 : Int32) mm mr ati ors zs zv zt zp zm zk) (cwV 0 hts (gBV b_653 b_654 b_655 b_5 b_656) rfl rfl rfl (by decide +kernel) ⟨Nat.le_of_ble_eq_true rfl, Nat.le_of_ble_eq_true rfl⟩) (prm_v eM_ok he hS hP hD hK (va_free (wc := [(q0, .inr (9, [.ref q1, .ref q2, .int svc, .ref q3, .int tl, .int (0 : Int32), .int mm, .int mr, .ref q4, .int ati, .int ors, .ref q5, .ref q6])), (q1, .inl (cyI, 246, .inl zs)), (q2, .inl (cyI, 984, .inl zv)), (q3, .inl (cyI, 80, .inl zt)), (q4, .inl (cyI, 5, .inl zp)), (q5, .inl (cyI, 40, .inl zm)), (q6, .inl (cyI, 40, .inl zk))]) hD hS hA [0, 1, 2, 3, 4, 5, 6] rfl) 0 rfl rfl rfl) rfl rfl hl.1 rfl (lv_room (Nat.le_of_ble_eq_true rfl)) dX9_predicted_22 ⟨Nat.le_of_ble_eq_true rfl, Nat.le_of_ble_eq_true rfl⟩) hP hD hS hA [0, 1, 2, 3, 4, 5, 6] [] rfl rfl (by decide) (by decide) (fun u_3 H locs hw hP hD hS => ?_)
    have hu_3 := hw
    have hE := hE.trans (spLet_eq hu_3)
    have hP : va_P (dC, dI) vwCl [(q0, .inr (9, [.ref q1, .ref q2, .int svc, .ref q3, .int tl, .int (0 : Int32), .int mm, .int mr, .ref q4, .int ati, .int ors, .ref q5, .ref q6])), (q1, .inl (cyI, 246, .inl zs)), (q2, .inl (cyI, 984, .inl zv)), (q3, .inl (cyI, 80, .inl zt)), (q4, .inl (cyI, 5, .inl u_3)), (q5, .inl (cyI, 40, .inl zm)), (q6, .inl (cyI, 40, .inl zk))] H := hP
    have hD : va_D A [(q0, .inr (9, [.ref q1, .ref q2, .int svc, .ref q3, .int tl, .int (0 : Int32), .int mm, .int mr, .ref q4, .int ati, .int ors, .ref q5, .ref q6])), (q1, .inl (cyI, 246, .inl zs)), (q2, .inl (cyI, 984, .inl zv)), (q3, .inl (cyI, 80, .inl zt)), (q4, .inl (cyI, 5, .inl u_3)), (q5, .inl (cyI, 40, .inl zm)), (q6, .inl (cyI, 40, .inl zk))] := hD
    refine lv_aload_n hx hb dX9_predicted_25 rfl (lv_at hl 0 rfl) ?_
    refine lv_iload_n hx hb dX9_predicted_26 rfl (lv_at hl 1 rfl) ?_
    refine mj_v (wr := []) (va_runV (As := [.int mo]) (rest := []) ⟨hx, hb, hml, hown, hts⟩ (c_X9_carry l dC dI cyI H.size q0 q1 q2 q3 q4 q5 q6 svc tl (0 : Int32) mm mr ati ors zs zv zt u_3 zm zk mo) (cwV 1 hts (gBV b_657 b_658 b_659 b_5 b_660) rfl rfl rfl (by decide +kernel) ⟨Nat.le_of_ble_eq_true rfl, Nat.le_of_ble_eq_true rfl⟩) (prm_v eM_ok he hS hP hD hK (va_free (wc := [(q0, .inr (9, [.ref q1, .ref q2, .int svc, .ref q3, .int tl, .int (0 : Int32), .int mm, .int mr, .ref q4, .int ati, .int ors, .ref q5, .ref q6])), (q1, .inl (cyI, 246, .inl zs)), (q2, .inl (cyI, 984, .inl zv)), (q3, .inl (cyI, 80, .inl zt)), (q4, .inl (cyI, 5, .inl u_3)), (q5, .inl (cyI, 40, .inl zm)), (q6, .inl (cyI, 40, .inl zk))]) hD hS hA [0, 1, 2, 3, 4, 5, 6] rfl) 0 rfl rfl rfl) rfl rfl hl.1 rfl (lv_room (Nat.le_of_ble_eq_true rfl)) dX9_predicted_27 ⟨Nat.le_of_ble_eq_true rfl, Nat.le_of_ble_eq_true rfl⟩) hP hD hS hA [0, 1, 2, 3, 4, 5, 6] [] rfl rfl (by decide) (by decide) (fun u_4 H locs hw hP hD hS => ?_)
    have hu_4 := hw
    have hE := hE.trans (spLet_eq hu_4)
    have hP : va_P (dC, dI) vwCl [(q0, .inr (9, [.ref q1, .ref q2, .int svc, .ref q3, .int tl, .int (0 : Int32), .int mm, .int mr, .ref q4, .int ati, .int ors, .ref q5, .ref q6])), (q1, .inl (cyI, 246, .inl u_4)), (q2, .inl (cyI, 984, .inl zv)), (q3, .inl (cyI, 80, .inl zt)), (q4, .inl (cyI, 5, .inl u_3)), (q5, .inl (cyI, 40, .inl zm)), (q6, .inl (cyI, 40, .inl zk))] H := hP
    have hD : va_D A [(q0, .inr (9, [.ref q1, .ref q2, .int svc, .ref q3, .int tl, .int (0 : Int32), .int mm, .int mr, .ref q4, .int ati, .int ors, .ref q5, .ref q6])), (q1, .inl (cyI, 246, .inl u_4)), (q2, .inl (cyI, 984, .inl zv)), (q3, .inl (cyI, 80, .inl zt)), (q4, .inl (cyI, 5, .inl u_3)), (q5, .inl (cyI, 40, .inl zm)), (q6, .inl (cyI, 40, .inl zk))] := hD
    refine lv_aload_n hx hb dX9_predicted_30 rfl (lv_at hl 0 rfl) ?_
    refine mj_i (wr := []) (va_runV (As := []) (rest := []) ⟨hx, hb, hml, hown, hts⟩ (c_X9_utilization l dC dI cyI H.size q0 q1 q2 q3 q4 q5 q6 svc tl (0 : Int32) mm mr ati ors u_4 zv zt u_3 zm zk (by rw [hu_4]; exact carry_G hG _)) (cwV 0 hts (gBV b_673 b_674 b_675 b_5 b_676) rfl rfl rfl (by decide +kernel) ⟨Nat.le_of_ble_eq_true rfl, Nat.le_of_ble_eq_true rfl⟩) (prm_v eM_ok he hS hP hD hK (va_free (wc := [(q0, .inr (9, [.ref q1, .ref q2, .int svc, .ref q3, .int tl, .int (0 : Int32), .int mm, .int mr, .ref q4, .int ati, .int ors, .ref q5, .ref q6])), (q1, .inl (cyI, 246, .inl u_4)), (q2, .inl (cyI, 984, .inl zv)), (q3, .inl (cyI, 80, .inl zt)), (q4, .inl (cyI, 5, .inl u_3)), (q5, .inl (cyI, 40, .inl zm)), (q6, .inl (cyI, 40, .inl zk))]) hD hS hA [0, 1, 2, 3, 4, 5, 6] rfl) 0 rfl rfl rfl) rfl rfl hl.1 rfl (lv_room (Nat.le_of_ble_eq_true rfl)) dX9_predicted_31 ⟨Nat.le_of_ble_eq_true rfl, Nat.le_of_ble_eq_true rfl⟩) hP hD hS hA [0, 1, 2, 3, 4, 5, 6] [] rfl rfl (by decide) (by decide) (fun r_6 u_5 H locs hw hP hD hS => ?_)
    obtain ⟨hu_5, rfl⟩ := hw
    have hE := hE.trans (spLet_eq hu_5)
    have hP : va_P (dC, dI) vwCl [(q0, .inr (9, [.ref q1, .ref q2, .int svc, .ref q3, .int tl, .int (0 : Int32), .int (u_5.2.1), .int (u_5.2.2), .ref q4, .int ati, .int ors, .ref q5, .ref q6])), (q1, .inl (cyI, 246, .inl u_4)), (q2, .inl (cyI, 984, .inl zv)), (q3, .inl (cyI, 80, .inl zt)), (q4, .inl (cyI, 5, .inl u_3)), (q5, .inl (cyI, 40, .inl zm)), (q6, .inl (cyI, 40, .inl zk))] H := hP
    have hD : va_D A [(q0, .inr (9, [.ref q1, .ref q2, .int svc, .ref q3, .int tl, .int (0 : Int32), .int (u_5.2.1), .int (u_5.2.2), .ref q4, .int ati, .int ors, .ref q5, .ref q6])), (q1, .inl (cyI, 246, .inl u_4)), (q2, .inl (cyI, 984, .inl zv)), (q3, .inl (cyI, 80, .inl zt)), (q4, .inl (cyI, 5, .inl u_3)), (q5, .inl (cyI, 40, .inl zm)), (q6, .inl (cyI, 40, .inl zk))] := hD
    refine lv_topi (fun x_7 ex_7 => ?_)
    have hE := hE.trans (spLet_eq ex_7)
    refine lv_istore_n (lv' := [(2, .int x_7), (0, .ref q0), (1, .int mo)]) hx hb dX9_predicted_34 rfl hl (by decide) rfl (fun ls hl => ?_)
    refine lv_aload_n hx hb dX9_predicted_35 rfl (lv_at hl 1 rfl) ?_
    refine mj_v (wr := []) (va_runV (As := []) (rest := []) ⟨hx, hb, hml, hown, hts⟩ (c_X9_takeBack l dC dI cyI H.size q0 q1 q2 q3 q4 q5 q6 svc tl (0 : Int32) (u_5.2.1) (u_5.2.2) ati ors u_4 zv zt u_3 zm zk) (cwV 0 hts (gBV b_665 b_666 b_667 b_5 b_668) rfl rfl rfl (by decide +kernel) ⟨Nat.le_of_ble_eq_true rfl, Nat.le_of_ble_eq_true rfl⟩) (prm_v eM_ok he hS hP hD hK (va_free (wc := [(q0, .inr (9, [.ref q1, .ref q2, .int svc, .ref q3, .int tl, .int (0 : Int32), .int (u_5.2.1), .int (u_5.2.2), .ref q4, .int ati, .int ors, .ref q5, .ref q6])), (q1, .inl (cyI, 246, .inl u_4)), (q2, .inl (cyI, 984, .inl zv)), (q3, .inl (cyI, 80, .inl zt)), (q4, .inl (cyI, 5, .inl u_3)), (q5, .inl (cyI, 40, .inl zm)), (q6, .inl (cyI, 40, .inl zk))]) hD hS hA [0, 1, 2, 3, 4, 5, 6] rfl) 0 rfl rfl rfl) rfl rfl hl.1 rfl (lv_room (Nat.le_of_ble_eq_true rfl)) dX9_predicted_36 ⟨Nat.le_of_ble_eq_true rfl, Nat.le_of_ble_eq_true rfl⟩) hP hD hS hA [0, 1, 2, 3, 4, 5, 6] [] rfl rfl (by decide) (by decide) (fun u_8 H locs hw hP hD hS => ?_)
    have hu_8 := hw
    have hE := hE.trans (spLet_eq hu_8)
    have hP : va_P (dC, dI) vwCl [(q0, .inr (9, [.ref q1, .ref q2, .int svc, .ref q3, .int tl, .int (0 : Int32), .int (u_5.2.1), .int (u_5.2.2), .ref q4, .int ati, .int ors, .ref q5, .ref q6])), (q1, .inl (cyI, 246, .inl u_8)), (q2, .inl (cyI, 984, .inl zv)), (q3, .inl (cyI, 80, .inl zt)), (q4, .inl (cyI, 5, .inl u_3)), (q5, .inl (cyI, 40, .inl zm)), (q6, .inl (cyI, 40, .inl zk))] H := hP
    have hD : va_D A [(q0, .inr (9, [.ref q1, .ref q2, .int svc, .ref q3, .int tl, .int (0 : Int32), .int (u_5.2.1), .int (u_5.2.2), .ref q4, .int ati, .int ors, .ref q5, .ref q6])), (q1, .inl (cyI, 246, .inl u_8)), (q2, .inl (cyI, 984, .inl zv)), (q3, .inl (cyI, 80, .inl zt)), (q4, .inl (cyI, 5, .inl u_3)), (q5, .inl (cyI, 40, .inl zm)), (q6, .inl (cyI, 40, .inl zk))] := hD
    have hz_u_8 : u_8 = zs := by rw [hu_8, hu_4, hu_3]; exact takeBack_id zs zp mo
    rw [hz_u_8] at hP hD
    refine lv_iload_n hx hb dX9_predicted_39 rfl (lv_at hl 0 rfl) ?_
    exact W.iret (v := x_7) hx hb hr (fun t h9 hW => ⟨⟨x_7, ((x_7, (0 : Int32), (u_5.2.1), (u_5.2.2), u_3) : Int32 × Int32 × Int32 × Int32 × (Nat → Int32)), rfl, ⟨hE.symm, rfl⟩, by rw [h9]; exact hP, hD⟩, hS.F h9⟩) hS.2.2 dX9_predicted_40
  ·
    have hE := hE.trans (if_pos c_2)
    refine lv_aload_n hx hb dX9_predicted_15 rfl (lv_at hl 0 rfl) ?_
    refine lv_iconst (v := 1) hx hb dX9_predicted_16 (by decide) ?_
    refine mj_i (wr := []) (va_runV (As := [.int (1 : Int32)]) (rest := []) ⟨hx, hb, hml, hown, hts⟩ (c_X9_fails l dC dI cyI H.size q0 q1 q2 q3 q4 q5 q6 svc tl (0 : Int32) mm mr ati ors zs zv zt zp zm zk (1 : Int32)) (cwV 1 hts (gBV b_185 b_186 b_187 b_5 b_188) rfl rfl rfl (by decide +kernel) ⟨Nat.le_of_ble_eq_true rfl, Nat.le_of_ble_eq_true rfl⟩) (prm_v eM_ok he hS hP hD hK (va_free (wc := [(q0, .inr (9, [.ref q1, .ref q2, .int svc, .ref q3, .int tl, .int (0 : Int32), .int mm, .int mr, .ref q4, .int ati, .int ors, .ref q5, .ref q6])), (q1, .inl (cyI, 246, .inl zs)), (q2, .inl (cyI, 984, .inl zv)), (q3, .inl (cyI, 80, .inl zt)), (q4, .inl (cyI, 5, .inl zp)), (q5, .inl (cyI, 40, .inl zm)), (q6, .inl (cyI, 40, .inl zk))]) hD hS hA [0, 1, 2, 3, 4, 5, 6] rfl) 0 rfl rfl rfl) rfl rfl hl.1 rfl (lv_room (Nat.le_of_ble_eq_true rfl)) dX9_predicted_17 ⟨Nat.le_of_ble_eq_true rfl, Nat.le_of_ble_eq_true rfl⟩) hP hD hS hA [0, 1, 2, 3, 4, 5, 6] [] rfl rfl (by decide) (by decide) (fun r_10 u_9 H locs hw hP hD hS => ?_)
    obtain ⟨hu_9, rfl⟩ := hw
    have hE := hE.trans (spLet_eq hu_9)
    have hP : va_P (dC, dI) vwCl [(q0, .inr (9, [.ref q1, .ref q2, .int svc, .ref q3, .int tl, .int (u_9.2), .int mm, .int mr, .ref q4, .int ati, .int ors, .ref q5, .ref q6])), (q1, .inl (cyI, 246, .inl zs)), (q2, .inl (cyI, 984, .inl zv)), (q3, .inl (cyI, 80, .inl zt)), (q4, .inl (cyI, 5, .inl zp)), (q5, .inl (cyI, 40, .inl zm)), (q6, .inl (cyI, 40, .inl zk))] H := hP
    have hD : va_D A [(q0, .inr (9, [.ref q1, .ref q2, .int svc, .ref q3, .int tl, .int (u_9.2), .int mm, .int mr, .ref q4, .int ati, .int ors, .ref q5, .ref q6])), (q1, .inl (cyI, 246, .inl zs)), (q2, .inl (cyI, 984, .inl zv)), (q3, .inl (cyI, 80, .inl zt)), (q4, .inl (cyI, 5, .inl zp)), (q5, .inl (cyI, 40, .inl zm)), (q6, .inl (cyI, 40, .inl zk))] := hD
    exact W.iret (v := (u_9.1)) hx hb hr (fun t h9 hW => ⟨⟨(u_9.1), (((u_9.1), (u_9.2), mm, mr, zp) : Int32 × Int32 × Int32 × Int32 × (Nat → Int32)), rfl, ⟨hE.symm, rfl⟩, by rw [h9]; exact hP, hD⟩, hS.F h9⟩) hS.2.2 dX9_predicted_20
def m_boomValue (zs : Nat → Int32) (wh : Int32) : Int32 :=
  if wh = 0 then ((zs 0)) else (if wh = 1 then ((zs 1)) else (if wh = 2 then ((zs 2)) else (if wh = 3 then (spLet (m_radius zs) (fun r_5 => r_5)) else (if wh = 4 then (spLet (m_height zs) (fun r_7 => r_7)) else (if wh = 5 then ((zs 3)) else (if wh = 6 then ((zs 4)) else (if wh = 7 then ((zs 6)) else (if wh = 8 then (spLet (m_pressure zs) (fun r_12 => r_12)) else (if wh = 9 then (spLet (m_violation zs) (fun r_14 => r_14)) else (if wh = 10 then ((zs 8)) else ((zs 9))))))))))))
set_option maxHeartbeats 1000000 in
set_option maxRecDepth 100000 in
theorem c_X9_boomValue (l : Launch) (dC : Nat → ClassId) (dI : Nat → Nat → Nat) (cyI : ClassId) (q0 : Nat) (q1 : Nat) (q2 : Nat) (q3 : Nat) (q4 : Nat) (q5 : Nat) (q6 : Nat) (svc : Int32) (tl : Int32) (cde : Int32) (mm : Int32) (mr : Int32) (ati : Int32) (ors : Int32) (zs : Nat → Int32) (zv : Nat → Int32) (zt : Nat → Int32) (zp : Nat → Int32) (zm : Nat → Int32) (zk : Nat → Int32) (wh : Int32) (hG : mG zs) : Met l yX9_boomValue wqX9_boomValue ({ frames := 6, cells := 0, slots := 0, locals := 125 } : Room) (va_Pc [.ref q0, .int wh] (pB (dC, dI) [(q0, .inr (9, [.ref q1, .ref q2, .int svc, .ref q3, .int tl, .int cde, .int mm, .int mr, .ref q4, .int ati, .int ors, .ref q5, .ref q6])), (q1, .inl (cyI, 246, .inl zs)), (q2, .inl (cyI, 984, .inl zv)), (q3, .inl (cyI, 80, .inl zt)), (q4, .inl (cyI, 5, .inl zp)), (q5, .inl (cyI, 40, .inl zm)), (q6, .inl (cyI, 40, .inl zk))] [(cyI, .int)] eM)) (vp_Si (fun r => r = (m_boomValue zs wh))) 0 0 aF := by
  refine Met.ofW (cc := cX9_boomValue) (maxL := 2) (ret := (some .int)) (by decide) rfl ?_
  intro p e s m args below meth c s₁ B hml hv
  obtain ⟨rfl, hP, hK, he⟩ := hv
  have hx := B.exec
  have hb := B.bytes
  have hr := B.returns
  have hts := atoms_spec (ws := wqX9_boomValue) B.pre
  have hown : s.vm.findClass RX9 = some m.cls := findClass_of_methodNamed B.named
  have hlocks := B.notSynchronized
  have w_0 := hts (Cond.fieldLink RX9 7 "CraneLimiterModel" "s" "[I") (List.mem_cons_of_mem _ b_93)
  have i_X9 : ∀ w ∈ u_ws RX9 TX9 13, w ∈ wqX9_boomValue := fun w h => List.mem_cons_of_mem _ (bX9 w h)
  have hS : va_S aF s.heap s.heap [] := va_S.rf
  have hP : va_P (dC, dI) vwCl [(q0, .inr (9, [.ref q1, .ref q2, .int svc, .ref q3, .int tl, .int cde, .int mm, .int mr, .ref q4, .int ati, .int ors, .ref q5, .ref q6])), (q1, .inl (cyI, 246, .inl zs)), (q2, .inl (cyI, 984, .inl zv)), (q3, .inl (cyI, 80, .inl zt)), (q4, .inl (cyI, 5, .inl zp)), (q5, .inl (cyI, 40, .inl zm)), (q6, .inl (cyI, 40, .inl zk))] s.heap := hP
  have hl := lv_entry ([.ref q0, .int wh] : List Value) (n := 2) (Nat.le_of_ble_eq_true rfl)
  rw [lg_entry_eq]
  generalize (lg_sl ([.ref q0, .int wh] : List Value) ++ List.replicate (2 - (lg_sl ([.ref q0, .int wh] : List Value)).length) Slot.unset).toArray = ls at hl ⊢
  have hl : lv_has ls 2 [(0, .ref q0), (1, .int wh)] := hl
  have hE : m_boomValue zs wh = m_boomValue zs wh := rfl
  refine lv_iload_n hx hb dX9_boomValue_0 rfl (lv_at hl 1 rfl) ?_
  by_cases c_1 : wh = 0
  ·
    have hE := hE.trans (if_pos c_1)
    refine lv_tableIn (tgt := 60) (off := 59) hx hb dX9_boomValue_1 (by rw [c_1]; decide) (by rw [c_1]; decide) (by rw [c_1]; rfl) (by decide) ?_
    refine lv_aload_n hx hb dX9_boomValue_60 rfl (lv_at hl 0 rfl) ?_
    refine va_get (D := (dC, dI)) (ci := 9) (v := .ref q1) (C := RX9) (T := TX9) (N := 13) hx hb hts i_X9 hown hK hP 0 rfl rfl 0 (by decide) w_0 (fun _ h9 => h9) rfl dX9_boomValue_61 ?_
    refine lv_iconst (v := 0) hx hb dX9_boomValue_64 (by decide) ?_
    refine ra_ld hx hb hK hP 1 0 rfl rfl (j := 0) (rfl : (0 : Int32) = nI 0) (by omega) (by omega) dX9_boomValue_65 ?_
    exact W.iret (v := (zs 0)) hx hb hr (fun t ht hW => ⟨_, rfl, hE.symm, ht⟩) (fun q h => by cases h) dX9_boomValue_66
  ·
    have hE := hE.trans (if_neg c_1)
    by_cases c_2 : wh = 1
    ·
      have hE := hE.trans (if_pos c_2)
      refine lv_tableIn (tgt := 67) (off := 66) hx hb dX9_boomValue_1 (by rw [c_2]; decide) (by rw [c_2]; decide) (by rw [c_2]; rfl) (by decide) ?_
      refine lv_aload_n hx hb dX9_boomValue_67 rfl (lv_at hl 0 rfl) ?_
      refine va_get (D := (dC, dI)) (ci := 9) (v := .ref q1) (C := RX9) (T := TX9) (N := 13) hx hb hts i_X9 hown hK hP 0 rfl rfl 0 (by decide) w_0 (fun _ h9 => h9) rfl dX9_boomValue_68 ?_
      refine lv_iconst (v := 1) hx hb dX9_boomValue_71 (by decide) ?_
      refine ra_ld hx hb hK hP 1 0 rfl rfl (j := 1) (rfl : (1 : Int32) = nI 1) (by omega) (by omega) dX9_boomValue_72 ?_
      exact W.iret (v := (zs 1)) hx hb hr (fun t ht hW => ⟨_, rfl, hE.symm, ht⟩) (fun q h => by cases h) dX9_boomValue_73
    ·
      have hE := hE.trans (if_neg c_2)
      by_cases c_3 : wh = 2
      ·
        have hE := hE.trans (if_pos c_3)
        refine lv_tableIn (tgt := 74) (off := 73) hx hb dX9_boomValue_1 (by rw [c_3]; decide) (by rw [c_3]; decide) (by rw [c_3]; rfl) (by decide) ?_
        refine lv_aload_n hx hb dX9_boomValue_74 rfl (lv_at hl 0 rfl) ?_
        refine va_get (D := (dC, dI)) (ci := 9) (v := .ref q1) (C := RX9) (T := TX9) (N := 13) hx hb hts i_X9 hown hK hP 0 rfl rfl 0 (by decide) w_0 (fun _ h9 => h9) rfl dX9_boomValue_75 ?_
        refine lv_iconst (v := 2) hx hb dX9_boomValue_78 (by decide) ?_
        refine ra_ld hx hb hK hP 1 0 rfl rfl (j := 2) (rfl : (2 : Int32) = nI 2) (by omega) (by omega) dX9_boomValue_79 ?_
        exact W.iret (v := (zs 2)) hx hb hr (fun t ht hW => ⟨_, rfl, hE.symm, ht⟩) (fun q h => by cases h) dX9_boomValue_80
      ·
        have hE := hE.trans (if_neg c_3)
        by_cases c_4 : wh = 3
        ·
          have hE := hE.trans (if_pos c_4)
          refine lv_tableIn (tgt := 81) (off := 80) hx hb dX9_boomValue_1 (by rw [c_4]; decide) (by rw [c_4]; decide) (by rw [c_4]; rfl) (by decide) ?_
          refine lv_aload_n hx hb dX9_boomValue_81 rfl (lv_at hl 0 rfl) ?_
          refine vp_callSi (W.runV (As := []) (rest := []) ⟨hx, hb, hml, hown, hts⟩ (c_X9_radius l dC dI cyI q0 q1 q2 q3 q4 q5 q6 svc tl cde mm mr ati ors zs zv zt zp zm zk) (cwV 0 hts (gBV b_380 b_381 b_382 b_5 b_383) rfl rfl rfl (by decide +kernel) ⟨Nat.le_of_ble_eq_true rfl, Nat.le_of_ble_eq_true rfl⟩) (pre_v eM_ok he hS hP hK 0 rfl rfl rfl) rfl rfl hl.1 rfl (lv_room (Nat.le_of_ble_eq_true rfl)) dX9_boomValue_82 ⟨Nat.zero_le _, Nat.zero_le _⟩) (fun r_5 hr_5 => ?_)
          have hE := hE.trans (spLet_eq hr_5)
          exact W.iret (v := r_5) hx hb hr (fun t ht hW => ⟨_, rfl, hE.symm, ht⟩) (fun q h => by cases h) dX9_boomValue_85
        ·
          have hE := hE.trans (if_neg c_4)
          by_cases c_6 : wh = 4
          ·
            have hE := hE.trans (if_pos c_6)
            refine lv_tableIn (tgt := 86) (off := 85) hx hb dX9_boomValue_1 (by rw [c_6]; decide) (by rw [c_6]; decide) (by rw [c_6]; rfl) (by decide) ?_
            refine lv_aload_n hx hb dX9_boomValue_86 rfl (lv_at hl 0 rfl) ?_
            refine vp_callSi (W.runV (As := []) (rest := []) ⟨hx, hb, hml, hown, hts⟩ (c_X9_height l dC dI cyI q0 q1 q2 q3 q4 q5 q6 svc tl cde mm mr ati ors zs zv zt zp zm zk) (cwV 0 hts (gBV b_396 b_397 b_398 b_5 b_399) rfl rfl rfl (by decide +kernel) ⟨Nat.le_of_ble_eq_true rfl, Nat.le_of_ble_eq_true rfl⟩) (pre_v eM_ok he hS hP hK 0 rfl rfl rfl) rfl rfl hl.1 rfl (lv_room (Nat.le_of_ble_eq_true rfl)) dX9_boomValue_87 ⟨Nat.zero_le _, Nat.zero_le _⟩) (fun r_7 hr_7 => ?_)
            have hE := hE.trans (spLet_eq hr_7)
            exact W.iret (v := r_7) hx hb hr (fun t ht hW => ⟨_, rfl, hE.symm, ht⟩) (fun q h => by cases h) dX9_boomValue_90
          ·
            have hE := hE.trans (if_neg c_6)
            by_cases c_8 : wh = 5
            ·
              have hE := hE.trans (if_pos c_8)
              refine lv_tableIn (tgt := 91) (off := 90) hx hb dX9_boomValue_1 (by rw [c_8]; decide) (by rw [c_8]; decide) (by rw [c_8]; rfl) (by decide) ?_
              refine lv_aload_n hx hb dX9_boomValue_91 rfl (lv_at hl 0 rfl) ?_
              refine va_get (D := (dC, dI)) (ci := 9) (v := .ref q1) (C := RX9) (T := TX9) (N := 13) hx hb hts i_X9 hown hK hP 0 rfl rfl 0 (by decide) w_0 (fun _ h9 => h9) rfl dX9_boomValue_92 ?_
              refine lv_iconst (v := 3) hx hb dX9_boomValue_95 (by decide) ?_
              refine ra_ld hx hb hK hP 1 0 rfl rfl (j := 3) (rfl : (3 : Int32) = nI 3) (by omega) (by omega) dX9_boomValue_96 ?_
              exact W.iret (v := (zs 3)) hx hb hr (fun t ht hW => ⟨_, rfl, hE.symm, ht⟩) (fun q h => by cases h) dX9_boomValue_97
            ·
              have hE := hE.trans (if_neg c_8)
              by_cases c_9 : wh = 6
              ·
                have hE := hE.trans (if_pos c_9)
                refine lv_tableIn (tgt := 98) (off := 97) hx hb dX9_boomValue_1 (by rw [c_9]; decide) (by rw [c_9]; decide) (by rw [c_9]; rfl) (by decide) ?_
                refine lv_aload_n hx hb dX9_boomValue_98 rfl (lv_at hl 0 rfl) ?_
                refine va_get (D := (dC, dI)) (ci := 9) (v := .ref q1) (C := RX9) (T := TX9) (N := 13) hx hb hts i_X9 hown hK hP 0 rfl rfl 0 (by decide) w_0 (fun _ h9 => h9) rfl dX9_boomValue_99 ?_
                refine lv_iconst (v := 4) hx hb dX9_boomValue_102 (by decide) ?_
                refine ra_ld hx hb hK hP 1 0 rfl rfl (j := 4) (rfl : (4 : Int32) = nI 4) (by omega) (by omega) dX9_boomValue_103 ?_
                exact W.iret (v := (zs 4)) hx hb hr (fun t ht hW => ⟨_, rfl, hE.symm, ht⟩) (fun q h => by cases h) dX9_boomValue_104
              ·
                have hE := hE.trans (if_neg c_9)
                by_cases c_10 : wh = 7
                ·
                  have hE := hE.trans (if_pos c_10)
                  refine lv_tableIn (tgt := 105) (off := 104) hx hb dX9_boomValue_1 (by rw [c_10]; decide) (by rw [c_10]; decide) (by rw [c_10]; rfl) (by decide) ?_
                  refine lv_aload_n hx hb dX9_boomValue_105 rfl (lv_at hl 0 rfl) ?_
                  refine va_get (D := (dC, dI)) (ci := 9) (v := .ref q1) (C := RX9) (T := TX9) (N := 13) hx hb hts i_X9 hown hK hP 0 rfl rfl 0 (by decide) w_0 (fun _ h9 => h9) rfl dX9_boomValue_106 ?_
                  refine lv_bipush (v := 6) hx hb dX9_boomValue_109 (by decide) ?_
                  refine ra_ld hx hb hK hP 1 0 rfl rfl (j := 6) (rfl : (6 : Int32) = nI 6) (by omega) (by omega) dX9_boomValue_111 ?_
                  exact W.iret (v := (zs 6)) hx hb hr (fun t ht hW => ⟨_, rfl, hE.symm, ht⟩) (fun q h => by cases h) dX9_boomValue_112
                ·
                  have hE := hE.trans (if_neg c_10)
                  by_cases c_11 : wh = 8
                  ·
                    have hE := hE.trans (if_pos c_11)
                    refine lv_tableIn (tgt := 113) (off := 112) hx hb dX9_boomValue_1 (by rw [c_11]; decide) (by rw [c_11]; decide) (by rw [c_11]; rfl) (by decide) ?_
                    refine lv_aload_n hx hb dX9_boomValue_113 rfl (lv_at hl 0 rfl) ?_
                    refine vp_callSi (W.runV (As := []) (rest := []) ⟨hx, hb, hml, hown, hts⟩ (c_X9_pressure l dC dI cyI q0 q1 q2 q3 q4 q5 q6 svc tl cde mm mr ati ors zs zv zt zp zm zk) (cwV 0 hts (gBV b_684 b_685 b_686 b_5 b_687) rfl rfl rfl (by decide +kernel) ⟨Nat.le_of_ble_eq_true rfl, Nat.le_of_ble_eq_true rfl⟩) (pre_v eM_ok he hS hP hK 0 rfl rfl rfl) rfl rfl hl.1 rfl (lv_room (Nat.le_of_ble_eq_true rfl)) dX9_boomValue_114 ⟨Nat.zero_le _, Nat.zero_le _⟩) (fun r_12 hr_12 => ?_)
                    have hE := hE.trans (spLet_eq hr_12)
                    exact W.iret (v := r_12) hx hb hr (fun t ht hW => ⟨_, rfl, hE.symm, ht⟩) (fun q h => by cases h) dX9_boomValue_117
                  ·
                    have hE := hE.trans (if_neg c_11)
                    by_cases c_13 : wh = 9
                    ·
                      have hE := hE.trans (if_pos c_13)
                      refine lv_tableIn (tgt := 118) (off := 117) hx hb dX9_boomValue_1 (by rw [c_13]; decide) (by rw [c_13]; decide) (by rw [c_13]; rfl) (by decide) ?_
                      refine lv_aload_n hx hb dX9_boomValue_118 rfl (lv_at hl 0 rfl) ?_
                      refine vp_callSi (W.runV (As := []) (rest := []) ⟨hx, hb, hml, hown, hts⟩ (c_X9_violation l dC dI cyI q0 q1 q2 q3 q4 q5 q6 svc tl cde mm mr ati ors zs zv zt zp zm zk (hG.zones).1 (hG.zones).2) (cwV 0 hts (gBV b_376 b_377 b_378 b_5 b_379) rfl rfl rfl (by decide +kernel) ⟨Nat.le_of_ble_eq_true rfl, Nat.le_of_ble_eq_true rfl⟩) (pre_v eM_ok he hS hP hK 0 rfl rfl rfl) rfl rfl hl.1 rfl (lv_room (Nat.le_of_ble_eq_true rfl)) dX9_boomValue_119 ⟨Nat.zero_le _, Nat.zero_le _⟩) (fun r_14 hr_14 => ?_)
                      have hE := hE.trans (spLet_eq hr_14)
                      exact W.iret (v := r_14) hx hb hr (fun t ht hW => ⟨_, rfl, hE.symm, ht⟩) (fun q h => by cases h) dX9_boomValue_122
                    ·
                      have hE := hE.trans (if_neg c_13)
                      by_cases c_15 : wh = 10
                      ·
                        have hE := hE.trans (if_pos c_15)
                        refine lv_tableIn (tgt := 123) (off := 122) hx hb dX9_boomValue_1 (by rw [c_15]; decide) (by rw [c_15]; decide) (by rw [c_15]; rfl) (by decide) ?_
                        refine lv_aload_n hx hb dX9_boomValue_123 rfl (lv_at hl 0 rfl) ?_
                        refine va_get (D := (dC, dI)) (ci := 9) (v := .ref q1) (C := RX9) (T := TX9) (N := 13) hx hb hts i_X9 hown hK hP 0 rfl rfl 0 (by decide) w_0 (fun _ h9 => h9) rfl dX9_boomValue_124 ?_
                        refine lv_bipush (v := 8) hx hb dX9_boomValue_127 (by decide) ?_
                        refine ra_ld hx hb hK hP 1 0 rfl rfl (j := 8) (rfl : (8 : Int32) = nI 8) (by omega) (by omega) dX9_boomValue_129 ?_
                        exact W.iret (v := (zs 8)) hx hb hr (fun t ht hW => ⟨_, rfl, hE.symm, ht⟩) (fun q h => by cases h) dX9_boomValue_130
                      ·
                        have hE := hE.trans (if_neg c_15)
                        refine lv_tableOut (tgt := 131) hx hb dX9_boomValue_1 (by
                            have n_c_1 : ¬ (wh).toInt = 0 := lv_neT c_1 rfl
                            have n_c_2 : ¬ (wh).toInt = 1 := lv_neT c_2 rfl
                            have n_c_3 : ¬ (wh).toInt = 2 := lv_neT c_3 rfl
                            have n_c_4 : ¬ (wh).toInt = 3 := lv_neT c_4 rfl
                            have n_c_6 : ¬ (wh).toInt = 4 := lv_neT c_6 rfl
                            have n_c_8 : ¬ (wh).toInt = 5 := lv_neT c_8 rfl
                            have n_c_9 : ¬ (wh).toInt = 6 := lv_neT c_9 rfl
                            have n_c_10 : ¬ (wh).toInt = 7 := lv_neT c_10 rfl
                            have n_c_11 : ¬ (wh).toInt = 8 := lv_neT c_11 rfl
                            have n_c_13 : ¬ (wh).toInt = 9 := lv_neT c_13 rfl
                            have n_c_15 : ¬ (wh).toInt = 10 := lv_neT c_15 rfl
                            omega) (by decide) ?_
                        refine lv_aload_n hx hb dX9_boomValue_131 rfl (lv_at hl 0 rfl) ?_
                        refine va_get (D := (dC, dI)) (ci := 9) (v := .ref q1) (C := RX9) (T := TX9) (N := 13) hx hb hts i_X9 hown hK hP 0 rfl rfl 0 (by decide) w_0 (fun _ h9 => h9) rfl dX9_boomValue_132 ?_
                        refine lv_bipush (v := 9) hx hb dX9_boomValue_135 (by decide) ?_
                        refine ra_ld hx hb hK hP 1 0 rfl rfl (j := 9) (rfl : (9 : Int32) = nI 9) (by omega) (by omega) dX9_boomValue_137 ?_
                        exact W.iret (v := (zs 9)) hx hb hr (fun t ht hW => ⟨_, rfl, hE.symm, ht⟩) (fun q h => by cases h) dX9_boomValue_138
def m_boom (zs : Nat → Int32) (wh : Int32) : Int32 × Int32 :=
  spLet (m_in wh (0 : Int32) (11 : Int32)) (fun r_1 => if r_1 = 0 then (spLet (m_fails (1 : Int32)) (fun u_3 => ((u_3.1), (u_3.2)))) else (spLet (m_boomValue zs wh) (fun r_5 => (r_5, (0 : Int32)))))
set_option maxHeartbeats 1000000 in
set_option maxRecDepth 100000 in
theorem c_X9_boom (l : Launch) (dC : Nat → ClassId) (dI : Nat → Nat → Nat) (cyI : ClassId) (sz : Nat) (q0 : Nat) (q1 : Nat) (q2 : Nat) (q3 : Nat) (q4 : Nat) (q5 : Nat) (q6 : Nat) (svc : Int32) (tl : Int32) (cde : Int32) (mm : Int32) (mr : Int32) (ati : Int32) (ors : Int32) (zs : Nat → Int32) (zv : Nat → Int32) (zt : Nat → Int32) (zp : Nat → Int32) (zm : Nat → Int32) (zk : Nat → Int32) (wh : Int32) (hG : mG zs) : Met l yX9_boom wqX9_boom ({ frames := 7, cells := 0, slots := 0, locals := 146 } : Room) (va_Pc [.ref q0, .int wh] (pC (dC, dI) [(q0, .inr (9, [.ref q1, .ref q2, .int svc, .ref q3, .int tl, .int cde, .int mm, .int mr, .ref q4, .int ati, .int ors, .ref q5, .ref q6])), (q1, .inl (cyI, 246, .inl zs)), (q2, .inl (cyI, 984, .inl zv)), (q3, .inl (cyI, 80, .inl zt)), (q4, .inl (cyI, 5, .inl zp)), (q5, .inl (cyI, 40, .inl zm)), (q6, .inl (cyI, 40, .inl zk))] [(cyI, .int)] eM sz)) (va_Qi (fun (r : Int32) (u : Int32 × Int32) => u = (m_boom zs wh) ∧ r = u.1) (fun (u : Int32 × Int32) t => va_P (dC, dI) vwCl [(q0, .inr (9, [.ref q1, .ref q2, .int svc, .ref q3, .int tl, .int (u.2), .int mm, .int mr, .ref q4, .int ati, .int ors, .ref q5, .ref q6])), (q1, .inl (cyI, 246, .inl zs)), (q2, .inl (cyI, 984, .inl zv)), (q3, .inl (cyI, 80, .inl zt)), (q4, .inl (cyI, 5, .inl zp)), (q5, .inl (cyI, 40, .inl zm)), (q6, .inl (cyI, 40, .inl zk))] t.heap ∧ va_D (va_A [(q0, .inr (9, [.ref q1, .ref q2, .int svc, .ref q3, .int tl, .int cde, .int mm, .int mr, .ref q4, .int ati, .int ors, .ref q5, .ref q6])), (q1, .inl (cyI, 246, .inl zs)), (q2, .inl (cyI, 984, .inl zv)), (q3, .inl (cyI, 80, .inl zt)), (q4, .inl (cyI, 5, .inl zp)), (q5, .inl (cyI, 40, .inl zm)), (q6, .inl (cyI, 40, .inl zk))] sz) [(q0, .inr (9, [.ref q1, .ref q2, .int svc, .ref q3, .int tl, .int (u.2), .int mm, .int mr, .ref q4, .int ati, .int ors, .ref q5, .ref q6])), (q1, .inl (cyI, 246, .inl zs)), (q2, .inl (cyI, 984, .inl zv)), (q3, .inl (cyI, 80, .inl zt)), (q4, .inl (cyI, 5, .inl zp)), (q5, .inl (cyI, 40, .inl zm)), (q6, .inl (cyI, 40, .inl zk))]) (va_A [(q0, .inr (9, [.ref q1, .ref q2, .int svc, .ref q3, .int tl, .int cde, .int mm, .int mr, .ref q4, .int ati, .int ors, .ref q5, .ref q6])), (q1, .inl (cyI, 246, .inl zs)), (q2, .inl (cyI, 984, .inl zv)), (q3, .inl (cyI, 80, .inl zt)), (q4, .inl (cyI, 5, .inl zp)), (q5, .inl (cyI, 40, .inl zm)), (q6, .inl (cyI, 40, .inl zk))] sz)) 0 0 (va_A [(q0, .inr (9, [.ref q1, .ref q2, .int svc, .ref q3, .int tl, .int cde, .int mm, .int mr, .ref q4, .int ati, .int ors, .ref q5, .ref q6])), (q1, .inl (cyI, 246, .inl zs)), (q2, .inl (cyI, 984, .inl zv)), (q3, .inl (cyI, 80, .inl zt)), (q4, .inl (cyI, 5, .inl zp)), (q5, .inl (cyI, 40, .inl zm)), (q6, .inl (cyI, 40, .inl zk))] sz) := by
  refine Met.ofW (cc := cX9_boom) (maxL := 2) (ret := (some .int)) (by decide) rfl ?_
  intro p e s m args below meth c s₁ B hml hv
  obtain ⟨rfl, hsz, hP, hK, hD0, he⟩ := hv
  have hx := B.exec
  have hb := B.bytes
  have hr := B.returns
  have hts := atoms_spec (ws := wqX9_boom) B.pre
  have hown : s.vm.findClass RX9 = some m.cls := findClass_of_methodNamed B.named
  have hlocks := B.notSynchronized
  have w_0 := hts (Cond.fieldLink RX9 28 "CraneLimiterModel" "code" "I") (List.mem_cons_of_mem _ b_181)
  have i_X9 : ∀ w ∈ u_ws RX9 TX9 13, w ∈ wqX9_boom := fun w h => List.mem_cons_of_mem _ (bX9 w h)
  subst hsz
  have hD := hD0.self (sz := s.heap.size)
  generalize hAe : va_A [(q0, .inr (9, [.ref q1, .ref q2, .int svc, .ref q3, .int tl, .int cde, .int mm, .int mr, .ref q4, .int ati, .int ors, .ref q5, .ref q6])), (q1, .inl (cyI, 246, .inl zs)), (q2, .inl (cyI, 984, .inl zv)), (q3, .inl (cyI, 80, .inl zt)), (q4, .inl (cyI, 5, .inl zp)), (q5, .inl (cyI, 40, .inl zm)), (q6, .inl (cyI, 40, .inl zk))] s.heap.size = A at hD he ⊢
  have hA : ∀ q : Nat, s.heap.size ≤ q → A q := fun q h => by rw [← hAe]; exact Or.inr h
  have hS : va_S A s.heap s.heap [] := va_S.rf
  have hP : va_P (dC, dI) vwCl [(q0, .inr (9, [.ref q1, .ref q2, .int svc, .ref q3, .int tl, .int cde, .int mm, .int mr, .ref q4, .int ati, .int ors, .ref q5, .ref q6])), (q1, .inl (cyI, 246, .inl zs)), (q2, .inl (cyI, 984, .inl zv)), (q3, .inl (cyI, 80, .inl zt)), (q4, .inl (cyI, 5, .inl zp)), (q5, .inl (cyI, 40, .inl zm)), (q6, .inl (cyI, 40, .inl zk))] s.heap := hP
  have hl := lv_entry ([.ref q0, .int wh] : List Value) (n := 2) (Nat.le_of_ble_eq_true rfl)
  rw [lg_entry_eq]
  generalize (lg_sl ([.ref q0, .int wh] : List Value) ++ List.replicate (2 - (lg_sl ([.ref q0, .int wh] : List Value)).length) Slot.unset).toArray = ls at hl ⊢
  have hl : lv_has ls 2 [(0, .ref q0), (1, .int wh)] := hl
  have hE : m_boom zs wh = m_boom zs wh := rfl
  refine lv_aload_n hx hb dX9_boom_0 rfl (lv_at hl 0 rfl) ?_
  refine lv_iconst (v := 0) hx hb dX9_boom_1 (by decide) ?_
  refine va_put (D := (dC, dI)) (ci := 9) (v := .int (0 : Int32)) (ty := .int) (C := RX9) (T := TX9) (N := 13) hx hb hts i_X9 tyX9 tyX9_ok nmX9 hown hK hP hD hS 0 rfl rfl 5 (by decide) w_0 (fun _ h9 => h9) rfl (by decide +kernel) (rfl) (rfl) (Nat.le_of_ble_eq_true rfl) dX9_boom_2 (fun H locs hP hD hS => ?_)
  have hP : va_P (dC, dI) vwCl [(q0, .inr (9, [.ref q1, .ref q2, .int svc, .ref q3, .int tl, .int (0 : Int32), .int mm, .int mr, .ref q4, .int ati, .int ors, .ref q5, .ref q6])), (q1, .inl (cyI, 246, .inl zs)), (q2, .inl (cyI, 984, .inl zv)), (q3, .inl (cyI, 80, .inl zt)), (q4, .inl (cyI, 5, .inl zp)), (q5, .inl (cyI, 40, .inl zm)), (q6, .inl (cyI, 40, .inl zk))] H := hP
  have hD : va_D A [(q0, .inr (9, [.ref q1, .ref q2, .int svc, .ref q3, .int tl, .int (0 : Int32), .int mm, .int mr, .ref q4, .int ati, .int ors, .ref q5, .ref q6])), (q1, .inl (cyI, 246, .inl zs)), (q2, .inl (cyI, 984, .inl zv)), (q3, .inl (cyI, 80, .inl zt)), (q4, .inl (cyI, 5, .inl zp)), (q5, .inl (cyI, 40, .inl zm)), (q6, .inl (cyI, 40, .inl zk))] := hD
  refine lv_iload_n hx hb dX9_boom_5 rfl (lv_at hl 1 rfl) ?_
  refine lv_iconst (v := 0) hx hb dX9_boom_6 (by decide) ?_
  refine lv_bipush (v := 11) hx hb dX9_boom_7 (by decide) ?_
  refine vp_callSi (W.runS (As := [.int wh, .int (0 : Int32), .int (11 : Int32)]) (rest := []) ⟨hx, hb, hml, hown, hts⟩ (c_X9_in l dC dI cyI wh (0 : Int32) (11 : Int32)) (va_cwS 3 hts (gBS b_182 b_183 b_5 b_184) rfl rfl rfl (by decide +kernel) ⟨Nat.le_of_ble_eq_true rfl, Nat.le_of_ble_eq_true rfl⟩) (pre_s eM_ok he hS (hP.sub (ws' := []) [] rfl) (hK.sub (tys' := []) [] rfl)) rfl rfl hl.1 rfl (lv_room (Nat.le_of_ble_eq_true rfl)) dX9_boom_9 ⟨Nat.zero_le _, Nat.zero_le _⟩) (fun r_1 hr_1 => ?_)
  obtain ⟨hr_1, hbr_1⟩ := hr_1
  have hE := hE.trans (spLet_eq hr_1)
  refine lv_if_eq (tgt := 23) hx hb dX9_boom_12 (by decide) (fun c_2 => ?_) (fun c_2 => ?_)
  ·
    have hE := hE.trans (if_pos c_2)
    refine lv_aload_n hx hb dX9_boom_23 rfl (lv_at hl 0 rfl) ?_
    refine lv_iconst (v := 1) hx hb dX9_boom_24 (by decide) ?_
    refine mj_i (wr := []) (va_runV (As := [.int (1 : Int32)]) (rest := []) ⟨hx, hb, hml, hown, hts⟩ (c_X9_fails l dC dI cyI H.size q0 q1 q2 q3 q4 q5 q6 svc tl (0 : Int32) mm mr ati ors zs zv zt zp zm zk (1 : Int32)) (cwV 1 hts (gBV b_185 b_186 b_187 b_5 b_188) rfl rfl rfl (by decide +kernel) ⟨Nat.le_of_ble_eq_true rfl, Nat.le_of_ble_eq_true rfl⟩) (prm_v eM_ok he hS hP hD hK (va_free (wc := [(q0, .inr (9, [.ref q1, .ref q2, .int svc, .ref q3, .int tl, .int (0 : Int32), .int mm, .int mr, .ref q4, .int ati, .int ors, .ref q5, .ref q6])), (q1, .inl (cyI, 246, .inl zs)), (q2, .inl (cyI, 984, .inl zv)), (q3, .inl (cyI, 80, .inl zt)), (q4, .inl (cyI, 5, .inl zp)), (q5, .inl (cyI, 40, .inl zm)), (q6, .inl (cyI, 40, .inl zk))]) hD hS hA [0, 1, 2, 3, 4, 5, 6] rfl) 0 rfl rfl rfl) rfl rfl hl.1 rfl (lv_room (Nat.le_of_ble_eq_true rfl)) dX9_boom_25 ⟨Nat.le_of_ble_eq_true rfl, Nat.le_of_ble_eq_true rfl⟩) hP hD hS hA [0, 1, 2, 3, 4, 5, 6] [] rfl rfl (by decide) (by decide) (fun r_4 u_3 H locs hw hP hD hS => ?_)
    obtain ⟨hu_3, rfl⟩ := hw
    have hE := hE.trans (spLet_eq hu_3)
    have hP : va_P (dC, dI) vwCl [(q0, .inr (9, [.ref q1, .ref q2, .int svc, .ref q3, .int tl, .int (u_3.2), .int mm, .int mr, .ref q4, .int ati, .int ors, .ref q5, .ref q6])), (q1, .inl (cyI, 246, .inl zs)), (q2, .inl (cyI, 984, .inl zv)), (q3, .inl (cyI, 80, .inl zt)), (q4, .inl (cyI, 5, .inl zp)), (q5, .inl (cyI, 40, .inl zm)), (q6, .inl (cyI, 40, .inl zk))] H := hP
    have hD : va_D A [(q0, .inr (9, [.ref q1, .ref q2, .int svc, .ref q3, .int tl, .int (u_3.2), .int mm, .int mr, .ref q4, .int ati, .int ors, .ref q5, .ref q6])), (q1, .inl (cyI, 246, .inl zs)), (q2, .inl (cyI, 984, .inl zv)), (q3, .inl (cyI, 80, .inl zt)), (q4, .inl (cyI, 5, .inl zp)), (q5, .inl (cyI, 40, .inl zm)), (q6, .inl (cyI, 40, .inl zk))] := hD
    exact W.iret (v := (u_3.1)) hx hb hr (fun t h9 hW => ⟨⟨(u_3.1), (((u_3.1), (u_3.2)) : Int32 × Int32), rfl, ⟨hE.symm, rfl⟩, by rw [h9]; exact hP, hD⟩, hS.F h9⟩) hS.2.2 dX9_boom_28
  ·
    have hE := hE.trans (if_neg c_2)
    refine lv_aload_n hx hb dX9_boom_15 rfl (lv_at hl 0 rfl) ?_
    refine lv_iload_n hx hb dX9_boom_16 rfl (lv_at hl 1 rfl) ?_
    refine vp_callSi (W.runV (As := [.int wh]) (rest := []) ⟨hx, hb, hml, hown, hts⟩ (c_X9_boomValue l dC dI cyI q0 q1 q2 q3 q4 q5 q6 svc tl (0 : Int32) mm mr ati ors zs zv zt zp zm zk wh hG) (cwV 1 hts (gBV b_786 b_787 b_788 b_5 b_789) rfl rfl rfl (by decide +kernel) ⟨Nat.le_of_ble_eq_true rfl, Nat.le_of_ble_eq_true rfl⟩) (pre_v eM_ok he hS hP hK 0 rfl rfl rfl) rfl rfl hl.1 rfl (lv_room (Nat.le_of_ble_eq_true rfl)) dX9_boom_17 ⟨Nat.zero_le _, Nat.zero_le _⟩) (fun r_5 hr_5 => ?_)
    have hE := hE.trans (spLet_eq hr_5)
    refine lv_goto (tgt := 28) hx hb dX9_boom_20 (by decide) ?_
    exact W.iret (v := r_5) hx hb hr (fun t h9 hW => ⟨⟨r_5, ((r_5, (0 : Int32)) : Int32 × Int32), rfl, ⟨hE.symm, rfl⟩, by rw [h9]; exact hP, hD⟩, hS.F h9⟩) hS.2.2 dX9_boom_28
def m_limiterValue (mr : Int32) (zs : Nat → Int32) (wh : Int32) : Int32 × Int32 × Int32 :=
  spLet (m_measure mr zs) (fun u_1 => if wh = 0 then (((u_1.1), (u_1.1), (u_1.2))) else (if wh = 1 then (((u_1.2), (u_1.1), (u_1.2))) else (if wh = 2 then (spLet (m_netLoad (u_1.1) zs) (fun r_5 => (r_5, (u_1.1), (u_1.2)))) else (if wh = 3 then (spLet (m_tableAt zs (zs 2)) (fun r_7 => (r_7, (u_1.1), (u_1.2)))) else (if wh = 4 then (spLet (m_windNow zs) (fun r_9 => (r_9, (u_1.1), (u_1.2)))) else (if wh = 5 then (spLet (m_ratedFor zs (zs 0) (u_1.2) (zs 2)) (fun r_11 => (r_11, (u_1.1), (u_1.2)))) else (if wh = 6 then (spLet (m_utilizationAt (u_1.1) (u_1.2) zs (zs 2)) (fun r_13 => (r_13, (u_1.1), (u_1.2)))) else (((zs 7), (u_1.1), (u_1.2))))))))))
set_option maxHeartbeats 1000000 in
set_option maxRecDepth 100000 in
theorem c_X9_limiterValue (l : Launch) (dC : Nat → ClassId) (dI : Nat → Nat → Nat) (cyI : ClassId) (sz : Nat) (q0 : Nat) (q1 : Nat) (q2 : Nat) (q3 : Nat) (q4 : Nat) (q5 : Nat) (q6 : Nat) (svc : Int32) (tl : Int32) (cde : Int32) (mm : Int32) (mr : Int32) (ati : Int32) (ors : Int32) (zs : Nat → Int32) (zv : Nat → Int32) (zt : Nat → Int32) (zp : Nat → Int32) (zm : Nat → Int32) (zk : Nat → Int32) (wh : Int32) (hG : mG zs) : Met l yX9_limiterValue wqX9_limiterValue ({ frames := 7, cells := 0, slots := 0, locals := 149 } : Room) (va_Pc [.ref q0, .int wh] (pC (dC, dI) [(q0, .inr (9, [.ref q1, .ref q2, .int svc, .ref q3, .int tl, .int cde, .int mm, .int mr, .ref q4, .int ati, .int ors, .ref q5, .ref q6])), (q1, .inl (cyI, 246, .inl zs)), (q2, .inl (cyI, 984, .inl zv)), (q3, .inl (cyI, 80, .inl zt)), (q4, .inl (cyI, 5, .inl zp)), (q5, .inl (cyI, 40, .inl zm)), (q6, .inl (cyI, 40, .inl zk))] [(cyI, .int)] eM sz)) (va_Qi (fun (r : Int32) (u : Int32 × Int32 × Int32) => u = (m_limiterValue mr zs wh) ∧ r = u.1) (fun (u : Int32 × Int32 × Int32) t => va_P (dC, dI) vwCl [(q0, .inr (9, [.ref q1, .ref q2, .int svc, .ref q3, .int tl, .int cde, .int (u.2.1), .int (u.2.2), .ref q4, .int ati, .int ors, .ref q5, .ref q6])), (q1, .inl (cyI, 246, .inl zs)), (q2, .inl (cyI, 984, .inl zv)), (q3, .inl (cyI, 80, .inl zt)), (q4, .inl (cyI, 5, .inl zp)), (q5, .inl (cyI, 40, .inl zm)), (q6, .inl (cyI, 40, .inl zk))] t.heap ∧ va_D (va_A [(q0, .inr (9, [.ref q1, .ref q2, .int svc, .ref q3, .int tl, .int cde, .int mm, .int mr, .ref q4, .int ati, .int ors, .ref q5, .ref q6])), (q1, .inl (cyI, 246, .inl zs)), (q2, .inl (cyI, 984, .inl zv)), (q3, .inl (cyI, 80, .inl zt)), (q4, .inl (cyI, 5, .inl zp)), (q5, .inl (cyI, 40, .inl zm)), (q6, .inl (cyI, 40, .inl zk))] sz) [(q0, .inr (9, [.ref q1, .ref q2, .int svc, .ref q3, .int tl, .int cde, .int (u.2.1), .int (u.2.2), .ref q4, .int ati, .int ors, .ref q5, .ref q6])), (q1, .inl (cyI, 246, .inl zs)), (q2, .inl (cyI, 984, .inl zv)), (q3, .inl (cyI, 80, .inl zt)), (q4, .inl (cyI, 5, .inl zp)), (q5, .inl (cyI, 40, .inl zm)), (q6, .inl (cyI, 40, .inl zk))]) (va_A [(q0, .inr (9, [.ref q1, .ref q2, .int svc, .ref q3, .int tl, .int cde, .int mm, .int mr, .ref q4, .int ati, .int ors, .ref q5, .ref q6])), (q1, .inl (cyI, 246, .inl zs)), (q2, .inl (cyI, 984, .inl zv)), (q3, .inl (cyI, 80, .inl zt)), (q4, .inl (cyI, 5, .inl zp)), (q5, .inl (cyI, 40, .inl zm)), (q6, .inl (cyI, 40, .inl zk))] sz)) 0 0 (va_A [(q0, .inr (9, [.ref q1, .ref q2, .int svc, .ref q3, .int tl, .int cde, .int mm, .int mr, .ref q4, .int ati, .int ors, .ref q5, .ref q6])), (q1, .inl (cyI, 246, .inl zs)), (q2, .inl (cyI, 984, .inl zv)), (q3, .inl (cyI, 80, .inl zt)), (q4, .inl (cyI, 5, .inl zp)), (q5, .inl (cyI, 40, .inl zm)), (q6, .inl (cyI, 40, .inl zk))] sz) := by
  refine Met.ofW (cc := cX9_limiterValue) (maxL := 2) (ret := (some .int)) (by decide) rfl ?_
  intro p e s m args below meth c s₁ B hml hv
  obtain ⟨rfl, hsz, hP, hK, hD0, he⟩ := hv
  have hx := B.exec
  have hb := B.bytes
  have hr := B.returns
  have hts := atoms_spec (ws := wqX9_limiterValue) B.pre
  have hown : s.vm.findClass RX9 = some m.cls := findClass_of_methodNamed B.named
  have hlocks := B.notSynchronized
  have w_0 := hts (Cond.fieldLink RX9 78 "CraneLimiterModel" "measuredMass" "I") (List.mem_cons_of_mem _ b_682)
  have w_1 := hts (Cond.fieldLink RX9 81 "CraneLimiterModel" "measuredRadius" "I") (List.mem_cons_of_mem _ b_683)
  have w_2 := hts (Cond.fieldLink RX9 7 "CraneLimiterModel" "s" "[I") (List.mem_cons_of_mem _ b_93)
  have i_X9 : ∀ w ∈ u_ws RX9 TX9 13, w ∈ wqX9_limiterValue := fun w h => List.mem_cons_of_mem _ (bX9 w h)
  subst hsz
  have hD := hD0.self (sz := s.heap.size)
  generalize hAe : va_A [(q0, .inr (9, [.ref q1, .ref q2, .int svc, .ref q3, .int tl, .int cde, .int mm, .int mr, .ref q4, .int ati, .int ors, .ref q5, .ref q6])), (q1, .inl (cyI, 246, .inl zs)), (q2, .inl (cyI, 984, .inl zv)), (q3, .inl (cyI, 80, .inl zt)), (q4, .inl (cyI, 5, .inl zp)), (q5, .inl (cyI, 40, .inl zm)), (q6, .inl (cyI, 40, .inl zk))] s.heap.size = A at hD he ⊢
  have hA : ∀ q : Nat, s.heap.size ≤ q → A q := fun q h => by rw [← hAe]; exact Or.inr h
  have hS : va_S A s.heap s.heap [] := va_S.rf
  have hP : va_P (dC, dI) vwCl [(q0, .inr (9, [.ref q1, .ref q2, .int svc, .ref q3, .int tl, .int cde, .int mm, .int mr, .ref q4, .int ati, .int ors, .ref q5, .ref q6])), (q1, .inl (cyI, 246, .inl zs)), (q2, .inl (cyI, 984, .inl zv)), (q3, .inl (cyI, 80, .inl zt)), (q4, .inl (cyI, 5, .inl zp)), (q5, .inl (cyI, 40, .inl zm)), (q6, .inl (cyI, 40, .inl zk))] s.heap := hP
  have hl := lv_entry ([.ref q0, .int wh] : List Value) (n := 2) (Nat.le_of_ble_eq_true rfl)
  rw [lg_entry_eq]
  generalize (lg_sl ([.ref q0, .int wh] : List Value) ++ List.replicate (2 - (lg_sl ([.ref q0, .int wh] : List Value)).length) Slot.unset).toArray = ls at hl ⊢
  have hl : lv_has ls 2 [(0, .ref q0), (1, .int wh)] := hl
  have hE : m_limiterValue mr zs wh = m_limiterValue mr zs wh := rfl
  refine lv_aload_n hx hb dX9_limiterValue_0 rfl (lv_at hl 0 rfl) ?_
  refine mj_v (wr := []) (va_runV (As := []) (rest := []) ⟨hx, hb, hml, hown, hts⟩ (c_X9_measure l dC dI cyI s.heap.size q0 q1 q2 q3 q4 q5 q6 svc tl cde mm mr ati ors zs zv zt zp zm zk hG.arms) (cwV 0 hts (gBV b_677 b_678 b_679 b_5 b_680) rfl rfl rfl (by decide +kernel) ⟨Nat.le_of_ble_eq_true rfl, Nat.le_of_ble_eq_true rfl⟩) (prm_v eM_ok he hS hP hD hK (va_free (wc := [(q0, .inr (9, [.ref q1, .ref q2, .int svc, .ref q3, .int tl, .int cde, .int mm, .int mr, .ref q4, .int ati, .int ors, .ref q5, .ref q6])), (q1, .inl (cyI, 246, .inl zs)), (q2, .inl (cyI, 984, .inl zv)), (q3, .inl (cyI, 80, .inl zt)), (q4, .inl (cyI, 5, .inl zp)), (q5, .inl (cyI, 40, .inl zm)), (q6, .inl (cyI, 40, .inl zk))]) hD hS hA [0, 1, 2, 3, 4, 5, 6] rfl) 0 rfl rfl rfl) rfl rfl hl.1 rfl (lv_room (Nat.le_of_ble_eq_true rfl)) dX9_limiterValue_1 ⟨Nat.le_of_ble_eq_true rfl, Nat.le_of_ble_eq_true rfl⟩) hP hD hS hA [0, 1, 2, 3, 4, 5, 6] [] rfl rfl (by decide) (by decide) (fun u_1 H locs hw hP hD hS => ?_)
  have hu_1 := hw
  have hE := hE.trans (spLet_eq hu_1)
  have hP : va_P (dC, dI) vwCl [(q0, .inr (9, [.ref q1, .ref q2, .int svc, .ref q3, .int tl, .int cde, .int (u_1.1), .int (u_1.2), .ref q4, .int ati, .int ors, .ref q5, .ref q6])), (q1, .inl (cyI, 246, .inl zs)), (q2, .inl (cyI, 984, .inl zv)), (q3, .inl (cyI, 80, .inl zt)), (q4, .inl (cyI, 5, .inl zp)), (q5, .inl (cyI, 40, .inl zm)), (q6, .inl (cyI, 40, .inl zk))] H := hP
  have hD : va_D A [(q0, .inr (9, [.ref q1, .ref q2, .int svc, .ref q3, .int tl, .int cde, .int (u_1.1), .int (u_1.2), .ref q4, .int ati, .int ors, .ref q5, .ref q6])), (q1, .inl (cyI, 246, .inl zs)), (q2, .inl (cyI, 984, .inl zv)), (q3, .inl (cyI, 80, .inl zt)), (q4, .inl (cyI, 5, .inl zp)), (q5, .inl (cyI, 40, .inl zm)), (q6, .inl (cyI, 40, .inl zk))] := hD
  refine lv_iload_n hx hb dX9_limiterValue_4 rfl (lv_at hl 1 rfl) ?_
  by_cases c_2 : wh = 0
  ·
    have hE := hE.trans (if_pos c_2)
    refine lv_tableIn (tgt := 48) (off := 43) hx hb dX9_limiterValue_5 (by rw [c_2]; decide) (by rw [c_2]; decide) (by rw [c_2]; rfl) (by decide) ?_
    refine lv_aload_n hx hb dX9_limiterValue_48 rfl (lv_at hl 0 rfl) ?_
    refine va_get (D := (dC, dI)) (ci := 9) (v := .int (u_1.1)) (C := RX9) (T := TX9) (N := 13) hx hb hts i_X9 hown hK hP 0 rfl rfl 6 (by decide) w_0 (fun _ h9 => h9) rfl dX9_limiterValue_49 ?_
    exact W.iret (v := (u_1.1)) hx hb hr (fun t h9 hW => ⟨⟨(u_1.1), (((u_1.1), (u_1.1), (u_1.2)) : Int32 × Int32 × Int32), rfl, ⟨hE.symm, rfl⟩, by rw [h9]; exact hP, hD⟩, hS.F h9⟩) hS.2.2 dX9_limiterValue_52
  ·
    have hE := hE.trans (if_neg c_2)
    by_cases c_3 : wh = 1
    ·
      have hE := hE.trans (if_pos c_3)
      refine lv_tableIn (tgt := 53) (off := 48) hx hb dX9_limiterValue_5 (by rw [c_3]; decide) (by rw [c_3]; decide) (by rw [c_3]; rfl) (by decide) ?_
      refine lv_aload_n hx hb dX9_limiterValue_53 rfl (lv_at hl 0 rfl) ?_
      refine va_get (D := (dC, dI)) (ci := 9) (v := .int (u_1.2)) (C := RX9) (T := TX9) (N := 13) hx hb hts i_X9 hown hK hP 0 rfl rfl 7 (by decide) w_1 (fun _ h9 => h9) rfl dX9_limiterValue_54 ?_
      exact W.iret (v := (u_1.2)) hx hb hr (fun t h9 hW => ⟨⟨(u_1.2), (((u_1.2), (u_1.1), (u_1.2)) : Int32 × Int32 × Int32), rfl, ⟨hE.symm, rfl⟩, by rw [h9]; exact hP, hD⟩, hS.F h9⟩) hS.2.2 dX9_limiterValue_57
    ·
      have hE := hE.trans (if_neg c_3)
      by_cases c_4 : wh = 2
      ·
        have hE := hE.trans (if_pos c_4)
        refine lv_tableIn (tgt := 58) (off := 53) hx hb dX9_limiterValue_5 (by rw [c_4]; decide) (by rw [c_4]; decide) (by rw [c_4]; rfl) (by decide) ?_
        refine lv_aload_n hx hb dX9_limiterValue_58 rfl (lv_at hl 0 rfl) ?_
        refine vp_callSi (W.runV (As := []) (rest := []) ⟨hx, hb, hml, hown, hts⟩ (c_X9_netLoad l dC dI cyI q0 q1 q2 q3 q4 q5 q6 svc tl cde (u_1.1) (u_1.2) ati ors zs zv zt zp zm zk) (cwV 0 hts (gBV b_705 b_706 b_707 b_5 b_708) rfl rfl rfl (by decide +kernel) ⟨Nat.le_of_ble_eq_true rfl, Nat.le_of_ble_eq_true rfl⟩) (pre_v eM_ok he hS hP hK 0 rfl rfl rfl) rfl rfl hl.1 rfl (lv_room (Nat.le_of_ble_eq_true rfl)) dX9_limiterValue_59 ⟨Nat.zero_le _, Nat.zero_le _⟩) (fun r_5 hr_5 => ?_)
        have hE := hE.trans (spLet_eq hr_5)
        exact W.iret (v := r_5) hx hb hr (fun t h9 hW => ⟨⟨r_5, ((r_5, (u_1.1), (u_1.2)) : Int32 × Int32 × Int32), rfl, ⟨hE.symm, rfl⟩, by rw [h9]; exact hP, hD⟩, hS.F h9⟩) hS.2.2 dX9_limiterValue_62
      ·
        have hE := hE.trans (if_neg c_4)
        by_cases c_6 : wh = 3
        ·
          have hE := hE.trans (if_pos c_6)
          refine lv_tableIn (tgt := 63) (off := 58) hx hb dX9_limiterValue_5 (by rw [c_6]; decide) (by rw [c_6]; decide) (by rw [c_6]; rfl) (by decide) ?_
          refine lv_aload_n hx hb dX9_limiterValue_63 rfl (lv_at hl 0 rfl) ?_
          refine lv_aload_n hx hb dX9_limiterValue_64 rfl (lv_at hl 0 rfl) ?_
          refine va_get (D := (dC, dI)) (ci := 9) (v := .ref q1) (C := RX9) (T := TX9) (N := 13) hx hb hts i_X9 hown hK hP 0 rfl rfl 0 (by decide) w_2 (fun _ h9 => h9) rfl dX9_limiterValue_65 ?_
          refine lv_iconst (v := 2) hx hb dX9_limiterValue_68 (by decide) ?_
          refine ra_ld hx hb hK hP 1 0 rfl rfl (j := 2) (rfl : (2 : Int32) = nI 2) (by omega) (by omega) dX9_limiterValue_69 ?_
          refine vp_callSi (W.runV (As := [.int (zs 2)]) (rest := []) ⟨hx, hb, hml, hown, hts⟩ (c_X9_tableAt l dC dI cyI q0 q1 q2 q3 q4 q5 q6 svc tl cde (u_1.1) (u_1.2) ati ors zs zv zt zp zm zk (zs 2)) (cwV 1 hts (gBV b_714 b_715 b_716 b_5 b_717) rfl rfl rfl (by decide +kernel) ⟨Nat.le_of_ble_eq_true rfl, Nat.le_of_ble_eq_true rfl⟩) (pre_v eM_ok he hS hP hK 0 rfl rfl rfl) rfl rfl hl.1 rfl (lv_room (Nat.le_of_ble_eq_true rfl)) dX9_limiterValue_70 ⟨Nat.zero_le _, Nat.zero_le _⟩) (fun r_7 hr_7 => ?_)
          have hE := hE.trans (spLet_eq hr_7)
          exact W.iret (v := r_7) hx hb hr (fun t h9 hW => ⟨⟨r_7, ((r_7, (u_1.1), (u_1.2)) : Int32 × Int32 × Int32), rfl, ⟨hE.symm, rfl⟩, by rw [h9]; exact hP, hD⟩, hS.F h9⟩) hS.2.2 dX9_limiterValue_73
        ·
          have hE := hE.trans (if_neg c_6)
          by_cases c_8 : wh = 4
          ·
            have hE := hE.trans (if_pos c_8)
            refine lv_tableIn (tgt := 74) (off := 69) hx hb dX9_limiterValue_5 (by rw [c_8]; decide) (by rw [c_8]; decide) (by rw [c_8]; rfl) (by decide) ?_
            refine lv_aload_n hx hb dX9_limiterValue_74 rfl (lv_at hl 0 rfl) ?_
            refine vp_callSi (W.runV (As := []) (rest := []) ⟨hx, hb, hml, hown, hts⟩ (c_X9_windNow l dC dI cyI q0 q1 q2 q3 q4 q5 q6 svc tl cde (u_1.1) (u_1.2) ati ors zs zv zt zp zm zk) (cwV 0 hts (gBV b_422 b_423 b_424 b_5 b_425) rfl rfl rfl (by decide +kernel) ⟨Nat.le_of_ble_eq_true rfl, Nat.le_of_ble_eq_true rfl⟩) (pre_v eM_ok he hS hP hK 0 rfl rfl rfl) rfl rfl hl.1 rfl (lv_room (Nat.le_of_ble_eq_true rfl)) dX9_limiterValue_75 ⟨Nat.zero_le _, Nat.zero_le _⟩) (fun r_9 hr_9 => ?_)
            have hE := hE.trans (spLet_eq hr_9)
            exact W.iret (v := r_9) hx hb hr (fun t h9 hW => ⟨⟨r_9, ((r_9, (u_1.1), (u_1.2)) : Int32 × Int32 × Int32), rfl, ⟨hE.symm, rfl⟩, by rw [h9]; exact hP, hD⟩, hS.F h9⟩) hS.2.2 dX9_limiterValue_78
          ·
            have hE := hE.trans (if_neg c_8)
            by_cases c_10 : wh = 5
            ·
              have hE := hE.trans (if_pos c_10)
              refine lv_tableIn (tgt := 79) (off := 74) hx hb dX9_limiterValue_5 (by rw [c_10]; decide) (by rw [c_10]; decide) (by rw [c_10]; rfl) (by decide) ?_
              refine lv_aload_n hx hb dX9_limiterValue_79 rfl (lv_at hl 0 rfl) ?_
              refine lv_aload_n hx hb dX9_limiterValue_80 rfl (lv_at hl 0 rfl) ?_
              refine va_get (D := (dC, dI)) (ci := 9) (v := .ref q1) (C := RX9) (T := TX9) (N := 13) hx hb hts i_X9 hown hK hP 0 rfl rfl 0 (by decide) w_2 (fun _ h9 => h9) rfl dX9_limiterValue_81 ?_
              refine lv_iconst (v := 0) hx hb dX9_limiterValue_84 (by decide) ?_
              refine ra_ld hx hb hK hP 1 0 rfl rfl (j := 0) (rfl : (0 : Int32) = nI 0) (by omega) (by omega) dX9_limiterValue_85 ?_
              refine lv_aload_n hx hb dX9_limiterValue_86 rfl (lv_at hl 0 rfl) ?_
              refine va_get (D := (dC, dI)) (ci := 9) (v := .int (u_1.2)) (C := RX9) (T := TX9) (N := 13) hx hb hts i_X9 hown hK hP 0 rfl rfl 7 (by decide) w_1 (fun _ h9 => h9) rfl dX9_limiterValue_87 ?_
              refine lv_aload_n hx hb dX9_limiterValue_90 rfl (lv_at hl 0 rfl) ?_
              refine va_get (D := (dC, dI)) (ci := 9) (v := .ref q1) (C := RX9) (T := TX9) (N := 13) hx hb hts i_X9 hown hK hP 0 rfl rfl 0 (by decide) w_2 (fun _ h9 => h9) rfl dX9_limiterValue_91 ?_
              refine lv_iconst (v := 2) hx hb dX9_limiterValue_94 (by decide) ?_
              refine ra_ld hx hb hK hP 1 0 rfl rfl (j := 2) (rfl : (2 : Int32) = nI 2) (by omega) (by omega) dX9_limiterValue_95 ?_
              refine vp_callSi (W.runV (As := [.int (zs 0), .int (u_1.2), .int (zs 2)]) (rest := []) ⟨hx, hb, hml, hown, hts⟩ (c_X9_ratedFor l dC dI cyI q0 q1 q2 q3 q4 q5 q6 svc tl cde (u_1.1) (u_1.2) ati ors zs zv zt zp zm zk (zs 0) (u_1.2) (zs 2) hG) (cwV 3 hts (gBV b_709 b_710 b_711 b_5 b_712) rfl rfl rfl (by decide +kernel) ⟨Nat.le_of_ble_eq_true rfl, Nat.le_of_ble_eq_true rfl⟩) (pre_v eM_ok he hS hP hK 0 rfl rfl rfl) rfl rfl hl.1 rfl (lv_room (Nat.le_of_ble_eq_true rfl)) dX9_limiterValue_96 ⟨Nat.zero_le _, Nat.zero_le _⟩) (fun r_11 hr_11 => ?_)
              have hE := hE.trans (spLet_eq hr_11)
              exact W.iret (v := r_11) hx hb hr (fun t h9 hW => ⟨⟨r_11, ((r_11, (u_1.1), (u_1.2)) : Int32 × Int32 × Int32), rfl, ⟨hE.symm, rfl⟩, by rw [h9]; exact hP, hD⟩, hS.F h9⟩) hS.2.2 dX9_limiterValue_99
            ·
              have hE := hE.trans (if_neg c_10)
              by_cases c_12 : wh = 6
              ·
                have hE := hE.trans (if_pos c_12)
                refine lv_tableIn (tgt := 100) (off := 95) hx hb dX9_limiterValue_5 (by rw [c_12]; decide) (by rw [c_12]; decide) (by rw [c_12]; rfl) (by decide) ?_
                refine lv_aload_n hx hb dX9_limiterValue_100 rfl (lv_at hl 0 rfl) ?_
                refine lv_aload_n hx hb dX9_limiterValue_101 rfl (lv_at hl 0 rfl) ?_
                refine va_get (D := (dC, dI)) (ci := 9) (v := .ref q1) (C := RX9) (T := TX9) (N := 13) hx hb hts i_X9 hown hK hP 0 rfl rfl 0 (by decide) w_2 (fun _ h9 => h9) rfl dX9_limiterValue_102 ?_
                refine lv_iconst (v := 2) hx hb dX9_limiterValue_105 (by decide) ?_
                refine ra_ld hx hb hK hP 1 0 rfl rfl (j := 2) (rfl : (2 : Int32) = nI 2) (by omega) (by omega) dX9_limiterValue_106 ?_
                refine vp_callSi (W.runV (As := [.int (zs 2)]) (rest := []) ⟨hx, hb, hml, hown, hts⟩ (c_X9_utilizationAt l dC dI cyI q0 q1 q2 q3 q4 q5 q6 svc tl cde (u_1.1) (u_1.2) ati ors zs zv zt zp zm zk (zs 2) hG) (cwV 1 hts (gBV b_701 b_702 b_703 b_5 b_704) rfl rfl rfl (by decide +kernel) ⟨Nat.le_of_ble_eq_true rfl, Nat.le_of_ble_eq_true rfl⟩) (pre_v eM_ok he hS hP hK 0 rfl rfl rfl) rfl rfl hl.1 rfl (lv_room (Nat.le_of_ble_eq_true rfl)) dX9_limiterValue_107 ⟨Nat.zero_le _, Nat.zero_le _⟩) (fun r_13 hr_13 => ?_)
                have hE := hE.trans (spLet_eq hr_13)
                exact W.iret (v := r_13) hx hb hr (fun t h9 hW => ⟨⟨r_13, ((r_13, (u_1.1), (u_1.2)) : Int32 × Int32 × Int32), rfl, ⟨hE.symm, rfl⟩, by rw [h9]; exact hP, hD⟩, hS.F h9⟩) hS.2.2 dX9_limiterValue_110
              ·
                have hE := hE.trans (if_neg c_12)
                refine lv_tableOut (tgt := 111) hx hb dX9_limiterValue_5 (by
                    have n_c_2 : ¬ (wh).toInt = 0 := lv_neT c_2 rfl
                    have n_c_3 : ¬ (wh).toInt = 1 := lv_neT c_3 rfl
                    have n_c_4 : ¬ (wh).toInt = 2 := lv_neT c_4 rfl
                    have n_c_6 : ¬ (wh).toInt = 3 := lv_neT c_6 rfl
                    have n_c_8 : ¬ (wh).toInt = 4 := lv_neT c_8 rfl
                    have n_c_10 : ¬ (wh).toInt = 5 := lv_neT c_10 rfl
                    have n_c_12 : ¬ (wh).toInt = 6 := lv_neT c_12 rfl
                    omega) (by decide) ?_
                refine lv_aload_n hx hb dX9_limiterValue_111 rfl (lv_at hl 0 rfl) ?_
                refine va_get (D := (dC, dI)) (ci := 9) (v := .ref q1) (C := RX9) (T := TX9) (N := 13) hx hb hts i_X9 hown hK hP 0 rfl rfl 0 (by decide) w_2 (fun _ h9 => h9) rfl dX9_limiterValue_112 ?_
                refine lv_bipush (v := 7) hx hb dX9_limiterValue_115 (by decide) ?_
                refine ra_ld hx hb hK hP 1 0 rfl rfl (j := 7) (rfl : (7 : Int32) = nI 7) (by omega) (by omega) dX9_limiterValue_117 ?_
                exact W.iret (v := (zs 7)) hx hb hr (fun t h9 hW => ⟨⟨(zs 7), (((zs 7), (u_1.1), (u_1.2)) : Int32 × Int32 × Int32), rfl, ⟨hE.symm, rfl⟩, by rw [h9]; exact hP, hD⟩, hS.F h9⟩) hS.2.2 dX9_limiterValue_118
def m_limiter (mm : Int32) (mr : Int32) (zs : Nat → Int32) (wh : Int32) : Int32 × Int32 × Int32 × Int32 :=
  spLet (m_in wh (0 : Int32) (7 : Int32)) (fun r_1 => if r_1 = 0 then (spLet (m_fails (1 : Int32)) (fun u_3 => ((u_3.1), (u_3.2), mm, mr))) else (spLet (m_limiterValue mr zs wh) (fun u_5 => ((u_5.1), (0 : Int32), (u_5.2.1), (u_5.2.2)))))
set_option maxHeartbeats 1000000 in
set_option maxRecDepth 100000 in
theorem c_X9_limiter (l : Launch) (dC : Nat → ClassId) (dI : Nat → Nat → Nat) (cyI : ClassId) (sz : Nat) (q0 : Nat) (q1 : Nat) (q2 : Nat) (q3 : Nat) (q4 : Nat) (q5 : Nat) (q6 : Nat) (svc : Int32) (tl : Int32) (cde : Int32) (mm : Int32) (mr : Int32) (ati : Int32) (ors : Int32) (zs : Nat → Int32) (zv : Nat → Int32) (zt : Nat → Int32) (zp : Nat → Int32) (zm : Nat → Int32) (zk : Nat → Int32) (wh : Int32) (hG : mG zs) : Met l yX9_limiter wqX9_limiter ({ frames := 8, cells := 0, slots := 0, locals := 170 } : Room) (va_Pc [.ref q0, .int wh] (pC (dC, dI) [(q0, .inr (9, [.ref q1, .ref q2, .int svc, .ref q3, .int tl, .int cde, .int mm, .int mr, .ref q4, .int ati, .int ors, .ref q5, .ref q6])), (q1, .inl (cyI, 246, .inl zs)), (q2, .inl (cyI, 984, .inl zv)), (q3, .inl (cyI, 80, .inl zt)), (q4, .inl (cyI, 5, .inl zp)), (q5, .inl (cyI, 40, .inl zm)), (q6, .inl (cyI, 40, .inl zk))] [(cyI, .int)] eM sz)) (va_Qi (fun (r : Int32) (u : Int32 × Int32 × Int32 × Int32) => u = (m_limiter mm mr zs wh) ∧ r = u.1) (fun (u : Int32 × Int32 × Int32 × Int32) t => va_P (dC, dI) vwCl [(q0, .inr (9, [.ref q1, .ref q2, .int svc, .ref q3, .int tl, .int (u.2.1), .int (u.2.2.1), .int (u.2.2.2), .ref q4, .int ati, .int ors, .ref q5, .ref q6])), (q1, .inl (cyI, 246, .inl zs)), (q2, .inl (cyI, 984, .inl zv)), (q3, .inl (cyI, 80, .inl zt)), (q4, .inl (cyI, 5, .inl zp)), (q5, .inl (cyI, 40, .inl zm)), (q6, .inl (cyI, 40, .inl zk))] t.heap ∧ va_D (va_A [(q0, .inr (9, [.ref q1, .ref q2, .int svc, .ref q3, .int tl, .int cde, .int mm, .int mr, .ref q4, .int ati, .int ors, .ref q5, .ref q6])), (q1, .inl (cyI, 246, .inl zs)), (q2, .inl (cyI, 984, .inl zv)), (q3, .inl (cyI, 80, .inl zt)), (q4, .inl (cyI, 5, .inl zp)), (q5, .inl (cyI, 40, .inl zm)), (q6, .inl (cyI, 40, .inl zk))] sz) [(q0, .inr (9, [.ref q1, .ref q2, .int svc, .ref q3, .int tl, .int (u.2.1), .int (u.2.2.1), .int (u.2.2.2), .ref q4, .int ati, .int ors, .ref q5, .ref q6])), (q1, .inl (cyI, 246, .inl zs)), (q2, .inl (cyI, 984, .inl zv)), (q3, .inl (cyI, 80, .inl zt)), (q4, .inl (cyI, 5, .inl zp)), (q5, .inl (cyI, 40, .inl zm)), (q6, .inl (cyI, 40, .inl zk))]) (va_A [(q0, .inr (9, [.ref q1, .ref q2, .int svc, .ref q3, .int tl, .int cde, .int mm, .int mr, .ref q4, .int ati, .int ors, .ref q5, .ref q6])), (q1, .inl (cyI, 246, .inl zs)), (q2, .inl (cyI, 984, .inl zv)), (q3, .inl (cyI, 80, .inl zt)), (q4, .inl (cyI, 5, .inl zp)), (q5, .inl (cyI, 40, .inl zm)), (q6, .inl (cyI, 40, .inl zk))] sz)) 0 0 (va_A [(q0, .inr (9, [.ref q1, .ref q2, .int svc, .ref q3, .int tl, .int cde, .int mm, .int mr, .ref q4, .int ati, .int ors, .ref q5, .ref q6])), (q1, .inl (cyI, 246, .inl zs)), (q2, .inl (cyI, 984, .inl zv)), (q3, .inl (cyI, 80, .inl zt)), (q4, .inl (cyI, 5, .inl zp)), (q5, .inl (cyI, 40, .inl zm)), (q6, .inl (cyI, 40, .inl zk))] sz) := by
  refine Met.ofW (cc := cX9_limiter) (maxL := 2) (ret := (some .int)) (by decide) rfl ?_
  intro p e s m args below meth c s₁ B hml hv
  obtain ⟨rfl, hsz, hP, hK, hD0, he⟩ := hv
  have hx := B.exec
  have hb := B.bytes
  have hr := B.returns
  have hts := atoms_spec (ws := wqX9_limiter) B.pre
  have hown : s.vm.findClass RX9 = some m.cls := findClass_of_methodNamed B.named
  have hlocks := B.notSynchronized
  have w_0 := hts (Cond.fieldLink RX9 28 "CraneLimiterModel" "code" "I") (List.mem_cons_of_mem _ b_181)
  have i_X9 : ∀ w ∈ u_ws RX9 TX9 13, w ∈ wqX9_limiter := fun w h => List.mem_cons_of_mem _ (bX9 w h)
  subst hsz
  have hD := hD0.self (sz := s.heap.size)
  generalize hAe : va_A [(q0, .inr (9, [.ref q1, .ref q2, .int svc, .ref q3, .int tl, .int cde, .int mm, .int mr, .ref q4, .int ati, .int ors, .ref q5, .ref q6])), (q1, .inl (cyI, 246, .inl zs)), (q2, .inl (cyI, 984, .inl zv)), (q3, .inl (cyI, 80, .inl zt)), (q4, .inl (cyI, 5, .inl zp)), (q5, .inl (cyI, 40, .inl zm)), (q6, .inl (cyI, 40, .inl zk))] s.heap.size = A at hD he ⊢
  have hA : ∀ q : Nat, s.heap.size ≤ q → A q := fun q h => by rw [← hAe]; exact Or.inr h
  have hS : va_S A s.heap s.heap [] := va_S.rf
  have hP : va_P (dC, dI) vwCl [(q0, .inr (9, [.ref q1, .ref q2, .int svc, .ref q3, .int tl, .int cde, .int mm, .int mr, .ref q4, .int ati, .int ors, .ref q5, .ref q6])), (q1, .inl (cyI, 246, .inl zs)), (q2, .inl (cyI, 984, .inl zv)), (q3, .inl (cyI, 80, .inl zt)), (q4, .inl (cyI, 5, .inl zp)), (q5, .inl (cyI, 40, .inl zm)), (q6, .inl (cyI, 40, .inl zk))] s.heap := hP
  have hl := lv_entry ([.ref q0, .int wh] : List Value) (n := 2) (Nat.le_of_ble_eq_true rfl)
  rw [lg_entry_eq]
  generalize (lg_sl ([.ref q0, .int wh] : List Value) ++ List.replicate (2 - (lg_sl ([.ref q0, .int wh] : List Value)).length) Slot.unset).toArray = ls at hl ⊢
  have hl : lv_has ls 2 [(0, .ref q0), (1, .int wh)] := hl
  have hE : m_limiter mm mr zs wh = m_limiter mm mr zs wh := rfl
  refine lv_aload_n hx hb dX9_limiter_0 rfl (lv_at hl 0 rfl) ?_
  refine lv_iconst (v := 0) hx hb dX9_limiter_1 (by decide) ?_
  refine va_put (D := (dC, dI)) (ci := 9) (v := .int (0 : Int32)) (ty := .int) (C := RX9) (T := TX9) (N := 13) hx hb hts i_X9 tyX9 tyX9_ok nmX9 hown hK hP hD hS 0 rfl rfl 5 (by decide) w_0 (fun _ h9 => h9) rfl (by decide +kernel) (rfl) (rfl) (Nat.le_of_ble_eq_true rfl) dX9_limiter_2 (fun H locs hP hD hS => ?_)
  have hP : va_P (dC, dI) vwCl [(q0, .inr (9, [.ref q1, .ref q2, .int svc, .ref q3, .int tl, .int (0 : Int32), .int mm, .int mr, .ref q4, .int ati, .int ors, .ref q5, .ref q6])), (q1, .inl (cyI, 246, .inl zs)), (q2, .inl (cyI, 984, .inl zv)), (q3, .inl (cyI, 80, .inl zt)), (q4, .inl (cyI, 5, .inl zp)), (q5, .inl (cyI, 40, .inl zm)), (q6, .inl (cyI, 40, .inl zk))] H := hP
  have hD : va_D A [(q0, .inr (9, [.ref q1, .ref q2, .int svc, .ref q3, .int tl, .int (0 : Int32), .int mm, .int mr, .ref q4, .int ati, .int ors, .ref q5, .ref q6])), (q1, .inl (cyI, 246, .inl zs)), (q2, .inl (cyI, 984, .inl zv)), (q3, .inl (cyI, 80, .inl zt)), (q4, .inl (cyI, 5, .inl zp)), (q5, .inl (cyI, 40, .inl zm)), (q6, .inl (cyI, 40, .inl zk))] := hD
  refine lv_iload_n hx hb dX9_limiter_5 rfl (lv_at hl 1 rfl) ?_
  refine lv_iconst (v := 0) hx hb dX9_limiter_6 (by decide) ?_
  refine lv_bipush (v := 7) hx hb dX9_limiter_7 (by decide) ?_
  refine vp_callSi (W.runS (As := [.int wh, .int (0 : Int32), .int (7 : Int32)]) (rest := []) ⟨hx, hb, hml, hown, hts⟩ (c_X9_in l dC dI cyI wh (0 : Int32) (7 : Int32)) (va_cwS 3 hts (gBS b_182 b_183 b_5 b_184) rfl rfl rfl (by decide +kernel) ⟨Nat.le_of_ble_eq_true rfl, Nat.le_of_ble_eq_true rfl⟩) (pre_s eM_ok he hS (hP.sub (ws' := []) [] rfl) (hK.sub (tys' := []) [] rfl)) rfl rfl hl.1 rfl (lv_room (Nat.le_of_ble_eq_true rfl)) dX9_limiter_9 ⟨Nat.zero_le _, Nat.zero_le _⟩) (fun r_1 hr_1 => ?_)
  obtain ⟨hr_1, hbr_1⟩ := hr_1
  have hE := hE.trans (spLet_eq hr_1)
  refine lv_if_eq (tgt := 23) hx hb dX9_limiter_12 (by decide) (fun c_2 => ?_) (fun c_2 => ?_)
  ·
    have hE := hE.trans (if_pos c_2)
    refine lv_aload_n hx hb dX9_limiter_23 rfl (lv_at hl 0 rfl) ?_
    refine lv_iconst (v := 1) hx hb dX9_limiter_24 (by decide) ?_
    refine mj_i (wr := []) (va_runV (As := [.int (1 : Int32)]) (rest := []) ⟨hx, hb, hml, hown, hts⟩ (c_X9_fails l dC dI cyI H.size q0 q1 q2 q3 q4 q5 q6 svc tl (0 : Int32) mm mr ati ors zs zv zt zp zm zk (1 : Int32)) (cwV 1 hts (gBV b_185 b_186 b_187 b_5 b_188) rfl rfl rfl (by decide +kernel) ⟨Nat.le_of_ble_eq_true rfl, Nat.le_of_ble_eq_true rfl⟩) (prm_v eM_ok he hS hP hD hK (va_free (wc := [(q0, .inr (9, [.ref q1, .ref q2, .int svc, .ref q3, .int tl, .int (0 : Int32), .int mm, .int mr, .ref q4, .int ati, .int ors, .ref q5, .ref q6])), (q1, .inl (cyI, 246, .inl zs)), (q2, .inl (cyI, 984, .inl zv)), (q3, .inl (cyI, 80, .inl zt)), (q4, .inl (cyI, 5, .inl zp)), (q5, .inl (cyI, 40, .inl zm)), (q6, .inl (cyI, 40, .inl zk))]) hD hS hA [0, 1, 2, 3, 4, 5, 6] rfl) 0 rfl rfl rfl) rfl rfl hl.1 rfl (lv_room (Nat.le_of_ble_eq_true rfl)) dX9_limiter_25 ⟨Nat.le_of_ble_eq_true rfl, Nat.le_of_ble_eq_true rfl⟩) hP hD hS hA [0, 1, 2, 3, 4, 5, 6] [] rfl rfl (by decide) (by decide) (fun r_4 u_3 H locs hw hP hD hS => ?_)
    obtain ⟨hu_3, rfl⟩ := hw
    have hE := hE.trans (spLet_eq hu_3)
    have hP : va_P (dC, dI) vwCl [(q0, .inr (9, [.ref q1, .ref q2, .int svc, .ref q3, .int tl, .int (u_3.2), .int mm, .int mr, .ref q4, .int ati, .int ors, .ref q5, .ref q6])), (q1, .inl (cyI, 246, .inl zs)), (q2, .inl (cyI, 984, .inl zv)), (q3, .inl (cyI, 80, .inl zt)), (q4, .inl (cyI, 5, .inl zp)), (q5, .inl (cyI, 40, .inl zm)), (q6, .inl (cyI, 40, .inl zk))] H := hP
    have hD : va_D A [(q0, .inr (9, [.ref q1, .ref q2, .int svc, .ref q3, .int tl, .int (u_3.2), .int mm, .int mr, .ref q4, .int ati, .int ors, .ref q5, .ref q6])), (q1, .inl (cyI, 246, .inl zs)), (q2, .inl (cyI, 984, .inl zv)), (q3, .inl (cyI, 80, .inl zt)), (q4, .inl (cyI, 5, .inl zp)), (q5, .inl (cyI, 40, .inl zm)), (q6, .inl (cyI, 40, .inl zk))] := hD
    exact W.iret (v := (u_3.1)) hx hb hr (fun t h9 hW => ⟨⟨(u_3.1), (((u_3.1), (u_3.2), mm, mr) : Int32 × Int32 × Int32 × Int32), rfl, ⟨hE.symm, rfl⟩, by rw [h9]; exact hP, hD⟩, hS.F h9⟩) hS.2.2 dX9_limiter_28
  ·
    have hE := hE.trans (if_neg c_2)
    refine lv_aload_n hx hb dX9_limiter_15 rfl (lv_at hl 0 rfl) ?_
    refine lv_iload_n hx hb dX9_limiter_16 rfl (lv_at hl 1 rfl) ?_
    refine mj_i (wr := []) (va_runV (As := [.int wh]) (rest := []) ⟨hx, hb, hml, hown, hts⟩ (c_X9_limiterValue l dC dI cyI H.size q0 q1 q2 q3 q4 q5 q6 svc tl (0 : Int32) mm mr ati ors zs zv zt zp zm zk wh hG) (cwV 1 hts (gBV b_807 b_808 b_809 b_5 b_810) rfl rfl rfl (by decide +kernel) ⟨Nat.le_of_ble_eq_true rfl, Nat.le_of_ble_eq_true rfl⟩) (prm_v eM_ok he hS hP hD hK (va_free (wc := [(q0, .inr (9, [.ref q1, .ref q2, .int svc, .ref q3, .int tl, .int (0 : Int32), .int mm, .int mr, .ref q4, .int ati, .int ors, .ref q5, .ref q6])), (q1, .inl (cyI, 246, .inl zs)), (q2, .inl (cyI, 984, .inl zv)), (q3, .inl (cyI, 80, .inl zt)), (q4, .inl (cyI, 5, .inl zp)), (q5, .inl (cyI, 40, .inl zm)), (q6, .inl (cyI, 40, .inl zk))]) hD hS hA [0, 1, 2, 3, 4, 5, 6] rfl) 0 rfl rfl rfl) rfl rfl hl.1 rfl (lv_room (Nat.le_of_ble_eq_true rfl)) dX9_limiter_17 ⟨Nat.le_of_ble_eq_true rfl, Nat.le_of_ble_eq_true rfl⟩) hP hD hS hA [0, 1, 2, 3, 4, 5, 6] [] rfl rfl (by decide) (by decide) (fun r_6 u_5 H locs hw hP hD hS => ?_)
    obtain ⟨hu_5, rfl⟩ := hw
    have hE := hE.trans (spLet_eq hu_5)
    have hP : va_P (dC, dI) vwCl [(q0, .inr (9, [.ref q1, .ref q2, .int svc, .ref q3, .int tl, .int (0 : Int32), .int (u_5.2.1), .int (u_5.2.2), .ref q4, .int ati, .int ors, .ref q5, .ref q6])), (q1, .inl (cyI, 246, .inl zs)), (q2, .inl (cyI, 984, .inl zv)), (q3, .inl (cyI, 80, .inl zt)), (q4, .inl (cyI, 5, .inl zp)), (q5, .inl (cyI, 40, .inl zm)), (q6, .inl (cyI, 40, .inl zk))] H := hP
    have hD : va_D A [(q0, .inr (9, [.ref q1, .ref q2, .int svc, .ref q3, .int tl, .int (0 : Int32), .int (u_5.2.1), .int (u_5.2.2), .ref q4, .int ati, .int ors, .ref q5, .ref q6])), (q1, .inl (cyI, 246, .inl zs)), (q2, .inl (cyI, 984, .inl zv)), (q3, .inl (cyI, 80, .inl zt)), (q4, .inl (cyI, 5, .inl zp)), (q5, .inl (cyI, 40, .inl zm)), (q6, .inl (cyI, 40, .inl zk))] := hD
    refine lv_goto (tgt := 28) hx hb dX9_limiter_20 (by decide) ?_
    exact W.iret (v := (u_5.1)) hx hb hr (fun t h9 hW => ⟨⟨(u_5.1), (((u_5.1), (0 : Int32), (u_5.2.1), (u_5.2.2)) : Int32 × Int32 × Int32 × Int32), rfl, ⟨hE.symm, rfl⟩, by rw [h9]; exact hP, hD⟩, hS.F h9⟩) hS.2.2 dX9_limiter_28
def m_rated (zs : Nat → Int32) (le : Int32) (an : Int32) (sl : Int32) : Int32 × Int32 :=
  spLet (m_isPosition le an sl) (fun r_1 => if r_1 = 0 then (spLet (m_fails (1 : Int32)) (fun u_3 => ((u_3.1), (u_3.2)))) else (spLet (m_radiusOf le an) (fun r_5 => spLet (m_ratedFor zs le r_5 sl) (fun r_6 => (r_6, (0 : Int32))))))
set_option maxHeartbeats 1000000 in
set_option maxRecDepth 100000 in
theorem c_X9_rated (l : Launch) (dC : Nat → ClassId) (dI : Nat → Nat → Nat) (cyI : ClassId) (sz : Nat) (q0 : Nat) (q1 : Nat) (q2 : Nat) (q3 : Nat) (q4 : Nat) (q5 : Nat) (q6 : Nat) (svc : Int32) (tl : Int32) (cde : Int32) (mm : Int32) (mr : Int32) (ati : Int32) (ors : Int32) (zs : Nat → Int32) (zv : Nat → Int32) (zt : Nat → Int32) (zp : Nat → Int32) (zm : Nat → Int32) (zk : Nat → Int32) (le : Int32) (an : Int32) (sl : Int32) (hG : mG zs) : Met l yX9_rated wqX9_rated ({ frames := 4, cells := 0, slots := 0, locals := 91 } : Room) (va_Pc [.ref q0, .int le, .int an, .int sl] (pC (dC, dI) [(q0, .inr (9, [.ref q1, .ref q2, .int svc, .ref q3, .int tl, .int cde, .int mm, .int mr, .ref q4, .int ati, .int ors, .ref q5, .ref q6])), (q1, .inl (cyI, 246, .inl zs)), (q2, .inl (cyI, 984, .inl zv)), (q3, .inl (cyI, 80, .inl zt)), (q4, .inl (cyI, 5, .inl zp)), (q5, .inl (cyI, 40, .inl zm)), (q6, .inl (cyI, 40, .inl zk))] [(cyI, .int)] eM sz)) (va_Qi (fun (r : Int32) (u : Int32 × Int32) => u = (m_rated zs le an sl) ∧ r = u.1) (fun (u : Int32 × Int32) t => va_P (dC, dI) vwCl [(q0, .inr (9, [.ref q1, .ref q2, .int svc, .ref q3, .int tl, .int (u.2), .int mm, .int mr, .ref q4, .int ati, .int ors, .ref q5, .ref q6])), (q1, .inl (cyI, 246, .inl zs)), (q2, .inl (cyI, 984, .inl zv)), (q3, .inl (cyI, 80, .inl zt)), (q4, .inl (cyI, 5, .inl zp)), (q5, .inl (cyI, 40, .inl zm)), (q6, .inl (cyI, 40, .inl zk))] t.heap ∧ va_D (va_A [(q0, .inr (9, [.ref q1, .ref q2, .int svc, .ref q3, .int tl, .int cde, .int mm, .int mr, .ref q4, .int ati, .int ors, .ref q5, .ref q6])), (q1, .inl (cyI, 246, .inl zs)), (q2, .inl (cyI, 984, .inl zv)), (q3, .inl (cyI, 80, .inl zt)), (q4, .inl (cyI, 5, .inl zp)), (q5, .inl (cyI, 40, .inl zm)), (q6, .inl (cyI, 40, .inl zk))] sz) [(q0, .inr (9, [.ref q1, .ref q2, .int svc, .ref q3, .int tl, .int (u.2), .int mm, .int mr, .ref q4, .int ati, .int ors, .ref q5, .ref q6])), (q1, .inl (cyI, 246, .inl zs)), (q2, .inl (cyI, 984, .inl zv)), (q3, .inl (cyI, 80, .inl zt)), (q4, .inl (cyI, 5, .inl zp)), (q5, .inl (cyI, 40, .inl zm)), (q6, .inl (cyI, 40, .inl zk))]) (va_A [(q0, .inr (9, [.ref q1, .ref q2, .int svc, .ref q3, .int tl, .int cde, .int mm, .int mr, .ref q4, .int ati, .int ors, .ref q5, .ref q6])), (q1, .inl (cyI, 246, .inl zs)), (q2, .inl (cyI, 984, .inl zv)), (q3, .inl (cyI, 80, .inl zt)), (q4, .inl (cyI, 5, .inl zp)), (q5, .inl (cyI, 40, .inl zm)), (q6, .inl (cyI, 40, .inl zk))] sz)) 0 0 (va_A [(q0, .inr (9, [.ref q1, .ref q2, .int svc, .ref q3, .int tl, .int cde, .int mm, .int mr, .ref q4, .int ati, .int ors, .ref q5, .ref q6])), (q1, .inl (cyI, 246, .inl zs)), (q2, .inl (cyI, 984, .inl zv)), (q3, .inl (cyI, 80, .inl zt)), (q4, .inl (cyI, 5, .inl zp)), (q5, .inl (cyI, 40, .inl zm)), (q6, .inl (cyI, 40, .inl zk))] sz) := by
  refine Met.ofW (cc := cX9_rated) (maxL := 4) (ret := (some .int)) (by decide) rfl ?_
  intro p e s m args below meth c s₁ B hml hv
  obtain ⟨rfl, hsz, hP, hK, hD0, he⟩ := hv
  have hx := B.exec
  have hb := B.bytes
  have hr := B.returns
  have hts := atoms_spec (ws := wqX9_rated) B.pre
  have hown : s.vm.findClass RX9 = some m.cls := findClass_of_methodNamed B.named
  have hlocks := B.notSynchronized
  have w_0 := hts (Cond.fieldLink RX9 28 "CraneLimiterModel" "code" "I") (List.mem_cons_of_mem _ b_181)
  have i_X9 : ∀ w ∈ u_ws RX9 TX9 13, w ∈ wqX9_rated := fun w h => List.mem_cons_of_mem _ (bX9 w h)
  subst hsz
  have hD := hD0.self (sz := s.heap.size)
  generalize hAe : va_A [(q0, .inr (9, [.ref q1, .ref q2, .int svc, .ref q3, .int tl, .int cde, .int mm, .int mr, .ref q4, .int ati, .int ors, .ref q5, .ref q6])), (q1, .inl (cyI, 246, .inl zs)), (q2, .inl (cyI, 984, .inl zv)), (q3, .inl (cyI, 80, .inl zt)), (q4, .inl (cyI, 5, .inl zp)), (q5, .inl (cyI, 40, .inl zm)), (q6, .inl (cyI, 40, .inl zk))] s.heap.size = A at hD he ⊢
  have hA : ∀ q : Nat, s.heap.size ≤ q → A q := fun q h => by rw [← hAe]; exact Or.inr h
  have hS : va_S A s.heap s.heap [] := va_S.rf
  have hP : va_P (dC, dI) vwCl [(q0, .inr (9, [.ref q1, .ref q2, .int svc, .ref q3, .int tl, .int cde, .int mm, .int mr, .ref q4, .int ati, .int ors, .ref q5, .ref q6])), (q1, .inl (cyI, 246, .inl zs)), (q2, .inl (cyI, 984, .inl zv)), (q3, .inl (cyI, 80, .inl zt)), (q4, .inl (cyI, 5, .inl zp)), (q5, .inl (cyI, 40, .inl zm)), (q6, .inl (cyI, 40, .inl zk))] s.heap := hP
  have hl := lv_entry ([.ref q0, .int le, .int an, .int sl] : List Value) (n := 4) (Nat.le_of_ble_eq_true rfl)
  rw [lg_entry_eq]
  generalize (lg_sl ([.ref q0, .int le, .int an, .int sl] : List Value) ++ List.replicate (4 - (lg_sl ([.ref q0, .int le, .int an, .int sl] : List Value)).length) Slot.unset).toArray = ls at hl ⊢
  have hl : lv_has ls 4 [(0, .ref q0), (1, .int le), (2, .int an), (3, .int sl)] := hl
  have hE : m_rated zs le an sl = m_rated zs le an sl := rfl
  refine lv_aload_n hx hb dX9_rated_0 rfl (lv_at hl 0 rfl) ?_
  refine lv_iconst (v := 0) hx hb dX9_rated_1 (by decide) ?_
  refine va_put (D := (dC, dI)) (ci := 9) (v := .int (0 : Int32)) (ty := .int) (C := RX9) (T := TX9) (N := 13) hx hb hts i_X9 tyX9 tyX9_ok nmX9 hown hK hP hD hS 0 rfl rfl 5 (by decide) w_0 (fun _ h9 => h9) rfl (by decide +kernel) (rfl) (rfl) (Nat.le_of_ble_eq_true rfl) dX9_rated_2 (fun H locs hP hD hS => ?_)
  have hP : va_P (dC, dI) vwCl [(q0, .inr (9, [.ref q1, .ref q2, .int svc, .ref q3, .int tl, .int (0 : Int32), .int mm, .int mr, .ref q4, .int ati, .int ors, .ref q5, .ref q6])), (q1, .inl (cyI, 246, .inl zs)), (q2, .inl (cyI, 984, .inl zv)), (q3, .inl (cyI, 80, .inl zt)), (q4, .inl (cyI, 5, .inl zp)), (q5, .inl (cyI, 40, .inl zm)), (q6, .inl (cyI, 40, .inl zk))] H := hP
  have hD : va_D A [(q0, .inr (9, [.ref q1, .ref q2, .int svc, .ref q3, .int tl, .int (0 : Int32), .int mm, .int mr, .ref q4, .int ati, .int ors, .ref q5, .ref q6])), (q1, .inl (cyI, 246, .inl zs)), (q2, .inl (cyI, 984, .inl zv)), (q3, .inl (cyI, 80, .inl zt)), (q4, .inl (cyI, 5, .inl zp)), (q5, .inl (cyI, 40, .inl zm)), (q6, .inl (cyI, 40, .inl zk))] := hD
  refine lv_iload_n hx hb dX9_rated_5 rfl (lv_at hl 1 rfl) ?_
  refine lv_iload_n hx hb dX9_rated_6 rfl (lv_at hl 2 rfl) ?_
  refine lv_iload_n hx hb dX9_rated_7 rfl (lv_at hl 3 rfl) ?_
  refine vp_callSi (W.runS (As := [.int le, .int an, .int sl]) (rest := []) ⟨hx, hb, hml, hown, hts⟩ (c_X9_isPosition l dC dI cyI le an sl) (va_cwS 3 hts (gBS b_373 b_374 b_5 b_375) rfl rfl rfl (by decide +kernel) ⟨Nat.le_of_ble_eq_true rfl, Nat.le_of_ble_eq_true rfl⟩) (pre_s eM_ok he hS (hP.sub (ws' := []) [] rfl) (hK.sub (tys' := []) [] rfl)) rfl rfl hl.1 rfl (lv_room (Nat.le_of_ble_eq_true rfl)) dX9_rated_8 ⟨Nat.zero_le _, Nat.zero_le _⟩) (fun r_1 hr_1 => ?_)
  obtain ⟨hr_1, hbr_1⟩ := hr_1
  have hE := hE.trans (spLet_eq hr_1)
  refine lv_if_eq (tgt := 28) hx hb dX9_rated_11 (by decide) (fun c_2 => ?_) (fun c_2 => ?_)
  ·
    have hE := hE.trans (if_pos c_2)
    refine lv_aload_n hx hb dX9_rated_28 rfl (lv_at hl 0 rfl) ?_
    refine lv_iconst (v := 1) hx hb dX9_rated_29 (by decide) ?_
    refine mj_i (wr := []) (va_runV (As := [.int (1 : Int32)]) (rest := []) ⟨hx, hb, hml, hown, hts⟩ (c_X9_fails l dC dI cyI H.size q0 q1 q2 q3 q4 q5 q6 svc tl (0 : Int32) mm mr ati ors zs zv zt zp zm zk (1 : Int32)) (cwV 1 hts (gBV b_185 b_186 b_187 b_5 b_188) rfl rfl rfl (by decide +kernel) ⟨Nat.le_of_ble_eq_true rfl, Nat.le_of_ble_eq_true rfl⟩) (prm_v eM_ok he hS hP hD hK (va_free (wc := [(q0, .inr (9, [.ref q1, .ref q2, .int svc, .ref q3, .int tl, .int (0 : Int32), .int mm, .int mr, .ref q4, .int ati, .int ors, .ref q5, .ref q6])), (q1, .inl (cyI, 246, .inl zs)), (q2, .inl (cyI, 984, .inl zv)), (q3, .inl (cyI, 80, .inl zt)), (q4, .inl (cyI, 5, .inl zp)), (q5, .inl (cyI, 40, .inl zm)), (q6, .inl (cyI, 40, .inl zk))]) hD hS hA [0, 1, 2, 3, 4, 5, 6] rfl) 0 rfl rfl rfl) rfl rfl hl.1 rfl (lv_room (Nat.le_of_ble_eq_true rfl)) dX9_rated_30 ⟨Nat.le_of_ble_eq_true rfl, Nat.le_of_ble_eq_true rfl⟩) hP hD hS hA [0, 1, 2, 3, 4, 5, 6] [] rfl rfl (by decide) (by decide) (fun r_4 u_3 H locs hw hP hD hS => ?_)
    obtain ⟨hu_3, rfl⟩ := hw
    have hE := hE.trans (spLet_eq hu_3)
    have hP : va_P (dC, dI) vwCl [(q0, .inr (9, [.ref q1, .ref q2, .int svc, .ref q3, .int tl, .int (u_3.2), .int mm, .int mr, .ref q4, .int ati, .int ors, .ref q5, .ref q6])), (q1, .inl (cyI, 246, .inl zs)), (q2, .inl (cyI, 984, .inl zv)), (q3, .inl (cyI, 80, .inl zt)), (q4, .inl (cyI, 5, .inl zp)), (q5, .inl (cyI, 40, .inl zm)), (q6, .inl (cyI, 40, .inl zk))] H := hP
    have hD : va_D A [(q0, .inr (9, [.ref q1, .ref q2, .int svc, .ref q3, .int tl, .int (u_3.2), .int mm, .int mr, .ref q4, .int ati, .int ors, .ref q5, .ref q6])), (q1, .inl (cyI, 246, .inl zs)), (q2, .inl (cyI, 984, .inl zv)), (q3, .inl (cyI, 80, .inl zt)), (q4, .inl (cyI, 5, .inl zp)), (q5, .inl (cyI, 40, .inl zm)), (q6, .inl (cyI, 40, .inl zk))] := hD
    exact W.iret (v := (u_3.1)) hx hb hr (fun t h9 hW => ⟨⟨(u_3.1), (((u_3.1), (u_3.2)) : Int32 × Int32), rfl, ⟨hE.symm, rfl⟩, by rw [h9]; exact hP, hD⟩, hS.F h9⟩) hS.2.2 dX9_rated_33
  ·
    have hE := hE.trans (if_neg c_2)
    refine lv_aload_n hx hb dX9_rated_14 rfl (lv_at hl 0 rfl) ?_
    refine lv_iload_n hx hb dX9_rated_15 rfl (lv_at hl 1 rfl) ?_
    refine lv_iload_n hx hb dX9_rated_16 rfl (lv_at hl 1 rfl) ?_
    refine lv_iload_n hx hb dX9_rated_17 rfl (lv_at hl 2 rfl) ?_
    refine vp_callSi (W.runS (As := [.int le, .int an]) (rest := [.int le, .ref q0]) ⟨hx, hb, hml, hown, hts⟩ (c_X9_radiusOf l dC dI cyI le an) (va_cwS 2 hts (gBS b_384 b_385 b_5 b_386) rfl rfl rfl (by decide +kernel) ⟨Nat.le_of_ble_eq_true rfl, Nat.le_of_ble_eq_true rfl⟩) (pre_s eM_ok he hS (hP.sub (ws' := []) [] rfl) (hK.sub (tys' := []) [] rfl)) rfl rfl hl.1 rfl (lv_room (Nat.le_of_ble_eq_true rfl)) dX9_rated_18 ⟨Nat.zero_le _, Nat.zero_le _⟩) (fun r_5 hr_5 => ?_)
    have hE := hE.trans (spLet_eq hr_5)
    refine lv_iload_n hx hb dX9_rated_21 rfl (lv_at hl 3 rfl) ?_
    refine vp_callSi (W.runV (As := [.int le, .int r_5, .int sl]) (rest := []) ⟨hx, hb, hml, hown, hts⟩ (c_X9_ratedFor l dC dI cyI q0 q1 q2 q3 q4 q5 q6 svc tl (0 : Int32) mm mr ati ors zs zv zt zp zm zk le r_5 sl hG) (cwV 3 hts (gBV b_709 b_710 b_711 b_5 b_712) rfl rfl rfl (by decide +kernel) ⟨Nat.le_of_ble_eq_true rfl, Nat.le_of_ble_eq_true rfl⟩) (pre_v eM_ok he hS hP hK 0 rfl rfl rfl) rfl rfl hl.1 rfl (lv_room (Nat.le_of_ble_eq_true rfl)) dX9_rated_22 ⟨Nat.zero_le _, Nat.zero_le _⟩) (fun r_6 hr_6 => ?_)
    have hE := hE.trans (spLet_eq hr_6)
    refine lv_goto (tgt := 33) hx hb dX9_rated_25 (by decide) ?_
    exact W.iret (v := r_6) hx hb hr (fun t h9 hW => ⟨⟨r_6, ((r_6, (0 : Int32)) : Int32 × Int32), rfl, ⟨hE.symm, rfl⟩, by rw [h9]; exact hP, hD⟩, hS.F h9⟩) hS.2.2 dX9_rated_33
def m_maxRadius_j59 (v2_25 : Int32) : Int32 × Int32 :=
  if (300 : Int32) ≤ v2_25 then ((v2_25, (0 : Int32))) else (((-1 : Int32), (0 : Int32)))
def m_maxRadius_b25 (zs : Nat → Int32) (ma : Int32) (rec25 : Int32 → (Int32 × Int32)) : Int32 → (Int32 × Int32) :=
  fun v2_25 => if v2_25 < (300 : Int32) then (m_maxRadius_j59 v2_25) else (spLet (m_ratedFor zs (zs 0) v2_25 (zs 2)) (fun r_5 => if ma ≤ r_5 then (m_maxRadius_j59 v2_25) else (spLet (v2_25 + (-1 : Int32)) (fun x_7 => rec25 x_7))))
def m_maxRadius (zs : Nat → Int32) (ma : Int32) : Int32 × Int32 :=
  spLet (m_in ma (1 : Int32) (100000 : Int32)) (fun r_1 => if r_1 = 0 then (spLet (m_fails (1 : Int32)) (fun u_8 => ((u_8.1), (u_8.2)))) else (spIter (fun _ => default) (m_maxRadius_b25 zs ma) 2702 (3000 : Int32)))
set_option maxHeartbeats 1000000 in
set_option maxRecDepth 100000 in
theorem c_X9_maxRadius (l : Launch) (dC : Nat → ClassId) (dI : Nat → Nat → Nat) (cyI : ClassId) (sz : Nat) (q0 : Nat) (q1 : Nat) (q2 : Nat) (q3 : Nat) (q4 : Nat) (q5 : Nat) (q6 : Nat) (svc : Int32) (tl : Int32) (cde : Int32) (mm : Int32) (mr : Int32) (ati : Int32) (ors : Int32) (zs : Nat → Int32) (zv : Nat → Int32) (zt : Nat → Int32) (zp : Nat → Int32) (zm : Nat → Int32) (zk : Nat → Int32) (ma : Int32) (hG : mG zs) : Met l yX9_maxRadius wqX9_maxRadius ({ frames := 4, cells := 0, slots := 0, locals := 91 } : Room) (va_Pc [.ref q0, .int ma] (pC (dC, dI) [(q0, .inr (9, [.ref q1, .ref q2, .int svc, .ref q3, .int tl, .int cde, .int mm, .int mr, .ref q4, .int ati, .int ors, .ref q5, .ref q6])), (q1, .inl (cyI, 246, .inl zs)), (q2, .inl (cyI, 984, .inl zv)), (q3, .inl (cyI, 80, .inl zt)), (q4, .inl (cyI, 5, .inl zp)), (q5, .inl (cyI, 40, .inl zm)), (q6, .inl (cyI, 40, .inl zk))] [(cyI, .int)] eM sz)) (va_Qi (fun (r : Int32) (u : Int32 × Int32) => u = (m_maxRadius zs ma) ∧ r = u.1) (fun (u : Int32 × Int32) t => va_P (dC, dI) vwCl [(q0, .inr (9, [.ref q1, .ref q2, .int svc, .ref q3, .int tl, .int (u.2), .int mm, .int mr, .ref q4, .int ati, .int ors, .ref q5, .ref q6])), (q1, .inl (cyI, 246, .inl zs)), (q2, .inl (cyI, 984, .inl zv)), (q3, .inl (cyI, 80, .inl zt)), (q4, .inl (cyI, 5, .inl zp)), (q5, .inl (cyI, 40, .inl zm)), (q6, .inl (cyI, 40, .inl zk))] t.heap ∧ va_D (va_A [(q0, .inr (9, [.ref q1, .ref q2, .int svc, .ref q3, .int tl, .int cde, .int mm, .int mr, .ref q4, .int ati, .int ors, .ref q5, .ref q6])), (q1, .inl (cyI, 246, .inl zs)), (q2, .inl (cyI, 984, .inl zv)), (q3, .inl (cyI, 80, .inl zt)), (q4, .inl (cyI, 5, .inl zp)), (q5, .inl (cyI, 40, .inl zm)), (q6, .inl (cyI, 40, .inl zk))] sz) [(q0, .inr (9, [.ref q1, .ref q2, .int svc, .ref q3, .int tl, .int (u.2), .int mm, .int mr, .ref q4, .int ati, .int ors, .ref q5, .ref q6])), (q1, .inl (cyI, 246, .inl zs)), (q2, .inl (cyI, 984, .inl zv)), (q3, .inl (cyI, 80, .inl zt)), (q4, .inl (cyI, 5, .inl zp)), (q5, .inl (cyI, 40, .inl zm)), (q6, .inl (cyI, 40, .inl zk))]) (va_A [(q0, .inr (9, [.ref q1, .ref q2, .int svc, .ref q3, .int tl, .int cde, .int mm, .int mr, .ref q4, .int ati, .int ors, .ref q5, .ref q6])), (q1, .inl (cyI, 246, .inl zs)), (q2, .inl (cyI, 984, .inl zv)), (q3, .inl (cyI, 80, .inl zt)), (q4, .inl (cyI, 5, .inl zp)), (q5, .inl (cyI, 40, .inl zm)), (q6, .inl (cyI, 40, .inl zk))] sz)) 0 0 (va_A [(q0, .inr (9, [.ref q1, .ref q2, .int svc, .ref q3, .int tl, .int cde, .int mm, .int mr, .ref q4, .int ati, .int ors, .ref q5, .ref q6])), (q1, .inl (cyI, 246, .inl zs)), (q2, .inl (cyI, 984, .inl zv)), (q3, .inl (cyI, 80, .inl zt)), (q4, .inl (cyI, 5, .inl zp)), (q5, .inl (cyI, 40, .inl zm)), (q6, .inl (cyI, 40, .inl zk))] sz) := by
  refine Met.ofW (cc := cX9_maxRadius) (maxL := 3) (ret := (some .int)) (by decide) rfl ?_
  intro p e s m args below meth c s₁ B hml hv
  obtain ⟨rfl, hsz, hP, hK, hD0, he⟩ := hv
  have hx := B.exec
  have hb := B.bytes
  have hr := B.returns
  have hts := atoms_spec (ws := wqX9_maxRadius) B.pre
  have hown : s.vm.findClass RX9 = some m.cls := findClass_of_methodNamed B.named
  have hlocks := B.notSynchronized
  have w_0 := hts (Cond.fieldLink RX9 28 "CraneLimiterModel" "code" "I") (List.mem_cons_of_mem _ b_181)
  have w_1 := hts (Cond.constant RX9 145 (100000)) (List.mem_cons_of_mem _ b_234)
  have w_2 := hts (Cond.fieldLink RX9 7 "CraneLimiterModel" "s" "[I") (List.mem_cons_of_mem _ b_93)
  have i_X9 : ∀ w ∈ u_ws RX9 TX9 13, w ∈ wqX9_maxRadius := fun w h => List.mem_cons_of_mem _ (bX9 w h)
  subst hsz
  have hD := hD0.self (sz := s.heap.size)
  generalize hAe : va_A [(q0, .inr (9, [.ref q1, .ref q2, .int svc, .ref q3, .int tl, .int cde, .int mm, .int mr, .ref q4, .int ati, .int ors, .ref q5, .ref q6])), (q1, .inl (cyI, 246, .inl zs)), (q2, .inl (cyI, 984, .inl zv)), (q3, .inl (cyI, 80, .inl zt)), (q4, .inl (cyI, 5, .inl zp)), (q5, .inl (cyI, 40, .inl zm)), (q6, .inl (cyI, 40, .inl zk))] s.heap.size = A at hD he ⊢
  have hA : ∀ q : Nat, s.heap.size ≤ q → A q := fun q h => by rw [← hAe]; exact Or.inr h
  have hS : va_S A s.heap s.heap [] := va_S.rf
  have hP : va_P (dC, dI) vwCl [(q0, .inr (9, [.ref q1, .ref q2, .int svc, .ref q3, .int tl, .int cde, .int mm, .int mr, .ref q4, .int ati, .int ors, .ref q5, .ref q6])), (q1, .inl (cyI, 246, .inl zs)), (q2, .inl (cyI, 984, .inl zv)), (q3, .inl (cyI, 80, .inl zt)), (q4, .inl (cyI, 5, .inl zp)), (q5, .inl (cyI, 40, .inl zm)), (q6, .inl (cyI, 40, .inl zk))] s.heap := hP
  have hl := lv_entry ([.ref q0, .int ma] : List Value) (n := 3) (Nat.le_of_ble_eq_true rfl)
  rw [lg_entry_eq]
  generalize (lg_sl ([.ref q0, .int ma] : List Value) ++ List.replicate (3 - (lg_sl ([.ref q0, .int ma] : List Value)).length) Slot.unset).toArray = ls at hl ⊢
  have hl : lv_has ls 3 [(0, .ref q0), (1, .int ma)] := hl
  have hE : m_maxRadius zs ma = m_maxRadius zs ma := rfl
  refine lv_aload_n hx hb dX9_maxRadius_0 rfl (lv_at hl 0 rfl) ?_
  refine lv_iconst (v := 0) hx hb dX9_maxRadius_1 (by decide) ?_
  refine va_put (D := (dC, dI)) (ci := 9) (v := .int (0 : Int32)) (ty := .int) (C := RX9) (T := TX9) (N := 13) hx hb hts i_X9 tyX9 tyX9_ok nmX9 hown hK hP hD hS 0 rfl rfl 5 (by decide) w_0 (fun _ h9 => h9) rfl (by decide +kernel) (rfl) (rfl) (Nat.le_of_ble_eq_true rfl) dX9_maxRadius_2 (fun H locs hP hD hS => ?_)
  have hP : va_P (dC, dI) vwCl [(q0, .inr (9, [.ref q1, .ref q2, .int svc, .ref q3, .int tl, .int (0 : Int32), .int mm, .int mr, .ref q4, .int ati, .int ors, .ref q5, .ref q6])), (q1, .inl (cyI, 246, .inl zs)), (q2, .inl (cyI, 984, .inl zv)), (q3, .inl (cyI, 80, .inl zt)), (q4, .inl (cyI, 5, .inl zp)), (q5, .inl (cyI, 40, .inl zm)), (q6, .inl (cyI, 40, .inl zk))] H := hP
  have hD : va_D A [(q0, .inr (9, [.ref q1, .ref q2, .int svc, .ref q3, .int tl, .int (0 : Int32), .int mm, .int mr, .ref q4, .int ati, .int ors, .ref q5, .ref q6])), (q1, .inl (cyI, 246, .inl zs)), (q2, .inl (cyI, 984, .inl zv)), (q3, .inl (cyI, 80, .inl zt)), (q4, .inl (cyI, 5, .inl zp)), (q5, .inl (cyI, 40, .inl zm)), (q6, .inl (cyI, 40, .inl zk))] := hD
  refine lv_iload_n hx hb dX9_maxRadius_5 rfl (lv_at hl 1 rfl) ?_
  refine lv_iconst (v := 1) hx hb dX9_maxRadius_6 (by decide) ?_
  refine lv_ldc (v := 100000) hx hb hown w_1 dX9_maxRadius_7 ?_
  refine vp_callSi (W.runS (As := [.int ma, .int (1 : Int32), .int (100000 : Int32)]) (rest := []) ⟨hx, hb, hml, hown, hts⟩ (c_X9_in l dC dI cyI ma (1 : Int32) (100000 : Int32)) (va_cwS 3 hts (gBS b_182 b_183 b_5 b_184) rfl rfl rfl (by decide +kernel) ⟨Nat.le_of_ble_eq_true rfl, Nat.le_of_ble_eq_true rfl⟩) (pre_s eM_ok he hS (hP.sub (ws' := []) [] rfl) (hK.sub (tys' := []) [] rfl)) rfl rfl hl.1 rfl (lv_room (Nat.le_of_ble_eq_true rfl)) dX9_maxRadius_9 ⟨Nat.zero_le _, Nat.zero_le _⟩) (fun r_1 hr_1 => ?_)
  obtain ⟨hr_1, hbr_1⟩ := hr_1
  have hE := hE.trans (spLet_eq hr_1)
  refine lv_if_ne (tgt := 21) hx hb dX9_maxRadius_12 (by decide) (fun c_2 => ?_) (fun c_2 => ?_)
  ·
    have hE := hE.trans (if_neg c_2)
    refine lv_sipush (v := 3000) hx hb dX9_maxRadius_21 (by decide) ?_
    refine lv_istore_n (lv' := [(2, .int (3000 : Int32)), (0, .ref q0), (1, .int ma)]) hx hb dX9_maxRadius_24 rfl hl (by decide) rfl (fun ls hl => ?_)
    have L25 : ∀ (n25 : Nat) (v2_25 : Int32) (hi : 299 ≤ (v2_25).toInt ∧ (v2_25).toInt ≤ 3000 ∧ (v2_25).toInt < 299 + (n25 : Int)) (ls : Array Slot) (hl : lv_has ls 3 [(0, .ref q0), (1, .int ma), (2, .int v2_25)]) (hE : (m_maxRadius zs ma) = spIter (fun _ => default) (m_maxRadius_b25 zs ma) n25 v2_25), W p l e (headSpec wqX9_maxRadius ({ frames := 4, cells := 0, slots := 0, locals := 91 } : Room)).room s m ([.ref q0, .int ma] : List Value).toArray below meth c H locs 0 0 (MQ below (va_Qi (fun (r : Int32) (u : Int32 × Int32) => u = (m_maxRadius zs ma) ∧ r = u.1) (fun (u : Int32 × Int32) t => va_P (dC, dI) vwCl [(q0, .inr (9, [.ref q1, .ref q2, .int svc, .ref q3, .int tl, .int (u.2), .int mm, .int mr, .ref q4, .int ati, .int ors, .ref q5, .ref q6])), (q1, .inl (cyI, 246, .inl zs)), (q2, .inl (cyI, 984, .inl zv)), (q3, .inl (cyI, 80, .inl zt)), (q4, .inl (cyI, 5, .inl zp)), (q5, .inl (cyI, 40, .inl zm)), (q6, .inl (cyI, 40, .inl zk))] t.heap ∧ va_D A [(q0, .inr (9, [.ref q1, .ref q2, .int svc, .ref q3, .int tl, .int (u.2), .int mm, .int mr, .ref q4, .int ati, .int ors, .ref q5, .ref q6])), (q1, .inl (cyI, 246, .inl zs)), (q2, .inl (cyI, 984, .inl zv)), (q3, .inl (cyI, 80, .inl zt)), (q4, .inl (cyI, 5, .inl zp)), (q5, .inl (cyI, 40, .inl zm)), (q6, .inl (cyI, 40, .inl zk))]) A) ([.ref q0, .int ma] : List Value).toArray s 0 0 A) (F0 m 25 ls []) := by
      intro n25
      induction n25 with
      | zero =>
        intro v2_25 hi ls hl hE
        exact absurd hi (by omega)
      | succ n25 ih25 =>
        intro v2_25 hi ls hl hE
        have hE : (m_maxRadius zs ma) = m_maxRadius_b25 zs ma (spIter (fun _ => default) (m_maxRadius_b25 zs ma) n25) v2_25 := hE
        refine lv_iload_n hx hb dX9_maxRadius_25 rfl (lv_at hl 2 rfl) ?_
        refine lv_sipush (v := 300) hx hb dX9_maxRadius_26 (by decide) ?_
        have J59 : ∀ (ls : Array Slot) (hl : lv_has ls 3 [(2, .int v2_25)]) (hE : (m_maxRadius zs ma) = m_maxRadius_j59 v2_25), W p l e (headSpec wqX9_maxRadius ({ frames := 4, cells := 0, slots := 0, locals := 91 } : Room)).room s m ([.ref q0, .int ma] : List Value).toArray below meth c H locs 0 0 (MQ below (va_Qi (fun (r : Int32) (u : Int32 × Int32) => u = (m_maxRadius zs ma) ∧ r = u.1) (fun (u : Int32 × Int32) t => va_P (dC, dI) vwCl [(q0, .inr (9, [.ref q1, .ref q2, .int svc, .ref q3, .int tl, .int (u.2), .int mm, .int mr, .ref q4, .int ati, .int ors, .ref q5, .ref q6])), (q1, .inl (cyI, 246, .inl zs)), (q2, .inl (cyI, 984, .inl zv)), (q3, .inl (cyI, 80, .inl zt)), (q4, .inl (cyI, 5, .inl zp)), (q5, .inl (cyI, 40, .inl zm)), (q6, .inl (cyI, 40, .inl zk))] t.heap ∧ va_D A [(q0, .inr (9, [.ref q1, .ref q2, .int svc, .ref q3, .int tl, .int (u.2), .int mm, .int mr, .ref q4, .int ati, .int ors, .ref q5, .ref q6])), (q1, .inl (cyI, 246, .inl zs)), (q2, .inl (cyI, 984, .inl zv)), (q3, .inl (cyI, 80, .inl zt)), (q4, .inl (cyI, 5, .inl zp)), (q5, .inl (cyI, 40, .inl zm)), (q6, .inl (cyI, 40, .inl zk))]) A) ([.ref q0, .int ma] : List Value).toArray s 0 0 A) (F0 m 59 ls []) := by
          intro ls hl hE
          refine lv_iload_n hx hb dX9_maxRadius_59 rfl (lv_at hl 0 rfl) ?_
          refine lv_sipush (v := 300) hx hb dX9_maxRadius_60 (by decide) ?_
          refine lv_icmp_ge (tgt := 70) hx hb dX9_maxRadius_63 (by decide) (fun c_4 => ?_) (fun c_4 => ?_)
          ·
            have hE := hE.trans (if_pos c_4)
            refine lv_iload_n hx hb dX9_maxRadius_70 rfl (lv_at hl 0 rfl) ?_
            exact W.iret (v := v2_25) hx hb hr (fun t h9 hW => ⟨⟨v2_25, ((v2_25, (0 : Int32)) : Int32 × Int32), rfl, ⟨hE.symm, rfl⟩, by rw [h9]; exact hP, hD⟩, hS.F h9⟩) hS.2.2 dX9_maxRadius_71
          ·
            have hE := hE.trans (if_neg c_4)
            refine lv_iconst (v := -1) hx hb dX9_maxRadius_66 (by decide) ?_
            refine lv_goto (tgt := 71) hx hb dX9_maxRadius_67 (by decide) ?_
            exact W.iret (v := (-1 : Int32)) hx hb hr (fun t h9 hW => ⟨⟨(-1 : Int32), (((-1 : Int32), (0 : Int32)) : Int32 × Int32), rfl, ⟨hE.symm, rfl⟩, by rw [h9]; exact hP, hD⟩, hS.F h9⟩) hS.2.2 dX9_maxRadius_71
        refine lv_icmp_lt (tgt := 59) hx hb dX9_maxRadius_29 (by decide) (fun c_3 => ?_) (fun c_3 => ?_)
        ·
          have hE := hE.trans (if_pos c_3)
          exact J59 ls (lv_sub hl [2] rfl) hE
        ·
          have hE := hE.trans (if_neg c_3)
          refine lv_aload_n hx hb dX9_maxRadius_32 rfl (lv_at hl 0 rfl) ?_
          refine lv_aload_n hx hb dX9_maxRadius_33 rfl (lv_at hl 0 rfl) ?_
          refine va_get (D := (dC, dI)) (ci := 9) (v := .ref q1) (C := RX9) (T := TX9) (N := 13) hx hb hts i_X9 hown hK hP 0 rfl rfl 0 (by decide) w_2 (fun _ h9 => h9) rfl dX9_maxRadius_34 ?_
          refine lv_iconst (v := 0) hx hb dX9_maxRadius_37 (by decide) ?_
          refine ra_ld hx hb hK hP 1 0 rfl rfl (j := 0) (rfl : (0 : Int32) = nI 0) (by omega) (by omega) dX9_maxRadius_38 ?_
          refine lv_iload_n hx hb dX9_maxRadius_39 rfl (lv_at hl 2 rfl) ?_
          refine lv_aload_n hx hb dX9_maxRadius_40 rfl (lv_at hl 0 rfl) ?_
          refine va_get (D := (dC, dI)) (ci := 9) (v := .ref q1) (C := RX9) (T := TX9) (N := 13) hx hb hts i_X9 hown hK hP 0 rfl rfl 0 (by decide) w_2 (fun _ h9 => h9) rfl dX9_maxRadius_41 ?_
          refine lv_iconst (v := 2) hx hb dX9_maxRadius_44 (by decide) ?_
          refine ra_ld hx hb hK hP 1 0 rfl rfl (j := 2) (rfl : (2 : Int32) = nI 2) (by omega) (by omega) dX9_maxRadius_45 ?_
          refine vp_callSi (W.runV (As := [.int (zs 0), .int v2_25, .int (zs 2)]) (rest := []) ⟨hx, hb, hml, hown, hts⟩ (c_X9_ratedFor l dC dI cyI q0 q1 q2 q3 q4 q5 q6 svc tl (0 : Int32) mm mr ati ors zs zv zt zp zm zk (zs 0) v2_25 (zs 2) hG) (cwV 3 hts (gBV b_709 b_710 b_711 b_5 b_712) rfl rfl rfl (by decide +kernel) ⟨Nat.le_of_ble_eq_true rfl, Nat.le_of_ble_eq_true rfl⟩) (pre_v eM_ok he hS hP hK 0 rfl rfl rfl) rfl rfl hl.1 rfl (lv_room (Nat.le_of_ble_eq_true rfl)) dX9_maxRadius_46 ⟨Nat.zero_le _, Nat.zero_le _⟩) (fun r_5 hr_5 => ?_)
          have hE := hE.trans (spLet_eq hr_5)
          refine lv_iload_n hx hb dX9_maxRadius_49 rfl (lv_at hl 1 rfl) ?_
          refine lv_icmp_ge (tgt := 59) hx hb dX9_maxRadius_50 (by decide) (fun c_6 => ?_) (fun c_6 => ?_)
          ·
            have hE := hE.trans (if_pos c_6)
            exact J59 ls (lv_sub hl [2] rfl) hE
          ·
            have hE := hE.trans (if_neg c_6)
            obtain ⟨x_7, ex_7⟩ : ∃ y : Int32, y = v2_25 + (-1 : Int32) := ⟨_, rfl⟩
            have hE := hE.trans (spLet_eq ex_7)
            refine lv_iinc (v := x_7) (lv' := [(2, .int x_7), (0, .ref q0), (1, .int ma)]) hx hb dX9_maxRadius_53 hl (k := 2) rfl (by rw [ex_7]; rfl) (by decide) rfl (fun ls hl => ?_)
            refine lv_goto (tgt := 25) hx hb dX9_maxRadius_56 (by decide) ?_
            exact ih25 x_7 (mr_step hi (by assumption) ex_7) ls (lv_sub hl [1, 2, 0] rfl) hE
    exact L25 2702 (3000 : Int32) ⟨by decide, by decide, by decide⟩ ls (lv_sub hl [1, 2, 0] rfl) hE
  ·
    have hE := hE.trans (if_pos c_2)
    refine lv_aload_n hx hb dX9_maxRadius_15 rfl (lv_at hl 0 rfl) ?_
    refine lv_iconst (v := 1) hx hb dX9_maxRadius_16 (by decide) ?_
    refine mj_i (wr := []) (va_runV (As := [.int (1 : Int32)]) (rest := []) ⟨hx, hb, hml, hown, hts⟩ (c_X9_fails l dC dI cyI H.size q0 q1 q2 q3 q4 q5 q6 svc tl (0 : Int32) mm mr ati ors zs zv zt zp zm zk (1 : Int32)) (cwV 1 hts (gBV b_185 b_186 b_187 b_5 b_188) rfl rfl rfl (by decide +kernel) ⟨Nat.le_of_ble_eq_true rfl, Nat.le_of_ble_eq_true rfl⟩) (prm_v eM_ok he hS hP hD hK (va_free (wc := [(q0, .inr (9, [.ref q1, .ref q2, .int svc, .ref q3, .int tl, .int (0 : Int32), .int mm, .int mr, .ref q4, .int ati, .int ors, .ref q5, .ref q6])), (q1, .inl (cyI, 246, .inl zs)), (q2, .inl (cyI, 984, .inl zv)), (q3, .inl (cyI, 80, .inl zt)), (q4, .inl (cyI, 5, .inl zp)), (q5, .inl (cyI, 40, .inl zm)), (q6, .inl (cyI, 40, .inl zk))]) hD hS hA [0, 1, 2, 3, 4, 5, 6] rfl) 0 rfl rfl rfl) rfl rfl hl.1 rfl (lv_room (Nat.le_of_ble_eq_true rfl)) dX9_maxRadius_17 ⟨Nat.le_of_ble_eq_true rfl, Nat.le_of_ble_eq_true rfl⟩) hP hD hS hA [0, 1, 2, 3, 4, 5, 6] [] rfl rfl (by decide) (by decide) (fun r_9 u_8 H locs hw hP hD hS => ?_)
    obtain ⟨hu_8, rfl⟩ := hw
    have hE := hE.trans (spLet_eq hu_8)
    have hP : va_P (dC, dI) vwCl [(q0, .inr (9, [.ref q1, .ref q2, .int svc, .ref q3, .int tl, .int (u_8.2), .int mm, .int mr, .ref q4, .int ati, .int ors, .ref q5, .ref q6])), (q1, .inl (cyI, 246, .inl zs)), (q2, .inl (cyI, 984, .inl zv)), (q3, .inl (cyI, 80, .inl zt)), (q4, .inl (cyI, 5, .inl zp)), (q5, .inl (cyI, 40, .inl zm)), (q6, .inl (cyI, 40, .inl zk))] H := hP
    have hD : va_D A [(q0, .inr (9, [.ref q1, .ref q2, .int svc, .ref q3, .int tl, .int (u_8.2), .int mm, .int mr, .ref q4, .int ati, .int ors, .ref q5, .ref q6])), (q1, .inl (cyI, 246, .inl zs)), (q2, .inl (cyI, 984, .inl zv)), (q3, .inl (cyI, 80, .inl zt)), (q4, .inl (cyI, 5, .inl zp)), (q5, .inl (cyI, 40, .inl zm)), (q6, .inl (cyI, 40, .inl zk))] := hD
    exact W.iret (v := (u_8.1)) hx hb hr (fun t h9 hW => ⟨⟨(u_8.1), (((u_8.1), (u_8.2)) : Int32 × Int32), rfl, ⟨hE.symm, rfl⟩, by rw [h9]; exact hP, hD⟩, hS.F h9⟩) hS.2.2 dX9_maxRadius_20
def m_worstSlew_j36 (mm : Int32) (mr : Int32) : Int32 × Int32 × Int32 × Int32 :=
  spLet (m_fails (1 : Int32)) (fun u_3 => ((u_3.1), (u_3.2), mm, mr))
def m_worstSlew_j107 (v5_68 : Int32) (k7_68 : Nat) (rec68 : Int32 → Int32 → Nat → (Int32 × Int32 × Int32 × Int32)) (r_14 : Int32) (t0_107 : Int32) : Int32 × Int32 × Int32 × Int32 :=
  spLet (m_greater v5_68 r_14) (fun r_16 => rec68 r_16 t0_107 (k7_68 + 50))
def m_worstSlew_b68 (zs : Nat → Int32) (fr : Int32) (wh : Int32) (x_9 : Int32) (u_10 : Int32 × Int32) (rec68 : Int32 → Int32 → Nat → (Int32 × Int32 × Int32 × Int32)) : Int32 → Int32 → Nat → (Int32 × Int32 × Int32 × Int32) :=
  fun v5_68 v6_68 k7_68 => if (x_9).toNatClampNeg < k7_68 then (if wh = 0 then ((v5_68, (0 : Int32), (u_10.1), (u_10.2))) else ((v6_68, (0 : Int32), (u_10.1), (u_10.2)))) else (spLet (((fr + (nI k7_68)) - (fr + (nI k7_68)) / (3600 : Int32) * (3600 : Int32))) (fun x_13 => spLet (m_utilizationAt (u_10.1) (u_10.2) zs x_13) (fun r_14 => if r_14 ≤ v5_68 then (m_worstSlew_j107 v5_68 k7_68 rec68 r_14 v6_68) else (m_worstSlew_j107 v5_68 k7_68 rec68 r_14 x_13))))
def m_worstSlew (mm : Int32) (mr : Int32) (zs : Nat → Int32) (fr : Int32) (to : Int32) (wh : Int32) : Int32 × Int32 × Int32 × Int32 :=
  spLet (m_in fr (0 : Int32) (3599 : Int32)) (fun r_1 => if r_1 = 0 then (m_worstSlew_j36 mm mr) else (spLet (m_in to (0 : Int32) (3599 : Int32)) (fun r_5 => if r_5 = 0 then (m_worstSlew_j36 mm mr) else (spLet (m_in wh (0 : Int32) (1 : Int32)) (fun r_7 => if r_7 = 0 then (m_worstSlew_j36 mm mr) else (spLet ((((to - fr) + (3600 : Int32)) - ((to - fr) + (3600 : Int32)) / (3600 : Int32) * (3600 : Int32))) (fun x_9 => spLet (m_measure mr zs) (fun u_10 => spIter (fun _ _ _ => default) (m_worstSlew_b68 zs fr wh x_9 u_10) 74 (-1 : Int32) (-1 : Int32) 0))))))))
set_option maxHeartbeats 1000000 in
set_option maxRecDepth 100000 in
theorem c_X9_worstSlew (l : Launch) (dC : Nat → ClassId) (dI : Nat → Nat → Nat) (cyI : ClassId) (sz : Nat) (q0 : Nat) (q1 : Nat) (q2 : Nat) (q3 : Nat) (q4 : Nat) (q5 : Nat) (q6 : Nat) (svc : Int32) (tl : Int32) (cde : Int32) (mm : Int32) (mr : Int32) (ati : Int32) (ors : Int32) (zs : Nat → Int32) (zv : Nat → Int32) (zt : Nat → Int32) (zp : Nat → Int32) (zm : Nat → Int32) (zk : Nat → Int32) (fr : Int32) (to : Int32) (wh : Int32) (hG : mG zs) : Met l yX9_worstSlew wqX9_worstSlew ({ frames := 7, cells := 0, slots := 0, locals := 149 } : Room) (va_Pc [.ref q0, .int fr, .int to, .int wh] (pC (dC, dI) [(q0, .inr (9, [.ref q1, .ref q2, .int svc, .ref q3, .int tl, .int cde, .int mm, .int mr, .ref q4, .int ati, .int ors, .ref q5, .ref q6])), (q1, .inl (cyI, 246, .inl zs)), (q2, .inl (cyI, 984, .inl zv)), (q3, .inl (cyI, 80, .inl zt)), (q4, .inl (cyI, 5, .inl zp)), (q5, .inl (cyI, 40, .inl zm)), (q6, .inl (cyI, 40, .inl zk))] [(cyI, .int)] eM sz)) (va_Qi (fun (r : Int32) (u : Int32 × Int32 × Int32 × Int32) => u = (m_worstSlew mm mr zs fr to wh) ∧ r = u.1) (fun (u : Int32 × Int32 × Int32 × Int32) t => va_P (dC, dI) vwCl [(q0, .inr (9, [.ref q1, .ref q2, .int svc, .ref q3, .int tl, .int (u.2.1), .int (u.2.2.1), .int (u.2.2.2), .ref q4, .int ati, .int ors, .ref q5, .ref q6])), (q1, .inl (cyI, 246, .inl zs)), (q2, .inl (cyI, 984, .inl zv)), (q3, .inl (cyI, 80, .inl zt)), (q4, .inl (cyI, 5, .inl zp)), (q5, .inl (cyI, 40, .inl zm)), (q6, .inl (cyI, 40, .inl zk))] t.heap ∧ va_D (va_A [(q0, .inr (9, [.ref q1, .ref q2, .int svc, .ref q3, .int tl, .int cde, .int mm, .int mr, .ref q4, .int ati, .int ors, .ref q5, .ref q6])), (q1, .inl (cyI, 246, .inl zs)), (q2, .inl (cyI, 984, .inl zv)), (q3, .inl (cyI, 80, .inl zt)), (q4, .inl (cyI, 5, .inl zp)), (q5, .inl (cyI, 40, .inl zm)), (q6, .inl (cyI, 40, .inl zk))] sz) [(q0, .inr (9, [.ref q1, .ref q2, .int svc, .ref q3, .int tl, .int (u.2.1), .int (u.2.2.1), .int (u.2.2.2), .ref q4, .int ati, .int ors, .ref q5, .ref q6])), (q1, .inl (cyI, 246, .inl zs)), (q2, .inl (cyI, 984, .inl zv)), (q3, .inl (cyI, 80, .inl zt)), (q4, .inl (cyI, 5, .inl zp)), (q5, .inl (cyI, 40, .inl zm)), (q6, .inl (cyI, 40, .inl zk))]) (va_A [(q0, .inr (9, [.ref q1, .ref q2, .int svc, .ref q3, .int tl, .int cde, .int mm, .int mr, .ref q4, .int ati, .int ors, .ref q5, .ref q6])), (q1, .inl (cyI, 246, .inl zs)), (q2, .inl (cyI, 984, .inl zv)), (q3, .inl (cyI, 80, .inl zt)), (q4, .inl (cyI, 5, .inl zp)), (q5, .inl (cyI, 40, .inl zm)), (q6, .inl (cyI, 40, .inl zk))] sz)) 0 0 (va_A [(q0, .inr (9, [.ref q1, .ref q2, .int svc, .ref q3, .int tl, .int cde, .int mm, .int mr, .ref q4, .int ati, .int ors, .ref q5, .ref q6])), (q1, .inl (cyI, 246, .inl zs)), (q2, .inl (cyI, 984, .inl zv)), (q3, .inl (cyI, 80, .inl zt)), (q4, .inl (cyI, 5, .inl zp)), (q5, .inl (cyI, 40, .inl zm)), (q6, .inl (cyI, 40, .inl zk))] sz) := by
  refine Met.ofW (cc := cX9_worstSlew) (maxL := 10) (ret := (some .int)) (by decide) rfl ?_
  intro p e s m args below meth c s₁ B hml hv
  obtain ⟨rfl, hsz, hP, hK, hD0, he⟩ := hv
  have hx := B.exec
  have hb := B.bytes
  have hr := B.returns
  have hts := atoms_spec (ws := wqX9_worstSlew) B.pre
  have hown : s.vm.findClass RX9 = some m.cls := findClass_of_methodNamed B.named
  have hlocks := B.notSynchronized
  have w_0 := hts (Cond.fieldLink RX9 28 "CraneLimiterModel" "code" "I") (List.mem_cons_of_mem _ b_181)
  have i_X9 : ∀ w ∈ u_ws RX9 TX9 13, w ∈ wqX9_worstSlew := fun w h => List.mem_cons_of_mem _ (bX9 w h)
  subst hsz
  have hD := hD0.self (sz := s.heap.size)
  generalize hAe : va_A [(q0, .inr (9, [.ref q1, .ref q2, .int svc, .ref q3, .int tl, .int cde, .int mm, .int mr, .ref q4, .int ati, .int ors, .ref q5, .ref q6])), (q1, .inl (cyI, 246, .inl zs)), (q2, .inl (cyI, 984, .inl zv)), (q3, .inl (cyI, 80, .inl zt)), (q4, .inl (cyI, 5, .inl zp)), (q5, .inl (cyI, 40, .inl zm)), (q6, .inl (cyI, 40, .inl zk))] s.heap.size = A at hD he ⊢
  have hA : ∀ q : Nat, s.heap.size ≤ q → A q := fun q h => by rw [← hAe]; exact Or.inr h
  have hS : va_S A s.heap s.heap [] := va_S.rf
  have hP : va_P (dC, dI) vwCl [(q0, .inr (9, [.ref q1, .ref q2, .int svc, .ref q3, .int tl, .int cde, .int mm, .int mr, .ref q4, .int ati, .int ors, .ref q5, .ref q6])), (q1, .inl (cyI, 246, .inl zs)), (q2, .inl (cyI, 984, .inl zv)), (q3, .inl (cyI, 80, .inl zt)), (q4, .inl (cyI, 5, .inl zp)), (q5, .inl (cyI, 40, .inl zm)), (q6, .inl (cyI, 40, .inl zk))] s.heap := hP
  have hl := lv_entry ([.ref q0, .int fr, .int to, .int wh] : List Value) (n := 10) (Nat.le_of_ble_eq_true rfl)
  rw [lg_entry_eq]
  generalize (lg_sl ([.ref q0, .int fr, .int to, .int wh] : List Value) ++ List.replicate (10 - (lg_sl ([.ref q0, .int fr, .int to, .int wh] : List Value)).length) Slot.unset).toArray = ls at hl ⊢
  have hl : lv_has ls 10 [(0, .ref q0), (1, .int fr), (2, .int to), (3, .int wh)] := hl
  have hE : m_worstSlew mm mr zs fr to wh = m_worstSlew mm mr zs fr to wh := rfl
  refine lv_aload_n hx hb dX9_worstSlew_0 rfl (lv_at hl 0 rfl) ?_
  refine lv_iconst (v := 0) hx hb dX9_worstSlew_1 (by decide) ?_
  refine va_put (D := (dC, dI)) (ci := 9) (v := .int (0 : Int32)) (ty := .int) (C := RX9) (T := TX9) (N := 13) hx hb hts i_X9 tyX9 tyX9_ok nmX9 hown hK hP hD hS 0 rfl rfl 5 (by decide) w_0 (fun _ h9 => h9) rfl (by decide +kernel) (rfl) (rfl) (Nat.le_of_ble_eq_true rfl) dX9_worstSlew_2 (fun H locs hP hD hS => ?_)
  have hP : va_P (dC, dI) vwCl [(q0, .inr (9, [.ref q1, .ref q2, .int svc, .ref q3, .int tl, .int (0 : Int32), .int mm, .int mr, .ref q4, .int ati, .int ors, .ref q5, .ref q6])), (q1, .inl (cyI, 246, .inl zs)), (q2, .inl (cyI, 984, .inl zv)), (q3, .inl (cyI, 80, .inl zt)), (q4, .inl (cyI, 5, .inl zp)), (q5, .inl (cyI, 40, .inl zm)), (q6, .inl (cyI, 40, .inl zk))] H := hP
  have hD : va_D A [(q0, .inr (9, [.ref q1, .ref q2, .int svc, .ref q3, .int tl, .int (0 : Int32), .int mm, .int mr, .ref q4, .int ati, .int ors, .ref q5, .ref q6])), (q1, .inl (cyI, 246, .inl zs)), (q2, .inl (cyI, 984, .inl zv)), (q3, .inl (cyI, 80, .inl zt)), (q4, .inl (cyI, 5, .inl zp)), (q5, .inl (cyI, 40, .inl zm)), (q6, .inl (cyI, 40, .inl zk))] := hD
  refine lv_iload_n hx hb dX9_worstSlew_5 rfl (lv_at hl 1 rfl) ?_
  refine lv_iconst (v := 0) hx hb dX9_worstSlew_6 (by decide) ?_
  refine lv_sipush (v := 3599) hx hb dX9_worstSlew_7 (by decide) ?_
  refine vp_callSi (W.runS (As := [.int fr, .int (0 : Int32), .int (3599 : Int32)]) (rest := []) ⟨hx, hb, hml, hown, hts⟩ (c_X9_in l dC dI cyI fr (0 : Int32) (3599 : Int32)) (va_cwS 3 hts (gBS b_182 b_183 b_5 b_184) rfl rfl rfl (by decide +kernel) ⟨Nat.le_of_ble_eq_true rfl, Nat.le_of_ble_eq_true rfl⟩) (pre_s eM_ok he hS (hP.sub (ws' := []) [] rfl) (hK.sub (tys' := []) [] rfl)) rfl rfl hl.1 rfl (lv_room (Nat.le_of_ble_eq_true rfl)) dX9_worstSlew_10 ⟨Nat.zero_le _, Nat.zero_le _⟩) (fun r_1 hr_1 => ?_)
  obtain ⟨hr_1, hbr_1⟩ := hr_1
  have hE := hE.trans (spLet_eq hr_1)
  have J36 : ∀ (ls : Array Slot) (hl : lv_has ls 10 [(0, .ref q0)]) (hE : (m_worstSlew mm mr zs fr to wh) = m_worstSlew_j36 mm mr), W p l e (headSpec wqX9_worstSlew ({ frames := 7, cells := 0, slots := 0, locals := 149 } : Room)).room s m ([.ref q0, .int fr, .int to, .int wh] : List Value).toArray below meth c H locs 0 0 (MQ below (va_Qi (fun (r : Int32) (u : Int32 × Int32 × Int32 × Int32) => u = (m_worstSlew mm mr zs fr to wh) ∧ r = u.1) (fun (u : Int32 × Int32 × Int32 × Int32) t => va_P (dC, dI) vwCl [(q0, .inr (9, [.ref q1, .ref q2, .int svc, .ref q3, .int tl, .int (u.2.1), .int (u.2.2.1), .int (u.2.2.2), .ref q4, .int ati, .int ors, .ref q5, .ref q6])), (q1, .inl (cyI, 246, .inl zs)), (q2, .inl (cyI, 984, .inl zv)), (q3, .inl (cyI, 80, .inl zt)), (q4, .inl (cyI, 5, .inl zp)), (q5, .inl (cyI, 40, .inl zm)), (q6, .inl (cyI, 40, .inl zk))] t.heap ∧ va_D A [(q0, .inr (9, [.ref q1, .ref q2, .int svc, .ref q3, .int tl, .int (u.2.1), .int (u.2.2.1), .int (u.2.2.2), .ref q4, .int ati, .int ors, .ref q5, .ref q6])), (q1, .inl (cyI, 246, .inl zs)), (q2, .inl (cyI, 984, .inl zv)), (q3, .inl (cyI, 80, .inl zt)), (q4, .inl (cyI, 5, .inl zp)), (q5, .inl (cyI, 40, .inl zm)), (q6, .inl (cyI, 40, .inl zk))]) A) ([.ref q0, .int fr, .int to, .int wh] : List Value).toArray s 0 0 A) (F0 m 36 ls []) := by
    intro ls hl hE
    refine lv_aload_n hx hb dX9_worstSlew_36 rfl (lv_at hl 0 rfl) ?_
    refine lv_iconst (v := 1) hx hb dX9_worstSlew_37 (by decide) ?_
    refine mj_i (wr := []) (va_runV (As := [.int (1 : Int32)]) (rest := []) ⟨hx, hb, hml, hown, hts⟩ (c_X9_fails l dC dI cyI H.size q0 q1 q2 q3 q4 q5 q6 svc tl (0 : Int32) mm mr ati ors zs zv zt zp zm zk (1 : Int32)) (cwV 1 hts (gBV b_185 b_186 b_187 b_5 b_188) rfl rfl rfl (by decide +kernel) ⟨Nat.le_of_ble_eq_true rfl, Nat.le_of_ble_eq_true rfl⟩) (prm_v eM_ok he hS hP hD hK (va_free (wc := [(q0, .inr (9, [.ref q1, .ref q2, .int svc, .ref q3, .int tl, .int (0 : Int32), .int mm, .int mr, .ref q4, .int ati, .int ors, .ref q5, .ref q6])), (q1, .inl (cyI, 246, .inl zs)), (q2, .inl (cyI, 984, .inl zv)), (q3, .inl (cyI, 80, .inl zt)), (q4, .inl (cyI, 5, .inl zp)), (q5, .inl (cyI, 40, .inl zm)), (q6, .inl (cyI, 40, .inl zk))]) hD hS hA [0, 1, 2, 3, 4, 5, 6] rfl) 0 rfl rfl rfl) rfl rfl hl.1 rfl (lv_room (Nat.le_of_ble_eq_true rfl)) dX9_worstSlew_38 ⟨Nat.le_of_ble_eq_true rfl, Nat.le_of_ble_eq_true rfl⟩) hP hD hS hA [0, 1, 2, 3, 4, 5, 6] [] rfl rfl (by decide) (by decide) (fun r_4 u_3 H locs hw hP hD hS => ?_)
    obtain ⟨hu_3, rfl⟩ := hw
    have hE := hE.trans (spLet_eq hu_3)
    have hP : va_P (dC, dI) vwCl [(q0, .inr (9, [.ref q1, .ref q2, .int svc, .ref q3, .int tl, .int (u_3.2), .int mm, .int mr, .ref q4, .int ati, .int ors, .ref q5, .ref q6])), (q1, .inl (cyI, 246, .inl zs)), (q2, .inl (cyI, 984, .inl zv)), (q3, .inl (cyI, 80, .inl zt)), (q4, .inl (cyI, 5, .inl zp)), (q5, .inl (cyI, 40, .inl zm)), (q6, .inl (cyI, 40, .inl zk))] H := hP
    have hD : va_D A [(q0, .inr (9, [.ref q1, .ref q2, .int svc, .ref q3, .int tl, .int (u_3.2), .int mm, .int mr, .ref q4, .int ati, .int ors, .ref q5, .ref q6])), (q1, .inl (cyI, 246, .inl zs)), (q2, .inl (cyI, 984, .inl zv)), (q3, .inl (cyI, 80, .inl zt)), (q4, .inl (cyI, 5, .inl zp)), (q5, .inl (cyI, 40, .inl zm)), (q6, .inl (cyI, 40, .inl zk))] := hD
    exact W.iret (v := (u_3.1)) hx hb hr (fun t h9 hW => ⟨⟨(u_3.1), (((u_3.1), (u_3.2), mm, mr) : Int32 × Int32 × Int32 × Int32), rfl, ⟨hE.symm, rfl⟩, by rw [h9]; exact hP, hD⟩, hS.F h9⟩) hS.2.2 dX9_worstSlew_41
  refine lv_if_eq (tgt := 36) hx hb dX9_worstSlew_13 (by decide) (fun c_2 => ?_) (fun c_2 => ?_)
  ·
    have hE := hE.trans (if_pos c_2)
    exact J36 ls (lv_sub hl [0] rfl) hE
  ·
    have hE := hE.trans (if_neg c_2)
    refine lv_iload_n hx hb dX9_worstSlew_16 rfl (lv_at hl 2 rfl) ?_
    refine lv_iconst (v := 0) hx hb dX9_worstSlew_17 (by decide) ?_
    refine lv_sipush (v := 3599) hx hb dX9_worstSlew_18 (by decide) ?_
    refine vp_callSi (W.runS (As := [.int to, .int (0 : Int32), .int (3599 : Int32)]) (rest := []) ⟨hx, hb, hml, hown, hts⟩ (c_X9_in l dC dI cyI to (0 : Int32) (3599 : Int32)) (va_cwS 3 hts (gBS b_182 b_183 b_5 b_184) rfl rfl rfl (by decide +kernel) ⟨Nat.le_of_ble_eq_true rfl, Nat.le_of_ble_eq_true rfl⟩) (pre_s eM_ok he hS (hP.sub (ws' := []) [] rfl) (hK.sub (tys' := []) [] rfl)) rfl rfl hl.1 rfl (lv_room (Nat.le_of_ble_eq_true rfl)) dX9_worstSlew_21 ⟨Nat.zero_le _, Nat.zero_le _⟩) (fun r_5 hr_5 => ?_)
    obtain ⟨hr_5, hbr_5⟩ := hr_5
    have hE := hE.trans (spLet_eq hr_5)
    refine lv_if_eq (tgt := 36) hx hb dX9_worstSlew_24 (by decide) (fun c_6 => ?_) (fun c_6 => ?_)
    ·
      have hE := hE.trans (if_pos c_6)
      exact J36 ls (lv_sub hl [0] rfl) hE
    ·
      have hE := hE.trans (if_neg c_6)
      refine lv_iload_n hx hb dX9_worstSlew_27 rfl (lv_at hl 3 rfl) ?_
      refine lv_iconst (v := 0) hx hb dX9_worstSlew_28 (by decide) ?_
      refine lv_iconst (v := 1) hx hb dX9_worstSlew_29 (by decide) ?_
      refine vp_callSi (W.runS (As := [.int wh, .int (0 : Int32), .int (1 : Int32)]) (rest := []) ⟨hx, hb, hml, hown, hts⟩ (c_X9_in l dC dI cyI wh (0 : Int32) (1 : Int32)) (va_cwS 3 hts (gBS b_182 b_183 b_5 b_184) rfl rfl rfl (by decide +kernel) ⟨Nat.le_of_ble_eq_true rfl, Nat.le_of_ble_eq_true rfl⟩) (pre_s eM_ok he hS (hP.sub (ws' := []) [] rfl) (hK.sub (tys' := []) [] rfl)) rfl rfl hl.1 rfl (lv_room (Nat.le_of_ble_eq_true rfl)) dX9_worstSlew_30 ⟨Nat.zero_le _, Nat.zero_le _⟩) (fun r_7 hr_7 => ?_)
      obtain ⟨hr_7, hbr_7⟩ := hr_7
      have hE := hE.trans (spLet_eq hr_7)
      refine lv_if_ne (tgt := 42) hx hb dX9_worstSlew_33 (by decide) (fun c_8 => ?_) (fun c_8 => ?_)
      ·
        have hE := hE.trans (if_neg c_8)
        refine lv_iload_n hx hb dX9_worstSlew_42 rfl (lv_at hl 2 rfl) ?_
        refine lv_iload_n hx hb dX9_worstSlew_43 rfl (lv_at hl 1 rfl) ?_
        refine lv_isub hx hb dX9_worstSlew_44 ?_
        refine lv_sipush (v := 3600) hx hb dX9_worstSlew_45 (by decide) ?_
        refine lv_iadd hx hb dX9_worstSlew_48 ?_
        refine lv_sipush (v := 3600) hx hb dX9_worstSlew_49 (by decide) ?_
        refine lv_irem hx hb dX9_worstSlew_52 (by decide) ?_
        refine lv_topi (fun x_9 ex_9 => ?_)
        have hE := hE.trans (spLet_eq ex_9)
        refine lv_istore (lv' := [(4, .int x_9), (0, .ref q0), (1, .int fr), (2, .int to), (3, .int wh)]) hx hb dX9_worstSlew_53 hl (by decide) rfl (fun ls hl => ?_)
        have hway := way_n hr_1 (by assumption) hr_5 (by assumption) ex_9
        have hway2 := hway.2
        refine lv_iconst (v := -1) hx hb dX9_worstSlew_55 (by decide) ?_
        refine lv_istore (lv' := [(5, .int (-1 : Int32)), (4, .int x_9), (0, .ref q0), (1, .int fr), (2, .int to), (3, .int wh)]) hx hb dX9_worstSlew_56 hl (by decide) rfl (fun ls hl => ?_)
        refine lv_iconst (v := -1) hx hb dX9_worstSlew_58 (by decide) ?_
        refine lv_istore (lv' := [(6, .int (-1 : Int32)), (5, .int (-1 : Int32)), (4, .int x_9), (0, .ref q0), (1, .int fr), (2, .int to), (3, .int wh)]) hx hb dX9_worstSlew_59 hl (by decide) rfl (fun ls hl => ?_)
        refine lv_aload_n hx hb dX9_worstSlew_61 rfl (lv_at hl 3 rfl) ?_
        refine mj_v (wr := []) (va_runV (As := []) (rest := []) ⟨hx, hb, hml, hown, hts⟩ (c_X9_measure l dC dI cyI H.size q0 q1 q2 q3 q4 q5 q6 svc tl (0 : Int32) mm mr ati ors zs zv zt zp zm zk hG.arms) (cwV 0 hts (gBV b_677 b_678 b_679 b_5 b_680) rfl rfl rfl (by decide +kernel) ⟨Nat.le_of_ble_eq_true rfl, Nat.le_of_ble_eq_true rfl⟩) (prm_v eM_ok he hS hP hD hK (va_free (wc := [(q0, .inr (9, [.ref q1, .ref q2, .int svc, .ref q3, .int tl, .int (0 : Int32), .int mm, .int mr, .ref q4, .int ati, .int ors, .ref q5, .ref q6])), (q1, .inl (cyI, 246, .inl zs)), (q2, .inl (cyI, 984, .inl zv)), (q3, .inl (cyI, 80, .inl zt)), (q4, .inl (cyI, 5, .inl zp)), (q5, .inl (cyI, 40, .inl zm)), (q6, .inl (cyI, 40, .inl zk))]) hD hS hA [0, 1, 2, 3, 4, 5, 6] rfl) 0 rfl rfl rfl) rfl rfl hl.1 rfl (lv_room (Nat.le_of_ble_eq_true rfl)) dX9_worstSlew_62 ⟨Nat.le_of_ble_eq_true rfl, Nat.le_of_ble_eq_true rfl⟩) hP hD hS hA [0, 1, 2, 3, 4, 5, 6] [] rfl rfl (by decide) (by decide) (fun u_10 H locs hw hP hD hS => ?_)
        have hu_10 := hw
        have hE := hE.trans (spLet_eq hu_10)
        have hP : va_P (dC, dI) vwCl [(q0, .inr (9, [.ref q1, .ref q2, .int svc, .ref q3, .int tl, .int (0 : Int32), .int (u_10.1), .int (u_10.2), .ref q4, .int ati, .int ors, .ref q5, .ref q6])), (q1, .inl (cyI, 246, .inl zs)), (q2, .inl (cyI, 984, .inl zv)), (q3, .inl (cyI, 80, .inl zt)), (q4, .inl (cyI, 5, .inl zp)), (q5, .inl (cyI, 40, .inl zm)), (q6, .inl (cyI, 40, .inl zk))] H := hP
        have hD : va_D A [(q0, .inr (9, [.ref q1, .ref q2, .int svc, .ref q3, .int tl, .int (0 : Int32), .int (u_10.1), .int (u_10.2), .ref q4, .int ati, .int ors, .ref q5, .ref q6])), (q1, .inl (cyI, 246, .inl zs)), (q2, .inl (cyI, 984, .inl zv)), (q3, .inl (cyI, 80, .inl zt)), (q4, .inl (cyI, 5, .inl zp)), (q5, .inl (cyI, 40, .inl zm)), (q6, .inl (cyI, 40, .inl zk))] := hD
        refine lv_iconst (v := 0) hx hb dX9_worstSlew_65 (by decide) ?_
        refine lv_istore (lv' := [(7, .int (0 : Int32)), (6, .int (-1 : Int32)), (5, .int (-1 : Int32)), (4, .int x_9), (0, .ref q0), (1, .int fr), (2, .int to), (3, .int wh)]) hx hb dX9_worstSlew_66 hl (by decide) rfl (fun ls hl => ?_)
        have L68 : ∀ (n68 : Nat) (v5_68 : Int32) (v6_68 : Int32) (k7_68 : Nat) (hi : k7_68 ≤ 3649 ∧ 3649 < k7_68 + 50 * n68) (ls : Array Slot) (hl : lv_has ls 10 [(0, .ref q0), (1, .int fr), (3, .int wh), (4, .int x_9), (5, .int v5_68), (6, .int v6_68), (7, .int (nI k7_68))]) (hE : (m_worstSlew mm mr zs fr to wh) = spIter (fun _ _ _ => default) (m_worstSlew_b68 zs fr wh x_9 u_10) n68 v5_68 v6_68 k7_68), W p l e (headSpec wqX9_worstSlew ({ frames := 7, cells := 0, slots := 0, locals := 149 } : Room)).room s m ([.ref q0, .int fr, .int to, .int wh] : List Value).toArray below meth c H locs 0 0 (MQ below (va_Qi (fun (r : Int32) (u : Int32 × Int32 × Int32 × Int32) => u = (m_worstSlew mm mr zs fr to wh) ∧ r = u.1) (fun (u : Int32 × Int32 × Int32 × Int32) t => va_P (dC, dI) vwCl [(q0, .inr (9, [.ref q1, .ref q2, .int svc, .ref q3, .int tl, .int (u.2.1), .int (u.2.2.1), .int (u.2.2.2), .ref q4, .int ati, .int ors, .ref q5, .ref q6])), (q1, .inl (cyI, 246, .inl zs)), (q2, .inl (cyI, 984, .inl zv)), (q3, .inl (cyI, 80, .inl zt)), (q4, .inl (cyI, 5, .inl zp)), (q5, .inl (cyI, 40, .inl zm)), (q6, .inl (cyI, 40, .inl zk))] t.heap ∧ va_D A [(q0, .inr (9, [.ref q1, .ref q2, .int svc, .ref q3, .int tl, .int (u.2.1), .int (u.2.2.1), .int (u.2.2.2), .ref q4, .int ati, .int ors, .ref q5, .ref q6])), (q1, .inl (cyI, 246, .inl zs)), (q2, .inl (cyI, 984, .inl zv)), (q3, .inl (cyI, 80, .inl zt)), (q4, .inl (cyI, 5, .inl zp)), (q5, .inl (cyI, 40, .inl zm)), (q6, .inl (cyI, 40, .inl zk))]) A) ([.ref q0, .int fr, .int to, .int wh] : List Value).toArray s 0 0 A) (F0 m 68 ls []) := by
          intro n68
          induction n68 with
          | zero =>
            intro v5_68 v6_68 k7_68 hi ls hl hE
            exact absurd hi (by omega)
          | succ n68 ih68 =>
            intro v5_68 v6_68 k7_68 hi ls hl hE
            have hE : (m_worstSlew mm mr zs fr to wh) = m_worstSlew_b68 zs fr wh x_9 u_10 (spIter (fun _ _ _ => default) (m_worstSlew_b68 zs fr wh x_9 u_10) n68) v5_68 v6_68 k7_68 := hE
            refine lv_iload hx hb dX9_worstSlew_68 (lv_at hl 6 rfl) ?_
            refine lv_iload hx hb dX9_worstSlew_70 (lv_at hl 3 rfl) ?_
            refine lv_icmp_gt (tgt := 124) hx hb dX9_worstSlew_72 (by decide) (fun c_11 => ?_) (fun c_11 => ?_)
            ·
              have c_11 : (x_9).toNatClampNeg < k7_68 := by
                have h1 : ((nI k7_68)) = nI k7_68 := rfl
                have h2 : (x_9) = nI ((x_9).toNatClampNeg) := hway.1
                have h3 : (nI ((x_9).toNatClampNeg) < nI k7_68) := by first | exact c_11 | (rw [← h1, ← h2]; exact c_11)
                exact (nI_ltI (by omega) (by omega)).mp h3
              have hE := hE.trans (if_pos c_11)
              refine lv_iload_n hx hb dX9_worstSlew_124 rfl (lv_at hl 2 rfl) ?_
              refine lv_if_ne (tgt := 133) hx hb dX9_worstSlew_125 (by decide) (fun c_12 => ?_) (fun c_12 => ?_)
              ·
                have hE := hE.trans (if_neg c_12)
                refine lv_iload hx hb dX9_worstSlew_133 (lv_at hl 5 rfl) ?_
                exact W.iret (v := v6_68) hx hb hr (fun t h9 hW => ⟨⟨v6_68, ((v6_68, (0 : Int32), (u_10.1), (u_10.2)) : Int32 × Int32 × Int32 × Int32), rfl, ⟨hE.symm, rfl⟩, by rw [h9]; exact hP, hD⟩, hS.F h9⟩) hS.2.2 dX9_worstSlew_135
              ·
                have hE := hE.trans (if_pos c_12)
                refine lv_iload hx hb dX9_worstSlew_128 (lv_at hl 4 rfl) ?_
                refine lv_goto (tgt := 135) hx hb dX9_worstSlew_130 (by decide) ?_
                exact W.iret (v := v5_68) hx hb hr (fun t h9 hW => ⟨⟨v5_68, ((v5_68, (0 : Int32), (u_10.1), (u_10.2)) : Int32 × Int32 × Int32 × Int32), rfl, ⟨hE.symm, rfl⟩, by rw [h9]; exact hP, hD⟩, hS.F h9⟩) hS.2.2 dX9_worstSlew_135
            ·
              have c_11 : ¬ (x_9).toNatClampNeg < k7_68 := by
                have h1 : ((nI k7_68)) = nI k7_68 := rfl
                have h2 : (x_9) = nI ((x_9).toNatClampNeg) := hway.1
                have h3 : ¬ (nI ((x_9).toNatClampNeg) < nI k7_68) := by first | exact c_11 | (rw [← h1, ← h2]; exact c_11)
                exact fun h => h3 ((nI_ltI (by omega) (by omega)).mpr h)
              have hE := hE.trans (if_neg c_11)
              refine lv_iload_n hx hb dX9_worstSlew_75 rfl (lv_at hl 1 rfl) ?_
              refine lv_iload hx hb dX9_worstSlew_76 (lv_at hl 6 rfl) ?_
              refine lv_iadd hx hb dX9_worstSlew_78 ?_
              refine lv_sipush (v := 3600) hx hb dX9_worstSlew_79 (by decide) ?_
              refine lv_irem hx hb dX9_worstSlew_82 (by decide) ?_
              refine lv_topi (fun x_13 ex_13 => ?_)
              have hE := hE.trans (spLet_eq ex_13)
              refine lv_istore (lv' := [(8, .int x_13), (0, .ref q0), (1, .int fr), (3, .int wh), (4, .int x_9), (5, .int v5_68), (6, .int v6_68), (7, .int (nI k7_68))]) hx hb dX9_worstSlew_83 hl (by decide) rfl (fun ls hl => ?_)
              refine lv_aload_n hx hb dX9_worstSlew_85 rfl (lv_at hl 1 rfl) ?_
              refine lv_iload hx hb dX9_worstSlew_86 (lv_at hl 0 rfl) ?_
              refine vp_callSi (W.runV (As := [.int x_13]) (rest := []) ⟨hx, hb, hml, hown, hts⟩ (c_X9_utilizationAt l dC dI cyI q0 q1 q2 q3 q4 q5 q6 svc tl (0 : Int32) (u_10.1) (u_10.2) ati ors zs zv zt zp zm zk x_13 hG) (cwV 1 hts (gBV b_701 b_702 b_703 b_5 b_704) rfl rfl rfl (by decide +kernel) ⟨Nat.le_of_ble_eq_true rfl, Nat.le_of_ble_eq_true rfl⟩) (pre_v eM_ok he hS hP hK 0 rfl rfl rfl) rfl rfl hl.1 rfl (lv_room (Nat.le_of_ble_eq_true rfl)) dX9_worstSlew_88 ⟨Nat.zero_le _, Nat.zero_le _⟩) (fun r_14 hr_14 => ?_)
              have hE := hE.trans (spLet_eq hr_14)
              refine lv_istore (lv' := [(9, .int r_14), (8, .int x_13), (0, .ref q0), (1, .int fr), (3, .int wh), (4, .int x_9), (5, .int v5_68), (6, .int v6_68), (7, .int (nI k7_68))]) hx hb dX9_worstSlew_91 hl (by decide) rfl (fun ls hl => ?_)
              refine lv_iload hx hb dX9_worstSlew_93 (lv_at hl 0 rfl) ?_
              refine lv_iload hx hb dX9_worstSlew_95 (lv_at hl 6 rfl) ?_
              have J107 : ∀ (t0_107 : Int32) (ls : Array Slot) (hl : lv_has ls 10 [(0, .ref q0), (1, .int fr), (3, .int wh), (4, .int x_9), (5, .int v5_68), (7, .int (nI k7_68)), (9, .int r_14)]) (hE : (m_worstSlew mm mr zs fr to wh) = m_worstSlew_j107 v5_68 k7_68 (spIter (fun _ _ _ => default) (m_worstSlew_b68 zs fr wh x_9 u_10) n68) r_14 t0_107), W p l e (headSpec wqX9_worstSlew ({ frames := 7, cells := 0, slots := 0, locals := 149 } : Room)).room s m ([.ref q0, .int fr, .int to, .int wh] : List Value).toArray below meth c H locs 0 0 (MQ below (va_Qi (fun (r : Int32) (u : Int32 × Int32 × Int32 × Int32) => u = (m_worstSlew mm mr zs fr to wh) ∧ r = u.1) (fun (u : Int32 × Int32 × Int32 × Int32) t => va_P (dC, dI) vwCl [(q0, .inr (9, [.ref q1, .ref q2, .int svc, .ref q3, .int tl, .int (u.2.1), .int (u.2.2.1), .int (u.2.2.2), .ref q4, .int ati, .int ors, .ref q5, .ref q6])), (q1, .inl (cyI, 246, .inl zs)), (q2, .inl (cyI, 984, .inl zv)), (q3, .inl (cyI, 80, .inl zt)), (q4, .inl (cyI, 5, .inl zp)), (q5, .inl (cyI, 40, .inl zm)), (q6, .inl (cyI, 40, .inl zk))] t.heap ∧ va_D A [(q0, .inr (9, [.ref q1, .ref q2, .int svc, .ref q3, .int tl, .int (u.2.1), .int (u.2.2.1), .int (u.2.2.2), .ref q4, .int ati, .int ors, .ref q5, .ref q6])), (q1, .inl (cyI, 246, .inl zs)), (q2, .inl (cyI, 984, .inl zv)), (q3, .inl (cyI, 80, .inl zt)), (q4, .inl (cyI, 5, .inl zp)), (q5, .inl (cyI, 40, .inl zm)), (q6, .inl (cyI, 40, .inl zk))]) A) ([.ref q0, .int fr, .int to, .int wh] : List Value).toArray s 0 0 A) (F0 m 107 ls [.int t0_107]) := by
                intro t0_107 ls hl hE
                refine lv_istore (lv' := [(6, .int t0_107), (0, .ref q0), (1, .int fr), (3, .int wh), (4, .int x_9), (5, .int v5_68), (7, .int (nI k7_68)), (9, .int r_14)]) hx hb dX9_worstSlew_107 hl (by decide) rfl (fun ls hl => ?_)
                refine lv_iload hx hb dX9_worstSlew_109 (lv_at hl 5 rfl) ?_
                refine lv_iload hx hb dX9_worstSlew_111 (lv_at hl 7 rfl) ?_
                refine vp_callSi (W.runS (As := [.int v5_68, .int r_14]) (rest := []) ⟨hx, hb, hml, hown, hts⟩ (c_X9_greater l dC dI cyI v5_68 r_14) (va_cwS 2 hts (gBS b_393 b_394 b_5 b_395) rfl rfl rfl (by decide +kernel) ⟨Nat.le_of_ble_eq_true rfl, Nat.le_of_ble_eq_true rfl⟩) (pre_s eM_ok he hS (hP.sub (ws' := []) [] rfl) (hK.sub (tys' := []) [] rfl)) rfl rfl hl.1 rfl (lv_room (Nat.le_of_ble_eq_true rfl)) dX9_worstSlew_113 ⟨Nat.zero_le _, Nat.zero_le _⟩) (fun r_16 hr_16 => ?_)
                have hE := hE.trans (spLet_eq hr_16)
                refine lv_istore (lv' := [(5, .int r_16), (6, .int t0_107), (0, .ref q0), (1, .int fr), (3, .int wh), (4, .int x_9), (7, .int (nI k7_68)), (9, .int r_14)]) hx hb dX9_worstSlew_116 hl (by decide) rfl (fun ls hl => ?_)
                refine lv_iinc (v := (nI (k7_68 + 50))) (lv' := [(7, .int (nI (k7_68 + 50))), (5, .int r_16), (6, .int t0_107), (0, .ref q0), (1, .int fr), (3, .int wh), (4, .int x_9), (9, .int r_14)]) hx hb dX9_worstSlew_118 hl (k := 6) rfl (show _ from (congrArg (fun z => z + Int32.ofInt 50) (rfl)).trans (ninc _ 50)) (by decide) rfl (fun ls hl => ?_)
                refine lv_goto (tgt := 68) hx hb dX9_worstSlew_121 (by decide) ?_
                exact ih68 r_16 t0_107 (k7_68 + 50) (by omega) ls (lv_sub hl [3, 4, 5, 6, 1, 2, 0] rfl) hE
              refine lv_icmp_le (tgt := 105) hx hb dX9_worstSlew_97 (by decide) (fun c_15 => ?_) (fun c_15 => ?_)
              ·
                have hE := hE.trans (if_pos c_15)
                refine lv_iload hx hb dX9_worstSlew_105 (lv_at hl 7 rfl) ?_
                exact J107 v6_68 ls (lv_sub hl [2, 3, 4, 5, 6, 8, 0] rfl) hE
              ·
                have hE := hE.trans (if_neg c_15)
                refine lv_iload hx hb dX9_worstSlew_100 (lv_at hl 1 rfl) ?_
                refine lv_goto (tgt := 107) hx hb dX9_worstSlew_102 (by decide) ?_
                exact J107 x_13 ls (lv_sub hl [2, 3, 4, 5, 6, 8, 0] rfl) hE
        exact L68 74 (-1 : Int32) (-1 : Int32) 0 (by omega) ls (lv_sub hl [4, 5, 7, 3, 2, 1, 0] rfl) hE
      ·
        have hE := hE.trans (if_pos c_8)
        exact J36 ls (lv_sub hl [0] rfl) hE
def m_events (zs : Nat → Int32) : Int32 × Int32 :=
  ((zs 143), (0 : Int32))
set_option maxHeartbeats 1000000 in
set_option maxRecDepth 100000 in
theorem c_X9_events (l : Launch) (dC : Nat → ClassId) (dI : Nat → Nat → Nat) (cyI : ClassId) (sz : Nat) (q0 : Nat) (q1 : Nat) (q2 : Nat) (q3 : Nat) (q4 : Nat) (q5 : Nat) (q6 : Nat) (svc : Int32) (tl : Int32) (cde : Int32) (mm : Int32) (mr : Int32) (ati : Int32) (ors : Int32) (zs : Nat → Int32) (zv : Nat → Int32) (zt : Nat → Int32) (zp : Nat → Int32) (zm : Nat → Int32) (zk : Nat → Int32) : Met l yX9_events wqX9_events ({ frames := 0, cells := 0, slots := 0, locals := 0 } : Room) (va_Pc [.ref q0] (pC (dC, dI) [(q0, .inr (9, [.ref q1, .ref q2, .int svc, .ref q3, .int tl, .int cde, .int mm, .int mr, .ref q4, .int ati, .int ors, .ref q5, .ref q6])), (q1, .inl (cyI, 246, .inl zs)), (q2, .inl (cyI, 984, .inl zv)), (q3, .inl (cyI, 80, .inl zt)), (q4, .inl (cyI, 5, .inl zp)), (q5, .inl (cyI, 40, .inl zm)), (q6, .inl (cyI, 40, .inl zk))] [(cyI, .int)] eM sz)) (va_Qi (fun (r : Int32) (u : Int32 × Int32) => u = (m_events zs) ∧ r = u.1) (fun (u : Int32 × Int32) t => va_P (dC, dI) vwCl [(q0, .inr (9, [.ref q1, .ref q2, .int svc, .ref q3, .int tl, .int (u.2), .int mm, .int mr, .ref q4, .int ati, .int ors, .ref q5, .ref q6])), (q1, .inl (cyI, 246, .inl zs)), (q2, .inl (cyI, 984, .inl zv)), (q3, .inl (cyI, 80, .inl zt)), (q4, .inl (cyI, 5, .inl zp)), (q5, .inl (cyI, 40, .inl zm)), (q6, .inl (cyI, 40, .inl zk))] t.heap ∧ va_D (va_A [(q0, .inr (9, [.ref q1, .ref q2, .int svc, .ref q3, .int tl, .int cde, .int mm, .int mr, .ref q4, .int ati, .int ors, .ref q5, .ref q6])), (q1, .inl (cyI, 246, .inl zs)), (q2, .inl (cyI, 984, .inl zv)), (q3, .inl (cyI, 80, .inl zt)), (q4, .inl (cyI, 5, .inl zp)), (q5, .inl (cyI, 40, .inl zm)), (q6, .inl (cyI, 40, .inl zk))] sz) [(q0, .inr (9, [.ref q1, .ref q2, .int svc, .ref q3, .int tl, .int (u.2), .int mm, .int mr, .ref q4, .int ati, .int ors, .ref q5, .ref q6])), (q1, .inl (cyI, 246, .inl zs)), (q2, .inl (cyI, 984, .inl zv)), (q3, .inl (cyI, 80, .inl zt)), (q4, .inl (cyI, 5, .inl zp)), (q5, .inl (cyI, 40, .inl zm)), (q6, .inl (cyI, 40, .inl zk))]) (va_A [(q0, .inr (9, [.ref q1, .ref q2, .int svc, .ref q3, .int tl, .int cde, .int mm, .int mr, .ref q4, .int ati, .int ors, .ref q5, .ref q6])), (q1, .inl (cyI, 246, .inl zs)), (q2, .inl (cyI, 984, .inl zv)), (q3, .inl (cyI, 80, .inl zt)), (q4, .inl (cyI, 5, .inl zp)), (q5, .inl (cyI, 40, .inl zm)), (q6, .inl (cyI, 40, .inl zk))] sz)) 0 0 (va_A [(q0, .inr (9, [.ref q1, .ref q2, .int svc, .ref q3, .int tl, .int cde, .int mm, .int mr, .ref q4, .int ati, .int ors, .ref q5, .ref q6])), (q1, .inl (cyI, 246, .inl zs)), (q2, .inl (cyI, 984, .inl zv)), (q3, .inl (cyI, 80, .inl zt)), (q4, .inl (cyI, 5, .inl zp)), (q5, .inl (cyI, 40, .inl zm)), (q6, .inl (cyI, 40, .inl zk))] sz) := by
  refine Met.ofW (cc := cX9_events) (maxL := 1) (ret := (some .int)) (by decide) rfl ?_
  intro p e s m args below meth c s₁ B hml hv
  obtain ⟨rfl, hsz, hP, hK, hD0, he⟩ := hv
  have hx := B.exec
  have hb := B.bytes
  have hr := B.returns
  have hts := atoms_spec (ws := wqX9_events) B.pre
  have hown : s.vm.findClass RX9 = some m.cls := findClass_of_methodNamed B.named
  have hlocks := B.notSynchronized
  have w_0 := hts (Cond.fieldLink RX9 28 "CraneLimiterModel" "code" "I") (List.mem_cons_of_mem _ b_181)
  have w_1 := hts (Cond.fieldLink RX9 7 "CraneLimiterModel" "s" "[I") (List.mem_cons_of_mem _ b_93)
  have i_X9 : ∀ w ∈ u_ws RX9 TX9 13, w ∈ wqX9_events := fun w h => List.mem_cons_of_mem _ (bX9 w h)
  subst hsz
  have hD := hD0.self (sz := s.heap.size)
  generalize hAe : va_A [(q0, .inr (9, [.ref q1, .ref q2, .int svc, .ref q3, .int tl, .int cde, .int mm, .int mr, .ref q4, .int ati, .int ors, .ref q5, .ref q6])), (q1, .inl (cyI, 246, .inl zs)), (q2, .inl (cyI, 984, .inl zv)), (q3, .inl (cyI, 80, .inl zt)), (q4, .inl (cyI, 5, .inl zp)), (q5, .inl (cyI, 40, .inl zm)), (q6, .inl (cyI, 40, .inl zk))] s.heap.size = A at hD he ⊢
  have hA : ∀ q : Nat, s.heap.size ≤ q → A q := fun q h => by rw [← hAe]; exact Or.inr h
  have hS : va_S A s.heap s.heap [] := va_S.rf
  have hP : va_P (dC, dI) vwCl [(q0, .inr (9, [.ref q1, .ref q2, .int svc, .ref q3, .int tl, .int cde, .int mm, .int mr, .ref q4, .int ati, .int ors, .ref q5, .ref q6])), (q1, .inl (cyI, 246, .inl zs)), (q2, .inl (cyI, 984, .inl zv)), (q3, .inl (cyI, 80, .inl zt)), (q4, .inl (cyI, 5, .inl zp)), (q5, .inl (cyI, 40, .inl zm)), (q6, .inl (cyI, 40, .inl zk))] s.heap := hP
  have hl := lv_entry ([.ref q0] : List Value) (n := 1) (Nat.le_of_ble_eq_true rfl)
  rw [lg_entry_eq]
  generalize (lg_sl ([.ref q0] : List Value) ++ List.replicate (1 - (lg_sl ([.ref q0] : List Value)).length) Slot.unset).toArray = ls at hl ⊢
  have hl : lv_has ls 1 [(0, .ref q0)] := hl
  have hE : m_events zs = m_events zs := rfl
  refine lv_aload_n hx hb dX9_events_0 rfl (lv_at hl 0 rfl) ?_
  refine lv_iconst (v := 0) hx hb dX9_events_1 (by decide) ?_
  refine va_put (D := (dC, dI)) (ci := 9) (v := .int (0 : Int32)) (ty := .int) (C := RX9) (T := TX9) (N := 13) hx hb hts i_X9 tyX9 tyX9_ok nmX9 hown hK hP hD hS 0 rfl rfl 5 (by decide) w_0 (fun _ h9 => h9) rfl (by decide +kernel) (rfl) (rfl) (Nat.le_of_ble_eq_true rfl) dX9_events_2 (fun H locs hP hD hS => ?_)
  have hP : va_P (dC, dI) vwCl [(q0, .inr (9, [.ref q1, .ref q2, .int svc, .ref q3, .int tl, .int (0 : Int32), .int mm, .int mr, .ref q4, .int ati, .int ors, .ref q5, .ref q6])), (q1, .inl (cyI, 246, .inl zs)), (q2, .inl (cyI, 984, .inl zv)), (q3, .inl (cyI, 80, .inl zt)), (q4, .inl (cyI, 5, .inl zp)), (q5, .inl (cyI, 40, .inl zm)), (q6, .inl (cyI, 40, .inl zk))] H := hP
  have hD : va_D A [(q0, .inr (9, [.ref q1, .ref q2, .int svc, .ref q3, .int tl, .int (0 : Int32), .int mm, .int mr, .ref q4, .int ati, .int ors, .ref q5, .ref q6])), (q1, .inl (cyI, 246, .inl zs)), (q2, .inl (cyI, 984, .inl zv)), (q3, .inl (cyI, 80, .inl zt)), (q4, .inl (cyI, 5, .inl zp)), (q5, .inl (cyI, 40, .inl zm)), (q6, .inl (cyI, 40, .inl zk))] := hD
  refine lv_aload_n hx hb dX9_events_5 rfl (lv_at hl 0 rfl) ?_
  refine va_get (D := (dC, dI)) (ci := 9) (v := .ref q1) (C := RX9) (T := TX9) (N := 13) hx hb hts i_X9 hown hK hP 0 rfl rfl 0 (by decide) w_1 (fun _ h9 => h9) rfl dX9_events_6 ?_
  refine lv_sipush (v := 143) hx hb dX9_events_9 (by decide) ?_
  refine ra_ld hx hb hK hP 1 0 rfl rfl (j := 143) (rfl : (143 : Int32) = nI 143) (by omega) (by omega) dX9_events_12 ?_
  exact W.iret (v := (zs 143)) hx hb hr (fun t h9 hW => ⟨⟨(zs 143), (((zs 143), (0 : Int32)) : Int32 × Int32), rfl, ⟨hE.symm, rfl⟩, by rw [h9]; exact hP, hD⟩, hS.F h9⟩) hS.2.2 dX9_events_13
def m_event (zs : Nat → Int32) (ix : Int32) (wh : Int32) : Int32 × Int32 :=
  spLet (m_in ix (0 : Int32) ((zs 143) - (1 : Int32))) (fun r_1 => if r_1 = 0 then (spLet (m_fails (1 : Int32)) (fun u_8 => ((u_8.1), (u_8.2)))) else (spLet (m_in wh (0 : Int32) (2 : Int32)) (fun r_3 => if r_3 = 0 then (spLet (m_fails (2 : Int32)) (fun u_5 => ((u_5.1), (u_5.2)))) else (((zs ((144 + (3 * ix.toNatClampNeg)) + wh.toNatClampNeg)), (0 : Int32))))))
set_option maxHeartbeats 1000000 in
set_option maxRecDepth 100000 in
theorem c_X9_event (l : Launch) (dC : Nat → ClassId) (dI : Nat → Nat → Nat) (cyI : ClassId) (sz : Nat) (q0 : Nat) (q1 : Nat) (q2 : Nat) (q3 : Nat) (q4 : Nat) (q5 : Nat) (q6 : Nat) (svc : Int32) (tl : Int32) (cde : Int32) (mm : Int32) (mr : Int32) (ati : Int32) (ors : Int32) (zs : Nat → Int32) (zv : Nat → Int32) (zt : Nat → Int32) (zp : Nat → Int32) (zm : Nat → Int32) (zk : Nat → Int32) (ix : Int32) (wh : Int32) (hG : mG zs) : Met l yX9_event wqX9_event ({ frames := 1, cells := 0, slots := 0, locals := 22 } : Room) (va_Pc [.ref q0, .int ix, .int wh] (pC (dC, dI) [(q0, .inr (9, [.ref q1, .ref q2, .int svc, .ref q3, .int tl, .int cde, .int mm, .int mr, .ref q4, .int ati, .int ors, .ref q5, .ref q6])), (q1, .inl (cyI, 246, .inl zs)), (q2, .inl (cyI, 984, .inl zv)), (q3, .inl (cyI, 80, .inl zt)), (q4, .inl (cyI, 5, .inl zp)), (q5, .inl (cyI, 40, .inl zm)), (q6, .inl (cyI, 40, .inl zk))] [(cyI, .int)] eM sz)) (va_Qi (fun (r : Int32) (u : Int32 × Int32) => u = (m_event zs ix wh) ∧ r = u.1) (fun (u : Int32 × Int32) t => va_P (dC, dI) vwCl [(q0, .inr (9, [.ref q1, .ref q2, .int svc, .ref q3, .int tl, .int (u.2), .int mm, .int mr, .ref q4, .int ati, .int ors, .ref q5, .ref q6])), (q1, .inl (cyI, 246, .inl zs)), (q2, .inl (cyI, 984, .inl zv)), (q3, .inl (cyI, 80, .inl zt)), (q4, .inl (cyI, 5, .inl zp)), (q5, .inl (cyI, 40, .inl zm)), (q6, .inl (cyI, 40, .inl zk))] t.heap ∧ va_D (va_A [(q0, .inr (9, [.ref q1, .ref q2, .int svc, .ref q3, .int tl, .int cde, .int mm, .int mr, .ref q4, .int ati, .int ors, .ref q5, .ref q6])), (q1, .inl (cyI, 246, .inl zs)), (q2, .inl (cyI, 984, .inl zv)), (q3, .inl (cyI, 80, .inl zt)), (q4, .inl (cyI, 5, .inl zp)), (q5, .inl (cyI, 40, .inl zm)), (q6, .inl (cyI, 40, .inl zk))] sz) [(q0, .inr (9, [.ref q1, .ref q2, .int svc, .ref q3, .int tl, .int (u.2), .int mm, .int mr, .ref q4, .int ati, .int ors, .ref q5, .ref q6])), (q1, .inl (cyI, 246, .inl zs)), (q2, .inl (cyI, 984, .inl zv)), (q3, .inl (cyI, 80, .inl zt)), (q4, .inl (cyI, 5, .inl zp)), (q5, .inl (cyI, 40, .inl zm)), (q6, .inl (cyI, 40, .inl zk))]) (va_A [(q0, .inr (9, [.ref q1, .ref q2, .int svc, .ref q3, .int tl, .int cde, .int mm, .int mr, .ref q4, .int ati, .int ors, .ref q5, .ref q6])), (q1, .inl (cyI, 246, .inl zs)), (q2, .inl (cyI, 984, .inl zv)), (q3, .inl (cyI, 80, .inl zt)), (q4, .inl (cyI, 5, .inl zp)), (q5, .inl (cyI, 40, .inl zm)), (q6, .inl (cyI, 40, .inl zk))] sz)) 0 0 (va_A [(q0, .inr (9, [.ref q1, .ref q2, .int svc, .ref q3, .int tl, .int cde, .int mm, .int mr, .ref q4, .int ati, .int ors, .ref q5, .ref q6])), (q1, .inl (cyI, 246, .inl zs)), (q2, .inl (cyI, 984, .inl zv)), (q3, .inl (cyI, 80, .inl zt)), (q4, .inl (cyI, 5, .inl zp)), (q5, .inl (cyI, 40, .inl zm)), (q6, .inl (cyI, 40, .inl zk))] sz) := by
  refine Met.ofW (cc := cX9_event) (maxL := 3) (ret := (some .int)) (by decide) rfl ?_
  intro p e s m args below meth c s₁ B hml hv
  obtain ⟨rfl, hsz, hP, hK, hD0, he⟩ := hv
  have hx := B.exec
  have hb := B.bytes
  have hr := B.returns
  have hts := atoms_spec (ws := wqX9_event) B.pre
  have hown : s.vm.findClass RX9 = some m.cls := findClass_of_methodNamed B.named
  have hlocks := B.notSynchronized
  have w_0 := hts (Cond.fieldLink RX9 28 "CraneLimiterModel" "code" "I") (List.mem_cons_of_mem _ b_181)
  have w_1 := hts (Cond.fieldLink RX9 7 "CraneLimiterModel" "s" "[I") (List.mem_cons_of_mem _ b_93)
  have i_X9 : ∀ w ∈ u_ws RX9 TX9 13, w ∈ wqX9_event := fun w h => List.mem_cons_of_mem _ (bX9 w h)
  subst hsz
  have hD := hD0.self (sz := s.heap.size)
  generalize hAe : va_A [(q0, .inr (9, [.ref q1, .ref q2, .int svc, .ref q3, .int tl, .int cde, .int mm, .int mr, .ref q4, .int ati, .int ors, .ref q5, .ref q6])), (q1, .inl (cyI, 246, .inl zs)), (q2, .inl (cyI, 984, .inl zv)), (q3, .inl (cyI, 80, .inl zt)), (q4, .inl (cyI, 5, .inl zp)), (q5, .inl (cyI, 40, .inl zm)), (q6, .inl (cyI, 40, .inl zk))] s.heap.size = A at hD he ⊢
  have hA : ∀ q : Nat, s.heap.size ≤ q → A q := fun q h => by rw [← hAe]; exact Or.inr h
  have hS : va_S A s.heap s.heap [] := va_S.rf
  have hP : va_P (dC, dI) vwCl [(q0, .inr (9, [.ref q1, .ref q2, .int svc, .ref q3, .int tl, .int cde, .int mm, .int mr, .ref q4, .int ati, .int ors, .ref q5, .ref q6])), (q1, .inl (cyI, 246, .inl zs)), (q2, .inl (cyI, 984, .inl zv)), (q3, .inl (cyI, 80, .inl zt)), (q4, .inl (cyI, 5, .inl zp)), (q5, .inl (cyI, 40, .inl zm)), (q6, .inl (cyI, 40, .inl zk))] s.heap := hP
  have hl := lv_entry ([.ref q0, .int ix, .int wh] : List Value) (n := 3) (Nat.le_of_ble_eq_true rfl)
  rw [lg_entry_eq]
  generalize (lg_sl ([.ref q0, .int ix, .int wh] : List Value) ++ List.replicate (3 - (lg_sl ([.ref q0, .int ix, .int wh] : List Value)).length) Slot.unset).toArray = ls at hl ⊢
  have hl : lv_has ls 3 [(0, .ref q0), (1, .int ix), (2, .int wh)] := hl
  have hE : m_event zs ix wh = m_event zs ix wh := rfl
  refine lv_aload_n hx hb dX9_event_0 rfl (lv_at hl 0 rfl) ?_
  refine lv_iconst (v := 0) hx hb dX9_event_1 (by decide) ?_
  refine va_put (D := (dC, dI)) (ci := 9) (v := .int (0 : Int32)) (ty := .int) (C := RX9) (T := TX9) (N := 13) hx hb hts i_X9 tyX9 tyX9_ok nmX9 hown hK hP hD hS 0 rfl rfl 5 (by decide) w_0 (fun _ h9 => h9) rfl (by decide +kernel) (rfl) (rfl) (Nat.le_of_ble_eq_true rfl) dX9_event_2 (fun H locs hP hD hS => ?_)
  have hP : va_P (dC, dI) vwCl [(q0, .inr (9, [.ref q1, .ref q2, .int svc, .ref q3, .int tl, .int (0 : Int32), .int mm, .int mr, .ref q4, .int ati, .int ors, .ref q5, .ref q6])), (q1, .inl (cyI, 246, .inl zs)), (q2, .inl (cyI, 984, .inl zv)), (q3, .inl (cyI, 80, .inl zt)), (q4, .inl (cyI, 5, .inl zp)), (q5, .inl (cyI, 40, .inl zm)), (q6, .inl (cyI, 40, .inl zk))] H := hP
  have hD : va_D A [(q0, .inr (9, [.ref q1, .ref q2, .int svc, .ref q3, .int tl, .int (0 : Int32), .int mm, .int mr, .ref q4, .int ati, .int ors, .ref q5, .ref q6])), (q1, .inl (cyI, 246, .inl zs)), (q2, .inl (cyI, 984, .inl zv)), (q3, .inl (cyI, 80, .inl zt)), (q4, .inl (cyI, 5, .inl zp)), (q5, .inl (cyI, 40, .inl zm)), (q6, .inl (cyI, 40, .inl zk))] := hD
  refine lv_iload_n hx hb dX9_event_5 rfl (lv_at hl 1 rfl) ?_
  refine lv_iconst (v := 0) hx hb dX9_event_6 (by decide) ?_
  refine lv_aload_n hx hb dX9_event_7 rfl (lv_at hl 0 rfl) ?_
  refine va_get (D := (dC, dI)) (ci := 9) (v := .ref q1) (C := RX9) (T := TX9) (N := 13) hx hb hts i_X9 hown hK hP 0 rfl rfl 0 (by decide) w_1 (fun _ h9 => h9) rfl dX9_event_8 ?_
  refine lv_sipush (v := 143) hx hb dX9_event_11 (by decide) ?_
  refine ra_ld hx hb hK hP 1 0 rfl rfl (j := 143) (rfl : (143 : Int32) = nI 143) (by omega) (by omega) dX9_event_14 ?_
  refine lv_iconst (v := 1) hx hb dX9_event_15 (by decide) ?_
  refine lv_isub hx hb dX9_event_16 ?_
  refine vp_callSi (W.runS (As := [.int ix, .int (0 : Int32), .int ((zs 143) - (1 : Int32))]) (rest := []) ⟨hx, hb, hml, hown, hts⟩ (c_X9_in l dC dI cyI ix (0 : Int32) ((zs 143) - (1 : Int32))) (va_cwS 3 hts (gBS b_182 b_183 b_5 b_184) rfl rfl rfl (by decide +kernel) ⟨Nat.le_of_ble_eq_true rfl, Nat.le_of_ble_eq_true rfl⟩) (pre_s eM_ok he hS (hP.sub (ws' := []) [] rfl) (hK.sub (tys' := []) [] rfl)) rfl rfl hl.1 rfl (lv_room (Nat.le_of_ble_eq_true rfl)) dX9_event_17 ⟨Nat.zero_le _, Nat.zero_le _⟩) (fun r_1 hr_1 => ?_)
  obtain ⟨hr_1, hbr_1⟩ := hr_1
  have hE := hE.trans (spLet_eq hr_1)
  refine lv_if_ne (tgt := 29) hx hb dX9_event_20 (by decide) (fun c_2 => ?_) (fun c_2 => ?_)
  ·
    have hE := hE.trans (if_neg c_2)
    have hix := ev_n hG hr_1 (by assumption)
    have hix2 := hix.2
    refine lv_iload_n hx hb dX9_event_29 rfl (lv_at hl 2 rfl) ?_
    refine lv_iconst (v := 0) hx hb dX9_event_30 (by decide) ?_
    refine lv_iconst (v := 2) hx hb dX9_event_31 (by decide) ?_
    refine vp_callSi (W.runS (As := [.int wh, .int (0 : Int32), .int (2 : Int32)]) (rest := []) ⟨hx, hb, hml, hown, hts⟩ (c_X9_in l dC dI cyI wh (0 : Int32) (2 : Int32)) (va_cwS 3 hts (gBS b_182 b_183 b_5 b_184) rfl rfl rfl (by decide +kernel) ⟨Nat.le_of_ble_eq_true rfl, Nat.le_of_ble_eq_true rfl⟩) (pre_s eM_ok he hS (hP.sub (ws' := []) [] rfl) (hK.sub (tys' := []) [] rfl)) rfl rfl hl.1 rfl (lv_room (Nat.le_of_ble_eq_true rfl)) dX9_event_32 ⟨Nat.zero_le _, Nat.zero_le _⟩) (fun r_3 hr_3 => ?_)
    obtain ⟨hr_3, hbr_3⟩ := hr_3
    have hE := hE.trans (spLet_eq hr_3)
    refine lv_if_eq (tgt := 55) hx hb dX9_event_35 (by decide) (fun c_4 => ?_) (fun c_4 => ?_)
    ·
      have hE := hE.trans (if_pos c_4)
      refine lv_aload_n hx hb dX9_event_55 rfl (lv_at hl 0 rfl) ?_
      refine lv_iconst (v := 2) hx hb dX9_event_56 (by decide) ?_
      refine mj_i (wr := []) (va_runV (As := [.int (2 : Int32)]) (rest := []) ⟨hx, hb, hml, hown, hts⟩ (c_X9_fails l dC dI cyI H.size q0 q1 q2 q3 q4 q5 q6 svc tl (0 : Int32) mm mr ati ors zs zv zt zp zm zk (2 : Int32)) (cwV 1 hts (gBV b_185 b_186 b_187 b_5 b_188) rfl rfl rfl (by decide +kernel) ⟨Nat.le_of_ble_eq_true rfl, Nat.le_of_ble_eq_true rfl⟩) (prm_v eM_ok he hS hP hD hK (va_free (wc := [(q0, .inr (9, [.ref q1, .ref q2, .int svc, .ref q3, .int tl, .int (0 : Int32), .int mm, .int mr, .ref q4, .int ati, .int ors, .ref q5, .ref q6])), (q1, .inl (cyI, 246, .inl zs)), (q2, .inl (cyI, 984, .inl zv)), (q3, .inl (cyI, 80, .inl zt)), (q4, .inl (cyI, 5, .inl zp)), (q5, .inl (cyI, 40, .inl zm)), (q6, .inl (cyI, 40, .inl zk))]) hD hS hA [0, 1, 2, 3, 4, 5, 6] rfl) 0 rfl rfl rfl) rfl rfl hl.1 rfl (lv_room (Nat.le_of_ble_eq_true rfl)) dX9_event_57 ⟨Nat.le_of_ble_eq_true rfl, Nat.le_of_ble_eq_true rfl⟩) hP hD hS hA [0, 1, 2, 3, 4, 5, 6] [] rfl rfl (by decide) (by decide) (fun r_6 u_5 H locs hw hP hD hS => ?_)
      obtain ⟨hu_5, rfl⟩ := hw
      have hE := hE.trans (spLet_eq hu_5)
      have hP : va_P (dC, dI) vwCl [(q0, .inr (9, [.ref q1, .ref q2, .int svc, .ref q3, .int tl, .int (u_5.2), .int mm, .int mr, .ref q4, .int ati, .int ors, .ref q5, .ref q6])), (q1, .inl (cyI, 246, .inl zs)), (q2, .inl (cyI, 984, .inl zv)), (q3, .inl (cyI, 80, .inl zt)), (q4, .inl (cyI, 5, .inl zp)), (q5, .inl (cyI, 40, .inl zm)), (q6, .inl (cyI, 40, .inl zk))] H := hP
      have hD : va_D A [(q0, .inr (9, [.ref q1, .ref q2, .int svc, .ref q3, .int tl, .int (u_5.2), .int mm, .int mr, .ref q4, .int ati, .int ors, .ref q5, .ref q6])), (q1, .inl (cyI, 246, .inl zs)), (q2, .inl (cyI, 984, .inl zv)), (q3, .inl (cyI, 80, .inl zt)), (q4, .inl (cyI, 5, .inl zp)), (q5, .inl (cyI, 40, .inl zm)), (q6, .inl (cyI, 40, .inl zk))] := hD
      exact W.iret (v := (u_5.1)) hx hb hr (fun t h9 hW => ⟨⟨(u_5.1), (((u_5.1), (u_5.2)) : Int32 × Int32), rfl, ⟨hE.symm, rfl⟩, by rw [h9]; exact hP, hD⟩, hS.F h9⟩) hS.2.2 dX9_event_60
    ·
      have hE := hE.trans (if_neg c_4)
      have hw2 := in_n (n := 2) (by decide) hr_3 (by assumption)
      have hw3 := hw2.2
      refine lv_aload_n hx hb dX9_event_38 rfl (lv_at hl 0 rfl) ?_
      refine va_get (D := (dC, dI)) (ci := 9) (v := .ref q1) (C := RX9) (T := TX9) (N := 13) hx hb hts i_X9 hown hK hP 0 rfl rfl 0 (by decide) w_1 (fun _ h9 => h9) rfl dX9_event_39 ?_
      refine lv_sipush (v := 144) hx hb dX9_event_42 (by decide) ?_
      refine lv_iconst (v := 3) hx hb dX9_event_45 (by decide) ?_
      refine lv_iload_n hx hb dX9_event_46 rfl (lv_at hl 1 rfl) ?_
      refine lv_imul hx hb dX9_event_47 ?_
      refine lv_iadd hx hb dX9_event_48 ?_
      refine lv_topi (fun y_7 ey_7 => ?_)
      obtain rfl : y_7 = nI (144 + (3 * ix.toNatClampNeg)) := ey_7.trans (nadd (rfl : (144 : Int32) = nI 144) (nmul (rfl : (3 : Int32) = nI 3) hix.1))
      refine lv_iload_n hx hb dX9_event_49 rfl (lv_at hl 2 rfl) ?_
      refine lv_iadd hx hb dX9_event_50 ?_
      refine ra_ld hx hb hK hP 1 0 rfl rfl (j := ((144 + (3 * ix.toNatClampNeg)) + wh.toNatClampNeg)) (nadd (rfl : (nI (144 + (3 * ix.toNatClampNeg))) = nI (144 + (3 * ix.toNatClampNeg))) hw2.1) (by omega) (by omega) dX9_event_51 ?_
      refine lv_goto (tgt := 60) hx hb dX9_event_52 (by decide) ?_
      exact W.iret (v := (zs ((144 + (3 * ix.toNatClampNeg)) + wh.toNatClampNeg))) hx hb hr (fun t h9 hW => ⟨⟨(zs ((144 + (3 * ix.toNatClampNeg)) + wh.toNatClampNeg)), (((zs ((144 + (3 * ix.toNatClampNeg)) + wh.toNatClampNeg)), (0 : Int32)) : Int32 × Int32), rfl, ⟨hE.symm, rfl⟩, by rw [h9]; exact hP, hD⟩, hS.F h9⟩) hS.2.2 dX9_event_60
  ·
    have hE := hE.trans (if_pos c_2)
    refine lv_aload_n hx hb dX9_event_23 rfl (lv_at hl 0 rfl) ?_
    refine lv_iconst (v := 1) hx hb dX9_event_24 (by decide) ?_
    refine mj_i (wr := []) (va_runV (As := [.int (1 : Int32)]) (rest := []) ⟨hx, hb, hml, hown, hts⟩ (c_X9_fails l dC dI cyI H.size q0 q1 q2 q3 q4 q5 q6 svc tl (0 : Int32) mm mr ati ors zs zv zt zp zm zk (1 : Int32)) (cwV 1 hts (gBV b_185 b_186 b_187 b_5 b_188) rfl rfl rfl (by decide +kernel) ⟨Nat.le_of_ble_eq_true rfl, Nat.le_of_ble_eq_true rfl⟩) (prm_v eM_ok he hS hP hD hK (va_free (wc := [(q0, .inr (9, [.ref q1, .ref q2, .int svc, .ref q3, .int tl, .int (0 : Int32), .int mm, .int mr, .ref q4, .int ati, .int ors, .ref q5, .ref q6])), (q1, .inl (cyI, 246, .inl zs)), (q2, .inl (cyI, 984, .inl zv)), (q3, .inl (cyI, 80, .inl zt)), (q4, .inl (cyI, 5, .inl zp)), (q5, .inl (cyI, 40, .inl zm)), (q6, .inl (cyI, 40, .inl zk))]) hD hS hA [0, 1, 2, 3, 4, 5, 6] rfl) 0 rfl rfl rfl) rfl rfl hl.1 rfl (lv_room (Nat.le_of_ble_eq_true rfl)) dX9_event_25 ⟨Nat.le_of_ble_eq_true rfl, Nat.le_of_ble_eq_true rfl⟩) hP hD hS hA [0, 1, 2, 3, 4, 5, 6] [] rfl rfl (by decide) (by decide) (fun r_9 u_8 H locs hw hP hD hS => ?_)
    obtain ⟨hu_8, rfl⟩ := hw
    have hE := hE.trans (spLet_eq hu_8)
    have hP : va_P (dC, dI) vwCl [(q0, .inr (9, [.ref q1, .ref q2, .int svc, .ref q3, .int tl, .int (u_8.2), .int mm, .int mr, .ref q4, .int ati, .int ors, .ref q5, .ref q6])), (q1, .inl (cyI, 246, .inl zs)), (q2, .inl (cyI, 984, .inl zv)), (q3, .inl (cyI, 80, .inl zt)), (q4, .inl (cyI, 5, .inl zp)), (q5, .inl (cyI, 40, .inl zm)), (q6, .inl (cyI, 40, .inl zk))] H := hP
    have hD : va_D A [(q0, .inr (9, [.ref q1, .ref q2, .int svc, .ref q3, .int tl, .int (u_8.2), .int mm, .int mr, .ref q4, .int ati, .int ors, .ref q5, .ref q6])), (q1, .inl (cyI, 246, .inl zs)), (q2, .inl (cyI, 984, .inl zv)), (q3, .inl (cyI, 80, .inl zt)), (q4, .inl (cyI, 5, .inl zp)), (q5, .inl (cyI, 40, .inl zm)), (q6, .inl (cyI, 40, .inl zk))] := hD
    exact W.iret (v := (u_8.1)) hx hb hr (fun t h9 hW => ⟨⟨(u_8.1), (((u_8.1), (u_8.2)) : Int32 × Int32), rfl, ⟨hE.symm, rfl⟩, by rw [h9]; exact hP, hD⟩, hS.F h9⟩) hS.2.2 dX9_event_28
def m_stateTime (zs : Nat → Int32) (sta : Int32) : Int32 × Int32 :=
  spLet (m_in sta (0 : Int32) (3 : Int32)) (fun r_1 => if r_1 = 0 then (spLet (m_fails (1 : Int32)) (fun u_3 => ((u_3.1), (u_3.2)))) else (((zs (234 + sta.toNatClampNeg)), (0 : Int32))))
set_option maxHeartbeats 1000000 in
set_option maxRecDepth 100000 in
theorem c_X9_stateTime (l : Launch) (dC : Nat → ClassId) (dI : Nat → Nat → Nat) (cyI : ClassId) (sz : Nat) (q0 : Nat) (q1 : Nat) (q2 : Nat) (q3 : Nat) (q4 : Nat) (q5 : Nat) (q6 : Nat) (svc : Int32) (tl : Int32) (cde : Int32) (mm : Int32) (mr : Int32) (ati : Int32) (ors : Int32) (zs : Nat → Int32) (zv : Nat → Int32) (zt : Nat → Int32) (zp : Nat → Int32) (zm : Nat → Int32) (zk : Nat → Int32) (sta : Int32) : Met l yX9_stateTime wqX9_stateTime ({ frames := 1, cells := 0, slots := 0, locals := 22 } : Room) (va_Pc [.ref q0, .int sta] (pC (dC, dI) [(q0, .inr (9, [.ref q1, .ref q2, .int svc, .ref q3, .int tl, .int cde, .int mm, .int mr, .ref q4, .int ati, .int ors, .ref q5, .ref q6])), (q1, .inl (cyI, 246, .inl zs)), (q2, .inl (cyI, 984, .inl zv)), (q3, .inl (cyI, 80, .inl zt)), (q4, .inl (cyI, 5, .inl zp)), (q5, .inl (cyI, 40, .inl zm)), (q6, .inl (cyI, 40, .inl zk))] [(cyI, .int)] eM sz)) (va_Qi (fun (r : Int32) (u : Int32 × Int32) => u = (m_stateTime zs sta) ∧ r = u.1) (fun (u : Int32 × Int32) t => va_P (dC, dI) vwCl [(q0, .inr (9, [.ref q1, .ref q2, .int svc, .ref q3, .int tl, .int (u.2), .int mm, .int mr, .ref q4, .int ati, .int ors, .ref q5, .ref q6])), (q1, .inl (cyI, 246, .inl zs)), (q2, .inl (cyI, 984, .inl zv)), (q3, .inl (cyI, 80, .inl zt)), (q4, .inl (cyI, 5, .inl zp)), (q5, .inl (cyI, 40, .inl zm)), (q6, .inl (cyI, 40, .inl zk))] t.heap ∧ va_D (va_A [(q0, .inr (9, [.ref q1, .ref q2, .int svc, .ref q3, .int tl, .int cde, .int mm, .int mr, .ref q4, .int ati, .int ors, .ref q5, .ref q6])), (q1, .inl (cyI, 246, .inl zs)), (q2, .inl (cyI, 984, .inl zv)), (q3, .inl (cyI, 80, .inl zt)), (q4, .inl (cyI, 5, .inl zp)), (q5, .inl (cyI, 40, .inl zm)), (q6, .inl (cyI, 40, .inl zk))] sz) [(q0, .inr (9, [.ref q1, .ref q2, .int svc, .ref q3, .int tl, .int (u.2), .int mm, .int mr, .ref q4, .int ati, .int ors, .ref q5, .ref q6])), (q1, .inl (cyI, 246, .inl zs)), (q2, .inl (cyI, 984, .inl zv)), (q3, .inl (cyI, 80, .inl zt)), (q4, .inl (cyI, 5, .inl zp)), (q5, .inl (cyI, 40, .inl zm)), (q6, .inl (cyI, 40, .inl zk))]) (va_A [(q0, .inr (9, [.ref q1, .ref q2, .int svc, .ref q3, .int tl, .int cde, .int mm, .int mr, .ref q4, .int ati, .int ors, .ref q5, .ref q6])), (q1, .inl (cyI, 246, .inl zs)), (q2, .inl (cyI, 984, .inl zv)), (q3, .inl (cyI, 80, .inl zt)), (q4, .inl (cyI, 5, .inl zp)), (q5, .inl (cyI, 40, .inl zm)), (q6, .inl (cyI, 40, .inl zk))] sz)) 0 0 (va_A [(q0, .inr (9, [.ref q1, .ref q2, .int svc, .ref q3, .int tl, .int cde, .int mm, .int mr, .ref q4, .int ati, .int ors, .ref q5, .ref q6])), (q1, .inl (cyI, 246, .inl zs)), (q2, .inl (cyI, 984, .inl zv)), (q3, .inl (cyI, 80, .inl zt)), (q4, .inl (cyI, 5, .inl zp)), (q5, .inl (cyI, 40, .inl zm)), (q6, .inl (cyI, 40, .inl zk))] sz) := by
  refine Met.ofW (cc := cX9_stateTime) (maxL := 2) (ret := (some .int)) (by decide) rfl ?_
  intro p e s m args below meth c s₁ B hml hv
  obtain ⟨rfl, hsz, hP, hK, hD0, he⟩ := hv
  have hx := B.exec
  have hb := B.bytes
  have hr := B.returns
  have hts := atoms_spec (ws := wqX9_stateTime) B.pre
  have hown : s.vm.findClass RX9 = some m.cls := findClass_of_methodNamed B.named
  have hlocks := B.notSynchronized
  have w_0 := hts (Cond.fieldLink RX9 28 "CraneLimiterModel" "code" "I") (List.mem_cons_of_mem _ b_181)
  have w_1 := hts (Cond.fieldLink RX9 7 "CraneLimiterModel" "s" "[I") (List.mem_cons_of_mem _ b_93)
  have i_X9 : ∀ w ∈ u_ws RX9 TX9 13, w ∈ wqX9_stateTime := fun w h => List.mem_cons_of_mem _ (bX9 w h)
  subst hsz
  have hD := hD0.self (sz := s.heap.size)
  generalize hAe : va_A [(q0, .inr (9, [.ref q1, .ref q2, .int svc, .ref q3, .int tl, .int cde, .int mm, .int mr, .ref q4, .int ati, .int ors, .ref q5, .ref q6])), (q1, .inl (cyI, 246, .inl zs)), (q2, .inl (cyI, 984, .inl zv)), (q3, .inl (cyI, 80, .inl zt)), (q4, .inl (cyI, 5, .inl zp)), (q5, .inl (cyI, 40, .inl zm)), (q6, .inl (cyI, 40, .inl zk))] s.heap.size = A at hD he ⊢
  have hA : ∀ q : Nat, s.heap.size ≤ q → A q := fun q h => by rw [← hAe]; exact Or.inr h
  have hS : va_S A s.heap s.heap [] := va_S.rf
  have hP : va_P (dC, dI) vwCl [(q0, .inr (9, [.ref q1, .ref q2, .int svc, .ref q3, .int tl, .int cde, .int mm, .int mr, .ref q4, .int ati, .int ors, .ref q5, .ref q6])), (q1, .inl (cyI, 246, .inl zs)), (q2, .inl (cyI, 984, .inl zv)), (q3, .inl (cyI, 80, .inl zt)), (q4, .inl (cyI, 5, .inl zp)), (q5, .inl (cyI, 40, .inl zm)), (q6, .inl (cyI, 40, .inl zk))] s.heap := hP
  have hl := lv_entry ([.ref q0, .int sta] : List Value) (n := 2) (Nat.le_of_ble_eq_true rfl)
  rw [lg_entry_eq]
  generalize (lg_sl ([.ref q0, .int sta] : List Value) ++ List.replicate (2 - (lg_sl ([.ref q0, .int sta] : List Value)).length) Slot.unset).toArray = ls at hl ⊢
  have hl : lv_has ls 2 [(0, .ref q0), (1, .int sta)] := hl
  have hE : m_stateTime zs sta = m_stateTime zs sta := rfl
  refine lv_aload_n hx hb dX9_stateTime_0 rfl (lv_at hl 0 rfl) ?_
  refine lv_iconst (v := 0) hx hb dX9_stateTime_1 (by decide) ?_
  refine va_put (D := (dC, dI)) (ci := 9) (v := .int (0 : Int32)) (ty := .int) (C := RX9) (T := TX9) (N := 13) hx hb hts i_X9 tyX9 tyX9_ok nmX9 hown hK hP hD hS 0 rfl rfl 5 (by decide) w_0 (fun _ h9 => h9) rfl (by decide +kernel) (rfl) (rfl) (Nat.le_of_ble_eq_true rfl) dX9_stateTime_2 (fun H locs hP hD hS => ?_)
  have hP : va_P (dC, dI) vwCl [(q0, .inr (9, [.ref q1, .ref q2, .int svc, .ref q3, .int tl, .int (0 : Int32), .int mm, .int mr, .ref q4, .int ati, .int ors, .ref q5, .ref q6])), (q1, .inl (cyI, 246, .inl zs)), (q2, .inl (cyI, 984, .inl zv)), (q3, .inl (cyI, 80, .inl zt)), (q4, .inl (cyI, 5, .inl zp)), (q5, .inl (cyI, 40, .inl zm)), (q6, .inl (cyI, 40, .inl zk))] H := hP
  have hD : va_D A [(q0, .inr (9, [.ref q1, .ref q2, .int svc, .ref q3, .int tl, .int (0 : Int32), .int mm, .int mr, .ref q4, .int ati, .int ors, .ref q5, .ref q6])), (q1, .inl (cyI, 246, .inl zs)), (q2, .inl (cyI, 984, .inl zv)), (q3, .inl (cyI, 80, .inl zt)), (q4, .inl (cyI, 5, .inl zp)), (q5, .inl (cyI, 40, .inl zm)), (q6, .inl (cyI, 40, .inl zk))] := hD
  refine lv_iload_n hx hb dX9_stateTime_5 rfl (lv_at hl 1 rfl) ?_
  refine lv_iconst (v := 0) hx hb dX9_stateTime_6 (by decide) ?_
  refine lv_iconst (v := 3) hx hb dX9_stateTime_7 (by decide) ?_
  refine vp_callSi (W.runS (As := [.int sta, .int (0 : Int32), .int (3 : Int32)]) (rest := []) ⟨hx, hb, hml, hown, hts⟩ (c_X9_in l dC dI cyI sta (0 : Int32) (3 : Int32)) (va_cwS 3 hts (gBS b_182 b_183 b_5 b_184) rfl rfl rfl (by decide +kernel) ⟨Nat.le_of_ble_eq_true rfl, Nat.le_of_ble_eq_true rfl⟩) (pre_s eM_ok he hS (hP.sub (ws' := []) [] rfl) (hK.sub (tys' := []) [] rfl)) rfl rfl hl.1 rfl (lv_room (Nat.le_of_ble_eq_true rfl)) dX9_stateTime_8 ⟨Nat.zero_le _, Nat.zero_le _⟩) (fun r_1 hr_1 => ?_)
  obtain ⟨hr_1, hbr_1⟩ := hr_1
  have hE := hE.trans (spLet_eq hr_1)
  refine lv_if_eq (tgt := 27) hx hb dX9_stateTime_11 (by decide) (fun c_2 => ?_) (fun c_2 => ?_)
  ·
    have hE := hE.trans (if_pos c_2)
    refine lv_aload_n hx hb dX9_stateTime_27 rfl (lv_at hl 0 rfl) ?_
    refine lv_iconst (v := 1) hx hb dX9_stateTime_28 (by decide) ?_
    refine mj_i (wr := []) (va_runV (As := [.int (1 : Int32)]) (rest := []) ⟨hx, hb, hml, hown, hts⟩ (c_X9_fails l dC dI cyI H.size q0 q1 q2 q3 q4 q5 q6 svc tl (0 : Int32) mm mr ati ors zs zv zt zp zm zk (1 : Int32)) (cwV 1 hts (gBV b_185 b_186 b_187 b_5 b_188) rfl rfl rfl (by decide +kernel) ⟨Nat.le_of_ble_eq_true rfl, Nat.le_of_ble_eq_true rfl⟩) (prm_v eM_ok he hS hP hD hK (va_free (wc := [(q0, .inr (9, [.ref q1, .ref q2, .int svc, .ref q3, .int tl, .int (0 : Int32), .int mm, .int mr, .ref q4, .int ati, .int ors, .ref q5, .ref q6])), (q1, .inl (cyI, 246, .inl zs)), (q2, .inl (cyI, 984, .inl zv)), (q3, .inl (cyI, 80, .inl zt)), (q4, .inl (cyI, 5, .inl zp)), (q5, .inl (cyI, 40, .inl zm)), (q6, .inl (cyI, 40, .inl zk))]) hD hS hA [0, 1, 2, 3, 4, 5, 6] rfl) 0 rfl rfl rfl) rfl rfl hl.1 rfl (lv_room (Nat.le_of_ble_eq_true rfl)) dX9_stateTime_29 ⟨Nat.le_of_ble_eq_true rfl, Nat.le_of_ble_eq_true rfl⟩) hP hD hS hA [0, 1, 2, 3, 4, 5, 6] [] rfl rfl (by decide) (by decide) (fun r_4 u_3 H locs hw hP hD hS => ?_)
    obtain ⟨hu_3, rfl⟩ := hw
    have hE := hE.trans (spLet_eq hu_3)
    have hP : va_P (dC, dI) vwCl [(q0, .inr (9, [.ref q1, .ref q2, .int svc, .ref q3, .int tl, .int (u_3.2), .int mm, .int mr, .ref q4, .int ati, .int ors, .ref q5, .ref q6])), (q1, .inl (cyI, 246, .inl zs)), (q2, .inl (cyI, 984, .inl zv)), (q3, .inl (cyI, 80, .inl zt)), (q4, .inl (cyI, 5, .inl zp)), (q5, .inl (cyI, 40, .inl zm)), (q6, .inl (cyI, 40, .inl zk))] H := hP
    have hD : va_D A [(q0, .inr (9, [.ref q1, .ref q2, .int svc, .ref q3, .int tl, .int (u_3.2), .int mm, .int mr, .ref q4, .int ati, .int ors, .ref q5, .ref q6])), (q1, .inl (cyI, 246, .inl zs)), (q2, .inl (cyI, 984, .inl zv)), (q3, .inl (cyI, 80, .inl zt)), (q4, .inl (cyI, 5, .inl zp)), (q5, .inl (cyI, 40, .inl zm)), (q6, .inl (cyI, 40, .inl zk))] := hD
    exact W.iret (v := (u_3.1)) hx hb hr (fun t h9 hW => ⟨⟨(u_3.1), (((u_3.1), (u_3.2)) : Int32 × Int32), rfl, ⟨hE.symm, rfl⟩, by rw [h9]; exact hP, hD⟩, hS.F h9⟩) hS.2.2 dX9_stateTime_32
  ·
    have hE := hE.trans (if_neg c_2)
    have hix := in_n (n := 3) (by decide) hr_1 (by assumption)
    have hix2 := hix.2
    refine lv_aload_n hx hb dX9_stateTime_14 rfl (lv_at hl 0 rfl) ?_
    refine va_get (D := (dC, dI)) (ci := 9) (v := .ref q1) (C := RX9) (T := TX9) (N := 13) hx hb hts i_X9 hown hK hP 0 rfl rfl 0 (by decide) w_1 (fun _ h9 => h9) rfl dX9_stateTime_15 ?_
    refine lv_sipush (v := 234) hx hb dX9_stateTime_18 (by decide) ?_
    refine lv_iload_n hx hb dX9_stateTime_21 rfl (lv_at hl 1 rfl) ?_
    refine lv_iadd hx hb dX9_stateTime_22 ?_
    refine ra_ld hx hb hK hP 1 0 rfl rfl (j := (234 + sta.toNatClampNeg)) (nadd (rfl : (234 : Int32) = nI 234) hix.1) (by omega) (by omega) dX9_stateTime_23 ?_
    refine lv_goto (tgt := 32) hx hb dX9_stateTime_24 (by decide) ?_
    exact W.iret (v := (zs (234 + sta.toNatClampNeg))) hx hb hr (fun t h9 hW => ⟨⟨(zs (234 + sta.toNatClampNeg)), (((zs (234 + sta.toNatClampNeg)), (0 : Int32)) : Int32 × Int32), rfl, ⟨hE.symm, rfl⟩, by rw [h9]; exact hP, hD⟩, hS.F h9⟩) hS.2.2 dX9_stateTime_32
def m_lifts (zs : Nat → Int32) (lc : Int32) : Int32 × Int32 :=
  spLet (m_in lc (0 : Int32) (7 : Int32)) (fun r_1 => if r_1 = 0 then (spLet (m_fails (1 : Int32)) (fun u_3 => ((u_3.1), (u_3.2)))) else (((zs (238 + lc.toNatClampNeg)), (0 : Int32))))
set_option maxHeartbeats 1000000 in
set_option maxRecDepth 100000 in
theorem c_X9_lifts (l : Launch) (dC : Nat → ClassId) (dI : Nat → Nat → Nat) (cyI : ClassId) (sz : Nat) (q0 : Nat) (q1 : Nat) (q2 : Nat) (q3 : Nat) (q4 : Nat) (q5 : Nat) (q6 : Nat) (svc : Int32) (tl : Int32) (cde : Int32) (mm : Int32) (mr : Int32) (ati : Int32) (ors : Int32) (zs : Nat → Int32) (zv : Nat → Int32) (zt : Nat → Int32) (zp : Nat → Int32) (zm : Nat → Int32) (zk : Nat → Int32) (lc : Int32) : Met l yX9_lifts wqX9_lifts ({ frames := 1, cells := 0, slots := 0, locals := 22 } : Room) (va_Pc [.ref q0, .int lc] (pC (dC, dI) [(q0, .inr (9, [.ref q1, .ref q2, .int svc, .ref q3, .int tl, .int cde, .int mm, .int mr, .ref q4, .int ati, .int ors, .ref q5, .ref q6])), (q1, .inl (cyI, 246, .inl zs)), (q2, .inl (cyI, 984, .inl zv)), (q3, .inl (cyI, 80, .inl zt)), (q4, .inl (cyI, 5, .inl zp)), (q5, .inl (cyI, 40, .inl zm)), (q6, .inl (cyI, 40, .inl zk))] [(cyI, .int)] eM sz)) (va_Qi (fun (r : Int32) (u : Int32 × Int32) => u = (m_lifts zs lc) ∧ r = u.1) (fun (u : Int32 × Int32) t => va_P (dC, dI) vwCl [(q0, .inr (9, [.ref q1, .ref q2, .int svc, .ref q3, .int tl, .int (u.2), .int mm, .int mr, .ref q4, .int ati, .int ors, .ref q5, .ref q6])), (q1, .inl (cyI, 246, .inl zs)), (q2, .inl (cyI, 984, .inl zv)), (q3, .inl (cyI, 80, .inl zt)), (q4, .inl (cyI, 5, .inl zp)), (q5, .inl (cyI, 40, .inl zm)), (q6, .inl (cyI, 40, .inl zk))] t.heap ∧ va_D (va_A [(q0, .inr (9, [.ref q1, .ref q2, .int svc, .ref q3, .int tl, .int cde, .int mm, .int mr, .ref q4, .int ati, .int ors, .ref q5, .ref q6])), (q1, .inl (cyI, 246, .inl zs)), (q2, .inl (cyI, 984, .inl zv)), (q3, .inl (cyI, 80, .inl zt)), (q4, .inl (cyI, 5, .inl zp)), (q5, .inl (cyI, 40, .inl zm)), (q6, .inl (cyI, 40, .inl zk))] sz) [(q0, .inr (9, [.ref q1, .ref q2, .int svc, .ref q3, .int tl, .int (u.2), .int mm, .int mr, .ref q4, .int ati, .int ors, .ref q5, .ref q6])), (q1, .inl (cyI, 246, .inl zs)), (q2, .inl (cyI, 984, .inl zv)), (q3, .inl (cyI, 80, .inl zt)), (q4, .inl (cyI, 5, .inl zp)), (q5, .inl (cyI, 40, .inl zm)), (q6, .inl (cyI, 40, .inl zk))]) (va_A [(q0, .inr (9, [.ref q1, .ref q2, .int svc, .ref q3, .int tl, .int cde, .int mm, .int mr, .ref q4, .int ati, .int ors, .ref q5, .ref q6])), (q1, .inl (cyI, 246, .inl zs)), (q2, .inl (cyI, 984, .inl zv)), (q3, .inl (cyI, 80, .inl zt)), (q4, .inl (cyI, 5, .inl zp)), (q5, .inl (cyI, 40, .inl zm)), (q6, .inl (cyI, 40, .inl zk))] sz)) 0 0 (va_A [(q0, .inr (9, [.ref q1, .ref q2, .int svc, .ref q3, .int tl, .int cde, .int mm, .int mr, .ref q4, .int ati, .int ors, .ref q5, .ref q6])), (q1, .inl (cyI, 246, .inl zs)), (q2, .inl (cyI, 984, .inl zv)), (q3, .inl (cyI, 80, .inl zt)), (q4, .inl (cyI, 5, .inl zp)), (q5, .inl (cyI, 40, .inl zm)), (q6, .inl (cyI, 40, .inl zk))] sz) := by
  refine Met.ofW (cc := cX9_lifts) (maxL := 2) (ret := (some .int)) (by decide) rfl ?_
  intro p e s m args below meth c s₁ B hml hv
  obtain ⟨rfl, hsz, hP, hK, hD0, he⟩ := hv
  have hx := B.exec
  have hb := B.bytes
  have hr := B.returns
  have hts := atoms_spec (ws := wqX9_lifts) B.pre
  have hown : s.vm.findClass RX9 = some m.cls := findClass_of_methodNamed B.named
  have hlocks := B.notSynchronized
  have w_0 := hts (Cond.fieldLink RX9 28 "CraneLimiterModel" "code" "I") (List.mem_cons_of_mem _ b_181)
  have w_1 := hts (Cond.fieldLink RX9 7 "CraneLimiterModel" "s" "[I") (List.mem_cons_of_mem _ b_93)
  have i_X9 : ∀ w ∈ u_ws RX9 TX9 13, w ∈ wqX9_lifts := fun w h => List.mem_cons_of_mem _ (bX9 w h)
  subst hsz
  have hD := hD0.self (sz := s.heap.size)
  generalize hAe : va_A [(q0, .inr (9, [.ref q1, .ref q2, .int svc, .ref q3, .int tl, .int cde, .int mm, .int mr, .ref q4, .int ati, .int ors, .ref q5, .ref q6])), (q1, .inl (cyI, 246, .inl zs)), (q2, .inl (cyI, 984, .inl zv)), (q3, .inl (cyI, 80, .inl zt)), (q4, .inl (cyI, 5, .inl zp)), (q5, .inl (cyI, 40, .inl zm)), (q6, .inl (cyI, 40, .inl zk))] s.heap.size = A at hD he ⊢
  have hA : ∀ q : Nat, s.heap.size ≤ q → A q := fun q h => by rw [← hAe]; exact Or.inr h
  have hS : va_S A s.heap s.heap [] := va_S.rf
  have hP : va_P (dC, dI) vwCl [(q0, .inr (9, [.ref q1, .ref q2, .int svc, .ref q3, .int tl, .int cde, .int mm, .int mr, .ref q4, .int ati, .int ors, .ref q5, .ref q6])), (q1, .inl (cyI, 246, .inl zs)), (q2, .inl (cyI, 984, .inl zv)), (q3, .inl (cyI, 80, .inl zt)), (q4, .inl (cyI, 5, .inl zp)), (q5, .inl (cyI, 40, .inl zm)), (q6, .inl (cyI, 40, .inl zk))] s.heap := hP
  have hl := lv_entry ([.ref q0, .int lc] : List Value) (n := 2) (Nat.le_of_ble_eq_true rfl)
  rw [lg_entry_eq]
  generalize (lg_sl ([.ref q0, .int lc] : List Value) ++ List.replicate (2 - (lg_sl ([.ref q0, .int lc] : List Value)).length) Slot.unset).toArray = ls at hl ⊢
  have hl : lv_has ls 2 [(0, .ref q0), (1, .int lc)] := hl
  have hE : m_lifts zs lc = m_lifts zs lc := rfl
  refine lv_aload_n hx hb dX9_lifts_0 rfl (lv_at hl 0 rfl) ?_
  refine lv_iconst (v := 0) hx hb dX9_lifts_1 (by decide) ?_
  refine va_put (D := (dC, dI)) (ci := 9) (v := .int (0 : Int32)) (ty := .int) (C := RX9) (T := TX9) (N := 13) hx hb hts i_X9 tyX9 tyX9_ok nmX9 hown hK hP hD hS 0 rfl rfl 5 (by decide) w_0 (fun _ h9 => h9) rfl (by decide +kernel) (rfl) (rfl) (Nat.le_of_ble_eq_true rfl) dX9_lifts_2 (fun H locs hP hD hS => ?_)
  have hP : va_P (dC, dI) vwCl [(q0, .inr (9, [.ref q1, .ref q2, .int svc, .ref q3, .int tl, .int (0 : Int32), .int mm, .int mr, .ref q4, .int ati, .int ors, .ref q5, .ref q6])), (q1, .inl (cyI, 246, .inl zs)), (q2, .inl (cyI, 984, .inl zv)), (q3, .inl (cyI, 80, .inl zt)), (q4, .inl (cyI, 5, .inl zp)), (q5, .inl (cyI, 40, .inl zm)), (q6, .inl (cyI, 40, .inl zk))] H := hP
  have hD : va_D A [(q0, .inr (9, [.ref q1, .ref q2, .int svc, .ref q3, .int tl, .int (0 : Int32), .int mm, .int mr, .ref q4, .int ati, .int ors, .ref q5, .ref q6])), (q1, .inl (cyI, 246, .inl zs)), (q2, .inl (cyI, 984, .inl zv)), (q3, .inl (cyI, 80, .inl zt)), (q4, .inl (cyI, 5, .inl zp)), (q5, .inl (cyI, 40, .inl zm)), (q6, .inl (cyI, 40, .inl zk))] := hD
  refine lv_iload_n hx hb dX9_lifts_5 rfl (lv_at hl 1 rfl) ?_
  refine lv_iconst (v := 0) hx hb dX9_lifts_6 (by decide) ?_
  refine lv_bipush (v := 7) hx hb dX9_lifts_7 (by decide) ?_
  refine vp_callSi (W.runS (As := [.int lc, .int (0 : Int32), .int (7 : Int32)]) (rest := []) ⟨hx, hb, hml, hown, hts⟩ (c_X9_in l dC dI cyI lc (0 : Int32) (7 : Int32)) (va_cwS 3 hts (gBS b_182 b_183 b_5 b_184) rfl rfl rfl (by decide +kernel) ⟨Nat.le_of_ble_eq_true rfl, Nat.le_of_ble_eq_true rfl⟩) (pre_s eM_ok he hS (hP.sub (ws' := []) [] rfl) (hK.sub (tys' := []) [] rfl)) rfl rfl hl.1 rfl (lv_room (Nat.le_of_ble_eq_true rfl)) dX9_lifts_9 ⟨Nat.zero_le _, Nat.zero_le _⟩) (fun r_1 hr_1 => ?_)
  obtain ⟨hr_1, hbr_1⟩ := hr_1
  have hE := hE.trans (spLet_eq hr_1)
  refine lv_if_eq (tgt := 28) hx hb dX9_lifts_12 (by decide) (fun c_2 => ?_) (fun c_2 => ?_)
  ·
    have hE := hE.trans (if_pos c_2)
    refine lv_aload_n hx hb dX9_lifts_28 rfl (lv_at hl 0 rfl) ?_
    refine lv_iconst (v := 1) hx hb dX9_lifts_29 (by decide) ?_
    refine mj_i (wr := []) (va_runV (As := [.int (1 : Int32)]) (rest := []) ⟨hx, hb, hml, hown, hts⟩ (c_X9_fails l dC dI cyI H.size q0 q1 q2 q3 q4 q5 q6 svc tl (0 : Int32) mm mr ati ors zs zv zt zp zm zk (1 : Int32)) (cwV 1 hts (gBV b_185 b_186 b_187 b_5 b_188) rfl rfl rfl (by decide +kernel) ⟨Nat.le_of_ble_eq_true rfl, Nat.le_of_ble_eq_true rfl⟩) (prm_v eM_ok he hS hP hD hK (va_free (wc := [(q0, .inr (9, [.ref q1, .ref q2, .int svc, .ref q3, .int tl, .int (0 : Int32), .int mm, .int mr, .ref q4, .int ati, .int ors, .ref q5, .ref q6])), (q1, .inl (cyI, 246, .inl zs)), (q2, .inl (cyI, 984, .inl zv)), (q3, .inl (cyI, 80, .inl zt)), (q4, .inl (cyI, 5, .inl zp)), (q5, .inl (cyI, 40, .inl zm)), (q6, .inl (cyI, 40, .inl zk))]) hD hS hA [0, 1, 2, 3, 4, 5, 6] rfl) 0 rfl rfl rfl) rfl rfl hl.1 rfl (lv_room (Nat.le_of_ble_eq_true rfl)) dX9_lifts_30 ⟨Nat.le_of_ble_eq_true rfl, Nat.le_of_ble_eq_true rfl⟩) hP hD hS hA [0, 1, 2, 3, 4, 5, 6] [] rfl rfl (by decide) (by decide) (fun r_4 u_3 H locs hw hP hD hS => ?_)
    obtain ⟨hu_3, rfl⟩ := hw
    have hE := hE.trans (spLet_eq hu_3)
    have hP : va_P (dC, dI) vwCl [(q0, .inr (9, [.ref q1, .ref q2, .int svc, .ref q3, .int tl, .int (u_3.2), .int mm, .int mr, .ref q4, .int ati, .int ors, .ref q5, .ref q6])), (q1, .inl (cyI, 246, .inl zs)), (q2, .inl (cyI, 984, .inl zv)), (q3, .inl (cyI, 80, .inl zt)), (q4, .inl (cyI, 5, .inl zp)), (q5, .inl (cyI, 40, .inl zm)), (q6, .inl (cyI, 40, .inl zk))] H := hP
    have hD : va_D A [(q0, .inr (9, [.ref q1, .ref q2, .int svc, .ref q3, .int tl, .int (u_3.2), .int mm, .int mr, .ref q4, .int ati, .int ors, .ref q5, .ref q6])), (q1, .inl (cyI, 246, .inl zs)), (q2, .inl (cyI, 984, .inl zv)), (q3, .inl (cyI, 80, .inl zt)), (q4, .inl (cyI, 5, .inl zp)), (q5, .inl (cyI, 40, .inl zm)), (q6, .inl (cyI, 40, .inl zk))] := hD
    exact W.iret (v := (u_3.1)) hx hb hr (fun t h9 hW => ⟨⟨(u_3.1), (((u_3.1), (u_3.2)) : Int32 × Int32), rfl, ⟨hE.symm, rfl⟩, by rw [h9]; exact hP, hD⟩, hS.F h9⟩) hS.2.2 dX9_lifts_33
  ·
    have hE := hE.trans (if_neg c_2)
    have hix := in_n (n := 7) (by decide) hr_1 (by assumption)
    have hix2 := hix.2
    refine lv_aload_n hx hb dX9_lifts_15 rfl (lv_at hl 0 rfl) ?_
    refine va_get (D := (dC, dI)) (ci := 9) (v := .ref q1) (C := RX9) (T := TX9) (N := 13) hx hb hts i_X9 hown hK hP 0 rfl rfl 0 (by decide) w_1 (fun _ h9 => h9) rfl dX9_lifts_16 ?_
    refine lv_sipush (v := 238) hx hb dX9_lifts_19 (by decide) ?_
    refine lv_iload_n hx hb dX9_lifts_22 rfl (lv_at hl 1 rfl) ?_
    refine lv_iadd hx hb dX9_lifts_23 ?_
    refine ra_ld hx hb hK hP 1 0 rfl rfl (j := (238 + lc.toNatClampNeg)) (nadd (rfl : (238 : Int32) = nI 238) hix.1) (by omega) (by omega) dX9_lifts_24 ?_
    refine lv_goto (tgt := 33) hx hb dX9_lifts_25 (by decide) ?_
    exact W.iret (v := (zs (238 + lc.toNatClampNeg))) hx hb hr (fun t h9 hW => ⟨⟨(zs (238 + lc.toNatClampNeg)), (((zs (238 + lc.toNatClampNeg)), (0 : Int32)) : Int32 × Int32), rfl, ⟨hE.symm, rfl⟩, by rw [h9]; exact hP, hD⟩, hS.F h9⟩) hS.2.2 dX9_lifts_33
def m_spectrum_b12 (zs : Nat → Int32) (rec12 : Int64 → Int64 → Nat → (Int32 × Int32)) : Int64 → Int64 → Nat → (Int32 × Int32) :=
  fun v1_12 v3_12 k5_12 => if 8 ≤ k5_12 then (if (lg_cmp v3_12 (0 : Int64)) = 0 then (((-1 : Int32), (0 : Int32))) else (((((1000 : Int64) * v1_12) / ((512 : Int64) * v3_12)).toInt32, (0 : Int32)))) else (spLet ((v1_12 + (((((zs (238 + k5_12)).toInt64) * ((nI (k5_12 + 1)).toInt64)) * ((nI (k5_12 + 1)).toInt64)) * ((nI (k5_12 + 1)).toInt64)))) (fun x_6 => spLet ((v3_12 + ((zs (238 + k5_12)).toInt64))) (fun x_7 => rec12 x_6 x_7 (k5_12 + 1))))
def m_spectrum (zs : Nat → Int32) : Int32 × Int32 :=
  spIter (fun _ _ _ => default) (m_spectrum_b12 zs) 9 (0 : Int64) (0 : Int64) 0
set_option maxHeartbeats 1000000 in
set_option maxRecDepth 100000 in
theorem c_X9_spectrum (l : Launch) (dC : Nat → ClassId) (dI : Nat → Nat → Nat) (cyI : ClassId) (sz : Nat) (q0 : Nat) (q1 : Nat) (q2 : Nat) (q3 : Nat) (q4 : Nat) (q5 : Nat) (q6 : Nat) (svc : Int32) (tl : Int32) (cde : Int32) (mm : Int32) (mr : Int32) (ati : Int32) (ors : Int32) (zs : Nat → Int32) (zv : Nat → Int32) (zt : Nat → Int32) (zp : Nat → Int32) (zm : Nat → Int32) (zk : Nat → Int32) : Met l yX9_spectrum wqX9_spectrum ({ frames := 0, cells := 0, slots := 0, locals := 0 } : Room) (va_Pc [.ref q0] (pC (dC, dI) [(q0, .inr (9, [.ref q1, .ref q2, .int svc, .ref q3, .int tl, .int cde, .int mm, .int mr, .ref q4, .int ati, .int ors, .ref q5, .ref q6])), (q1, .inl (cyI, 246, .inl zs)), (q2, .inl (cyI, 984, .inl zv)), (q3, .inl (cyI, 80, .inl zt)), (q4, .inl (cyI, 5, .inl zp)), (q5, .inl (cyI, 40, .inl zm)), (q6, .inl (cyI, 40, .inl zk))] [(cyI, .int)] eM sz)) (va_Qi (fun (r : Int32) (u : Int32 × Int32) => u = (m_spectrum zs) ∧ r = u.1) (fun (u : Int32 × Int32) t => va_P (dC, dI) vwCl [(q0, .inr (9, [.ref q1, .ref q2, .int svc, .ref q3, .int tl, .int (u.2), .int mm, .int mr, .ref q4, .int ati, .int ors, .ref q5, .ref q6])), (q1, .inl (cyI, 246, .inl zs)), (q2, .inl (cyI, 984, .inl zv)), (q3, .inl (cyI, 80, .inl zt)), (q4, .inl (cyI, 5, .inl zp)), (q5, .inl (cyI, 40, .inl zm)), (q6, .inl (cyI, 40, .inl zk))] t.heap ∧ va_D (va_A [(q0, .inr (9, [.ref q1, .ref q2, .int svc, .ref q3, .int tl, .int cde, .int mm, .int mr, .ref q4, .int ati, .int ors, .ref q5, .ref q6])), (q1, .inl (cyI, 246, .inl zs)), (q2, .inl (cyI, 984, .inl zv)), (q3, .inl (cyI, 80, .inl zt)), (q4, .inl (cyI, 5, .inl zp)), (q5, .inl (cyI, 40, .inl zm)), (q6, .inl (cyI, 40, .inl zk))] sz) [(q0, .inr (9, [.ref q1, .ref q2, .int svc, .ref q3, .int tl, .int (u.2), .int mm, .int mr, .ref q4, .int ati, .int ors, .ref q5, .ref q6])), (q1, .inl (cyI, 246, .inl zs)), (q2, .inl (cyI, 984, .inl zv)), (q3, .inl (cyI, 80, .inl zt)), (q4, .inl (cyI, 5, .inl zp)), (q5, .inl (cyI, 40, .inl zm)), (q6, .inl (cyI, 40, .inl zk))]) (va_A [(q0, .inr (9, [.ref q1, .ref q2, .int svc, .ref q3, .int tl, .int cde, .int mm, .int mr, .ref q4, .int ati, .int ors, .ref q5, .ref q6])), (q1, .inl (cyI, 246, .inl zs)), (q2, .inl (cyI, 984, .inl zv)), (q3, .inl (cyI, 80, .inl zt)), (q4, .inl (cyI, 5, .inl zp)), (q5, .inl (cyI, 40, .inl zm)), (q6, .inl (cyI, 40, .inl zk))] sz)) 0 0 (va_A [(q0, .inr (9, [.ref q1, .ref q2, .int svc, .ref q3, .int tl, .int cde, .int mm, .int mr, .ref q4, .int ati, .int ors, .ref q5, .ref q6])), (q1, .inl (cyI, 246, .inl zs)), (q2, .inl (cyI, 984, .inl zv)), (q3, .inl (cyI, 80, .inl zt)), (q4, .inl (cyI, 5, .inl zp)), (q5, .inl (cyI, 40, .inl zm)), (q6, .inl (cyI, 40, .inl zk))] sz) := by
  refine Met.ofW (cc := cX9_spectrum) (maxL := 6) (ret := (some .int)) (by decide) rfl ?_
  intro p e s m args below meth c s₁ B hml hv
  obtain ⟨rfl, hsz, hP, hK, hD0, he⟩ := hv
  have hx := B.exec
  have hb := B.bytes
  have hr := B.returns
  have hts := atoms_spec (ws := wqX9_spectrum) B.pre
  have hown : s.vm.findClass RX9 = some m.cls := findClass_of_methodNamed B.named
  have hlocks := B.notSynchronized
  have w_0 := hts (Cond.fieldLink RX9 28 "CraneLimiterModel" "code" "I") (List.mem_cons_of_mem _ b_181)
  have w_1 := hts (Cond.constantLong RX9 110 (1000)) (List.mem_cons_of_mem _ b_713)
  have w_2 := hts (Cond.constantLong RX9 213 (512)) (List.mem_cons_of_mem _ b_908)
  have w_3 := hts (Cond.fieldLink RX9 7 "CraneLimiterModel" "s" "[I") (List.mem_cons_of_mem _ b_93)
  have i_X9 : ∀ w ∈ u_ws RX9 TX9 13, w ∈ wqX9_spectrum := fun w h => List.mem_cons_of_mem _ (bX9 w h)
  subst hsz
  have hD := hD0.self (sz := s.heap.size)
  generalize hAe : va_A [(q0, .inr (9, [.ref q1, .ref q2, .int svc, .ref q3, .int tl, .int cde, .int mm, .int mr, .ref q4, .int ati, .int ors, .ref q5, .ref q6])), (q1, .inl (cyI, 246, .inl zs)), (q2, .inl (cyI, 984, .inl zv)), (q3, .inl (cyI, 80, .inl zt)), (q4, .inl (cyI, 5, .inl zp)), (q5, .inl (cyI, 40, .inl zm)), (q6, .inl (cyI, 40, .inl zk))] s.heap.size = A at hD he ⊢
  have hA : ∀ q : Nat, s.heap.size ≤ q → A q := fun q h => by rw [← hAe]; exact Or.inr h
  have hS : va_S A s.heap s.heap [] := va_S.rf
  have hP : va_P (dC, dI) vwCl [(q0, .inr (9, [.ref q1, .ref q2, .int svc, .ref q3, .int tl, .int cde, .int mm, .int mr, .ref q4, .int ati, .int ors, .ref q5, .ref q6])), (q1, .inl (cyI, 246, .inl zs)), (q2, .inl (cyI, 984, .inl zv)), (q3, .inl (cyI, 80, .inl zt)), (q4, .inl (cyI, 5, .inl zp)), (q5, .inl (cyI, 40, .inl zm)), (q6, .inl (cyI, 40, .inl zk))] s.heap := hP
  have hl := lv_entry ([.ref q0] : List Value) (n := 6) (Nat.le_of_ble_eq_true rfl)
  rw [lg_entry_eq]
  generalize (lg_sl ([.ref q0] : List Value) ++ List.replicate (6 - (lg_sl ([.ref q0] : List Value)).length) Slot.unset).toArray = ls at hl ⊢
  have hl : lv_has ls 6 [(0, .ref q0)] := hl
  have hE : m_spectrum zs = m_spectrum zs := rfl
  refine lv_aload_n hx hb dX9_spectrum_0 rfl (lv_at hl 0 rfl) ?_
  refine lv_iconst (v := 0) hx hb dX9_spectrum_1 (by decide) ?_
  refine va_put (D := (dC, dI)) (ci := 9) (v := .int (0 : Int32)) (ty := .int) (C := RX9) (T := TX9) (N := 13) hx hb hts i_X9 tyX9 tyX9_ok nmX9 hown hK hP hD hS 0 rfl rfl 5 (by decide) w_0 (fun _ h9 => h9) rfl (by decide +kernel) (rfl) (rfl) (Nat.le_of_ble_eq_true rfl) dX9_spectrum_2 (fun H locs hP hD hS => ?_)
  have hP : va_P (dC, dI) vwCl [(q0, .inr (9, [.ref q1, .ref q2, .int svc, .ref q3, .int tl, .int (0 : Int32), .int mm, .int mr, .ref q4, .int ati, .int ors, .ref q5, .ref q6])), (q1, .inl (cyI, 246, .inl zs)), (q2, .inl (cyI, 984, .inl zv)), (q3, .inl (cyI, 80, .inl zt)), (q4, .inl (cyI, 5, .inl zp)), (q5, .inl (cyI, 40, .inl zm)), (q6, .inl (cyI, 40, .inl zk))] H := hP
  have hD : va_D A [(q0, .inr (9, [.ref q1, .ref q2, .int svc, .ref q3, .int tl, .int (0 : Int32), .int mm, .int mr, .ref q4, .int ati, .int ors, .ref q5, .ref q6])), (q1, .inl (cyI, 246, .inl zs)), (q2, .inl (cyI, 984, .inl zv)), (q3, .inl (cyI, 80, .inl zt)), (q4, .inl (cyI, 5, .inl zp)), (q5, .inl (cyI, 40, .inl zm)), (q6, .inl (cyI, 40, .inl zk))] := hD
  refine lv_lconst (v := 0) hx hb dX9_spectrum_5 (by decide) ?_
  refine lv_lstore_n (lv' := [(1, .long (0 : Int64)), (0, .ref q0)]) hx hb dX9_spectrum_6 rfl hl (by decide) rfl (fun ls hl => ?_)
  refine lv_lconst (v := 0) hx hb dX9_spectrum_7 (by decide) ?_
  refine lv_lstore_n (lv' := [(3, .long (0 : Int64)), (1, .long (0 : Int64)), (0, .ref q0)]) hx hb dX9_spectrum_8 rfl hl (by decide) rfl (fun ls hl => ?_)
  refine lv_iconst (v := 0) hx hb dX9_spectrum_9 (by decide) ?_
  refine lv_istore (lv' := [(5, .int (0 : Int32)), (3, .long (0 : Int64)), (1, .long (0 : Int64)), (0, .ref q0)]) hx hb dX9_spectrum_10 hl (by decide) rfl (fun ls hl => ?_)
  have L12 : ∀ (n12 : Nat) (v1_12 : Int64) (v3_12 : Int64) (k5_12 : Nat) (hi : -(2147483648 * (k5_12 : Int)) ≤ (v3_12).toInt ∧ (v3_12).toInt ≤ 2147483648 * (k5_12 : Int) ∧ k5_12 ≤ 8 ∧ 8 < k5_12 + n12) (ls : Array Slot) (hl : lv_has ls 6 [(0, .ref q0), (1, .long v1_12), (3, .long v3_12), (5, .int (nI k5_12))]) (hE : (m_spectrum zs) = spIter (fun _ _ _ => default) (m_spectrum_b12 zs) n12 v1_12 v3_12 k5_12), W p l e (headSpec wqX9_spectrum ({ frames := 0, cells := 0, slots := 0, locals := 0 } : Room)).room s m ([.ref q0] : List Value).toArray below meth c H locs 0 0 (MQ below (va_Qi (fun (r : Int32) (u : Int32 × Int32) => u = (m_spectrum zs) ∧ r = u.1) (fun (u : Int32 × Int32) t => va_P (dC, dI) vwCl [(q0, .inr (9, [.ref q1, .ref q2, .int svc, .ref q3, .int tl, .int (u.2), .int mm, .int mr, .ref q4, .int ati, .int ors, .ref q5, .ref q6])), (q1, .inl (cyI, 246, .inl zs)), (q2, .inl (cyI, 984, .inl zv)), (q3, .inl (cyI, 80, .inl zt)), (q4, .inl (cyI, 5, .inl zp)), (q5, .inl (cyI, 40, .inl zm)), (q6, .inl (cyI, 40, .inl zk))] t.heap ∧ va_D A [(q0, .inr (9, [.ref q1, .ref q2, .int svc, .ref q3, .int tl, .int (u.2), .int mm, .int mr, .ref q4, .int ati, .int ors, .ref q5, .ref q6])), (q1, .inl (cyI, 246, .inl zs)), (q2, .inl (cyI, 984, .inl zv)), (q3, .inl (cyI, 80, .inl zt)), (q4, .inl (cyI, 5, .inl zp)), (q5, .inl (cyI, 40, .inl zm)), (q6, .inl (cyI, 40, .inl zk))]) A) ([.ref q0] : List Value).toArray s 0 0 A) (F0 m 12 ls []) := by
    intro n12
    induction n12 with
    | zero =>
      intro v1_12 v3_12 k5_12 hi ls hl hE
      exact absurd hi (by omega)
    | succ n12 ih12 =>
      intro v1_12 v3_12 k5_12 hi ls hl hE
      have hE : (m_spectrum zs) = m_spectrum_b12 zs (spIter (fun _ _ _ => default) (m_spectrum_b12 zs) n12) v1_12 v3_12 k5_12 := hE
      refine lv_iload hx hb dX9_spectrum_12 (lv_at hl 3 rfl) ?_
      refine lv_bipush (v := 8) hx hb dX9_spectrum_14 (by decide) ?_
      refine lv_icmp_ge (tgt := 73) hx hb dX9_spectrum_16 (by decide) (fun c_1 => ?_) (fun c_1 => ?_)
      ·
        have c_1 : 8 ≤ k5_12 := by
          have h1 : ((nI k5_12)) = nI k5_12 := rfl
          have h2 : ((8 : Int32)) = nI 8 := rfl
          have h3 : (nI 8 ≤ nI k5_12) := by first | exact c_1 | (rw [← h1, ← h2]; exact c_1)
          exact (nI_leI (by omega) (by omega)).mp h3
        have hE := hE.trans (if_pos c_1)
        refine lv_lload_n hx hb dX9_spectrum_73 rfl (lv_at hl 2 rfl) ?_
        refine lv_lconst (v := 0) hx hb dX9_spectrum_74 (by decide) ?_
        refine W.lcmp hx hb dX9_spectrum_75 ?_
        refine lv_if_ne (tgt := 83) hx hb dX9_spectrum_76 (by decide) (fun c_2 => ?_) (fun c_2 => ?_)
        ·
          have hE := hE.trans (if_neg c_2)
          refine lv_ldc2 (v := 1000) hx hb hown w_1 dX9_spectrum_83 ?_
          refine lv_lload_n hx hb dX9_spectrum_86 rfl (lv_at hl 1 rfl) ?_
          refine lv_lmul hx hb dX9_spectrum_87 ?_
          refine lv_ldc2 (v := 512) hx hb hown w_2 dX9_spectrum_88 ?_
          refine lv_lload_n hx hb dX9_spectrum_91 rfl (lv_at hl 2 rfl) ?_
          refine lv_lmul hx hb dX9_spectrum_92 ?_
          refine lv_ldiv hx hb dX9_spectrum_93 (sp_ne hi (by assumption)) ?_
          refine lv_l2i hx hb dX9_spectrum_94 rfl ?_
          exact W.iret (v := (((1000 : Int64) * v1_12) / ((512 : Int64) * v3_12)).toInt32) hx hb hr (fun t h9 hW => ⟨⟨(((1000 : Int64) * v1_12) / ((512 : Int64) * v3_12)).toInt32, (((((1000 : Int64) * v1_12) / ((512 : Int64) * v3_12)).toInt32, (0 : Int32)) : Int32 × Int32), rfl, ⟨hE.symm, rfl⟩, by rw [h9]; exact hP, hD⟩, hS.F h9⟩) hS.2.2 dX9_spectrum_95
        ·
          have hE := hE.trans (if_pos c_2)
          refine lv_iconst (v := -1) hx hb dX9_spectrum_79 (by decide) ?_
          refine lv_goto (tgt := 95) hx hb dX9_spectrum_80 (by decide) ?_
          exact W.iret (v := (-1 : Int32)) hx hb hr (fun t h9 hW => ⟨⟨(-1 : Int32), (((-1 : Int32), (0 : Int32)) : Int32 × Int32), rfl, ⟨hE.symm, rfl⟩, by rw [h9]; exact hP, hD⟩, hS.F h9⟩) hS.2.2 dX9_spectrum_95
      ·
        have c_1 : ¬ 8 ≤ k5_12 := by
          have h1 : ((nI k5_12)) = nI k5_12 := rfl
          have h2 : ((8 : Int32)) = nI 8 := rfl
          have h3 : ¬ (nI 8 ≤ nI k5_12) := by first | exact c_1 | (rw [← h1, ← h2]; exact c_1)
          exact fun h => h3 ((nI_leI (by omega) (by omega)).mpr h)
        have hE := hE.trans (if_neg c_1)
        refine lv_lload_n hx hb dX9_spectrum_19 rfl (lv_at hl 1 rfl) ?_
        refine lv_aload_n hx hb dX9_spectrum_20 rfl (lv_at hl 0 rfl) ?_
        refine va_get (D := (dC, dI)) (ci := 9) (v := .ref q1) (C := RX9) (T := TX9) (N := 13) hx hb hts i_X9 hown hK hP 0 rfl rfl 0 (by decide) w_3 (fun _ h9 => h9) rfl dX9_spectrum_21 ?_
        refine lv_sipush (v := 238) hx hb dX9_spectrum_24 (by decide) ?_
        refine lv_iload hx hb dX9_spectrum_27 (lv_at hl 3 rfl) ?_
        refine lv_iadd hx hb dX9_spectrum_29 ?_
        refine ra_ld hx hb hK hP 1 0 rfl rfl (j := (238 + k5_12)) (nadd (rfl : (238 : Int32) = nI 238) (rfl : (nI k5_12) = nI k5_12)) (by omega) (by omega) dX9_spectrum_30 ?_
        refine lv_i2l hx hb dX9_spectrum_31 rfl ?_
        refine lv_iload hx hb dX9_spectrum_32 (lv_at hl 3 rfl) ?_
        refine lv_iconst (v := 1) hx hb dX9_spectrum_34 (by decide) ?_
        refine lv_iadd hx hb dX9_spectrum_35 ?_
        refine lv_topi (fun y_3 ey_3 => ?_)
        obtain rfl : y_3 = nI (k5_12 + 1) := ey_3.trans (nadd (rfl : (nI k5_12) = nI k5_12) (rfl : (1 : Int32) = nI 1))
        refine lv_i2l hx hb dX9_spectrum_36 rfl ?_
        refine lv_lmul hx hb dX9_spectrum_37 ?_
        refine lv_iload hx hb dX9_spectrum_38 (lv_at hl 3 rfl) ?_
        refine lv_iconst (v := 1) hx hb dX9_spectrum_40 (by decide) ?_
        refine lv_iadd hx hb dX9_spectrum_41 ?_
        refine lv_topi (fun y_4 ey_4 => ?_)
        obtain rfl : y_4 = nI (k5_12 + 1) := ey_4.trans (nadd (rfl : (nI k5_12) = nI k5_12) (rfl : (1 : Int32) = nI 1))
        refine lv_i2l hx hb dX9_spectrum_42 rfl ?_
        refine lv_lmul hx hb dX9_spectrum_43 ?_
        refine lv_iload hx hb dX9_spectrum_44 (lv_at hl 3 rfl) ?_
        refine lv_iconst (v := 1) hx hb dX9_spectrum_46 (by decide) ?_
        refine lv_iadd hx hb dX9_spectrum_47 ?_
        refine lv_topi (fun y_5 ey_5 => ?_)
        obtain rfl : y_5 = nI (k5_12 + 1) := ey_5.trans (nadd (rfl : (nI k5_12) = nI k5_12) (rfl : (1 : Int32) = nI 1))
        refine lv_i2l hx hb dX9_spectrum_48 rfl ?_
        refine lv_lmul hx hb dX9_spectrum_49 ?_
        refine lv_ladd hx hb dX9_spectrum_50 ?_
        refine lv_topl (fun x_6 ex_6 => ?_)
        have hE := hE.trans (spLet_eq ex_6)
        refine lv_lstore_n (lv' := [(1, .long x_6), (0, .ref q0), (3, .long v3_12), (5, .int (nI k5_12))]) hx hb dX9_spectrum_51 rfl hl (by decide) rfl (fun ls hl => ?_)
        refine lv_lload_n hx hb dX9_spectrum_52 rfl (lv_at hl 2 rfl) ?_
        refine lv_aload_n hx hb dX9_spectrum_53 rfl (lv_at hl 1 rfl) ?_
        refine va_get (D := (dC, dI)) (ci := 9) (v := .ref q1) (C := RX9) (T := TX9) (N := 13) hx hb hts i_X9 hown hK hP 0 rfl rfl 0 (by decide) w_3 (fun _ h9 => h9) rfl dX9_spectrum_54 ?_
        refine lv_sipush (v := 238) hx hb dX9_spectrum_57 (by decide) ?_
        refine lv_iload hx hb dX9_spectrum_60 (lv_at hl 3 rfl) ?_
        refine lv_iadd hx hb dX9_spectrum_62 ?_
        refine ra_ld hx hb hK hP 1 0 rfl rfl (j := (238 + k5_12)) (nadd (rfl : (238 : Int32) = nI 238) (rfl : (nI k5_12) = nI k5_12)) (by omega) (by omega) dX9_spectrum_63 ?_
        refine lv_i2l hx hb dX9_spectrum_64 rfl ?_
        refine lv_ladd hx hb dX9_spectrum_65 ?_
        refine lv_topl (fun x_7 ex_7 => ?_)
        have hE := hE.trans (spLet_eq ex_7)
        refine lv_lstore_n (lv' := [(3, .long x_7), (1, .long x_6), (0, .ref q0), (5, .int (nI k5_12))]) hx hb dX9_spectrum_66 rfl hl (by decide) rfl (fun ls hl => ?_)
        refine lv_iinc (v := (nI (k5_12 + 1))) (lv' := [(5, .int (nI (k5_12 + 1))), (3, .long x_7), (1, .long x_6), (0, .ref q0)]) hx hb dX9_spectrum_67 hl (k := 3) rfl (show _ from (congrArg (fun z => z + Int32.ofInt 1) (rfl)).trans (ninc _ 1)) (by decide) rfl (fun ls hl => ?_)
        refine lv_goto (tgt := 12) hx hb dX9_spectrum_70 (by decide) ?_
        exact ih12 x_6 x_7 (k5_12 + 1) (sp_step ex_7 hi (by assumption)) ls (lv_sub hl [3, 2, 1, 0] rfl) hE
  exact L12 9 (0 : Int64) (0 : Int64) 0 ⟨by decide, by decide, by omega, by omega⟩ ls (lv_sub hl [3, 2, 1, 0] rfl) hE
def m_type (tl : Int32) (zt : Nat → Int32) (va : Int32) : Int32 × Int32 × Int32 × (Nat → Int32) :=
  spLet (m_in va (0 : Int32) (127 : Int32)) (fun r_1 => if r_1 = 0 then (spLet (m_fails (1 : Int32)) (fun u_8 => ((u_8.1), tl, (u_8.2), zt))) else (if tl.toNatClampNeg = 80 then (spLet (m_fails (2 : Int32)) (fun u_6 => ((u_6.1), tl, (u_6.2), zt))) else (spLet (upd zt (tl.toNatClampNeg) va) (fun f_4 => ((nI (tl.toNatClampNeg + 1)), (nI (tl.toNatClampNeg + 1)), (0 : Int32), f_4)))))
set_option maxHeartbeats 1000000 in
set_option maxRecDepth 100000 in
theorem c_X9_type (l : Launch) (dC : Nat → ClassId) (dI : Nat → Nat → Nat) (cyI : ClassId) (sz : Nat) (q0 : Nat) (q1 : Nat) (q2 : Nat) (q3 : Nat) (q4 : Nat) (q5 : Nat) (q6 : Nat) (svc : Int32) (tl : Int32) (cde : Int32) (mm : Int32) (mr : Int32) (ati : Int32) (ors : Int32) (zs : Nat → Int32) (zv : Nat → Int32) (zt : Nat → Int32) (zp : Nat → Int32) (zm : Nat → Int32) (zk : Nat → Int32) (va : Int32) (htl : tl = nI tl.toNatClampNeg) (ht80 : tl.toNatClampNeg ≤ 80) : Met l yX9_type wqX9_type ({ frames := 1, cells := 0, slots := 0, locals := 22 } : Room) (va_Pc [.ref q0, .int va] (pC (dC, dI) [(q0, .inr (9, [.ref q1, .ref q2, .int svc, .ref q3, .int tl, .int cde, .int mm, .int mr, .ref q4, .int ati, .int ors, .ref q5, .ref q6])), (q1, .inl (cyI, 246, .inl zs)), (q2, .inl (cyI, 984, .inl zv)), (q3, .inl (cyI, 80, .inl zt)), (q4, .inl (cyI, 5, .inl zp)), (q5, .inl (cyI, 40, .inl zm)), (q6, .inl (cyI, 40, .inl zk))] [(cyI, .int)] eM sz)) (va_Qi (fun (r : Int32) (u : Int32 × Int32 × Int32 × (Nat → Int32)) => u = (m_type tl zt va) ∧ r = u.1) (fun (u : Int32 × Int32 × Int32 × (Nat → Int32)) t => va_P (dC, dI) vwCl [(q0, .inr (9, [.ref q1, .ref q2, .int svc, .ref q3, .int (u.2.1), .int (u.2.2.1), .int mm, .int mr, .ref q4, .int ati, .int ors, .ref q5, .ref q6])), (q1, .inl (cyI, 246, .inl zs)), (q2, .inl (cyI, 984, .inl zv)), (q3, .inl (cyI, 80, .inl (u.2.2.2))), (q4, .inl (cyI, 5, .inl zp)), (q5, .inl (cyI, 40, .inl zm)), (q6, .inl (cyI, 40, .inl zk))] t.heap ∧ va_D (va_A [(q0, .inr (9, [.ref q1, .ref q2, .int svc, .ref q3, .int tl, .int cde, .int mm, .int mr, .ref q4, .int ati, .int ors, .ref q5, .ref q6])), (q1, .inl (cyI, 246, .inl zs)), (q2, .inl (cyI, 984, .inl zv)), (q3, .inl (cyI, 80, .inl zt)), (q4, .inl (cyI, 5, .inl zp)), (q5, .inl (cyI, 40, .inl zm)), (q6, .inl (cyI, 40, .inl zk))] sz) [(q0, .inr (9, [.ref q1, .ref q2, .int svc, .ref q3, .int (u.2.1), .int (u.2.2.1), .int mm, .int mr, .ref q4, .int ati, .int ors, .ref q5, .ref q6])), (q1, .inl (cyI, 246, .inl zs)), (q2, .inl (cyI, 984, .inl zv)), (q3, .inl (cyI, 80, .inl (u.2.2.2))), (q4, .inl (cyI, 5, .inl zp)), (q5, .inl (cyI, 40, .inl zm)), (q6, .inl (cyI, 40, .inl zk))]) (va_A [(q0, .inr (9, [.ref q1, .ref q2, .int svc, .ref q3, .int tl, .int cde, .int mm, .int mr, .ref q4, .int ati, .int ors, .ref q5, .ref q6])), (q1, .inl (cyI, 246, .inl zs)), (q2, .inl (cyI, 984, .inl zv)), (q3, .inl (cyI, 80, .inl zt)), (q4, .inl (cyI, 5, .inl zp)), (q5, .inl (cyI, 40, .inl zm)), (q6, .inl (cyI, 40, .inl zk))] sz)) 0 0 (va_A [(q0, .inr (9, [.ref q1, .ref q2, .int svc, .ref q3, .int tl, .int cde, .int mm, .int mr, .ref q4, .int ati, .int ors, .ref q5, .ref q6])), (q1, .inl (cyI, 246, .inl zs)), (q2, .inl (cyI, 984, .inl zv)), (q3, .inl (cyI, 80, .inl zt)), (q4, .inl (cyI, 5, .inl zp)), (q5, .inl (cyI, 40, .inl zm)), (q6, .inl (cyI, 40, .inl zk))] sz) := by
  refine Met.ofW (cc := cX9_type) (maxL := 2) (ret := (some .int)) (by decide) rfl ?_
  intro p e s m args below meth c s₁ B hml hv
  obtain ⟨rfl, hsz, hP, hK, hD0, he⟩ := hv
  have hx := B.exec
  have hb := B.bytes
  have hr := B.returns
  have hts := atoms_spec (ws := wqX9_type) B.pre
  have hown : s.vm.findClass RX9 = some m.cls := findClass_of_methodNamed B.named
  have hlocks := B.notSynchronized
  have w_0 := hts (Cond.fieldLink RX9 28 "CraneLimiterModel" "code" "I") (List.mem_cons_of_mem _ b_181)
  have w_1 := hts (Cond.fieldLink RX9 215 "CraneLimiterModel" "textLength" "I") (List.mem_cons_of_mem _ b_921)
  have w_2 := hts (Cond.fieldLink RX9 16 "CraneLimiterModel" "text" "[I") (List.mem_cons_of_mem _ b_95)
  have i_X9 : ∀ w ∈ u_ws RX9 TX9 13, w ∈ wqX9_type := fun w h => List.mem_cons_of_mem _ (bX9 w h)
  subst hsz
  have hD := hD0.self (sz := s.heap.size)
  generalize hAe : va_A [(q0, .inr (9, [.ref q1, .ref q2, .int svc, .ref q3, .int tl, .int cde, .int mm, .int mr, .ref q4, .int ati, .int ors, .ref q5, .ref q6])), (q1, .inl (cyI, 246, .inl zs)), (q2, .inl (cyI, 984, .inl zv)), (q3, .inl (cyI, 80, .inl zt)), (q4, .inl (cyI, 5, .inl zp)), (q5, .inl (cyI, 40, .inl zm)), (q6, .inl (cyI, 40, .inl zk))] s.heap.size = A at hD he ⊢
  have hA : ∀ q : Nat, s.heap.size ≤ q → A q := fun q h => by rw [← hAe]; exact Or.inr h
  have hS : va_S A s.heap s.heap [] := va_S.rf
  have hP : va_P (dC, dI) vwCl [(q0, .inr (9, [.ref q1, .ref q2, .int svc, .ref q3, .int tl, .int cde, .int mm, .int mr, .ref q4, .int ati, .int ors, .ref q5, .ref q6])), (q1, .inl (cyI, 246, .inl zs)), (q2, .inl (cyI, 984, .inl zv)), (q3, .inl (cyI, 80, .inl zt)), (q4, .inl (cyI, 5, .inl zp)), (q5, .inl (cyI, 40, .inl zm)), (q6, .inl (cyI, 40, .inl zk))] s.heap := hP
  have hl := lv_entry ([.ref q0, .int va] : List Value) (n := 2) (Nat.le_of_ble_eq_true rfl)
  rw [lg_entry_eq]
  generalize (lg_sl ([.ref q0, .int va] : List Value) ++ List.replicate (2 - (lg_sl ([.ref q0, .int va] : List Value)).length) Slot.unset).toArray = ls at hl ⊢
  have hl : lv_has ls 2 [(0, .ref q0), (1, .int va)] := hl
  have hE : m_type tl zt va = m_type tl zt va := rfl
  refine lv_aload_n hx hb dX9_type_0 rfl (lv_at hl 0 rfl) ?_
  refine lv_iconst (v := 0) hx hb dX9_type_1 (by decide) ?_
  refine va_put (D := (dC, dI)) (ci := 9) (v := .int (0 : Int32)) (ty := .int) (C := RX9) (T := TX9) (N := 13) hx hb hts i_X9 tyX9 tyX9_ok nmX9 hown hK hP hD hS 0 rfl rfl 5 (by decide) w_0 (fun _ h9 => h9) rfl (by decide +kernel) (rfl) (rfl) (Nat.le_of_ble_eq_true rfl) dX9_type_2 (fun H locs hP hD hS => ?_)
  have hP : va_P (dC, dI) vwCl [(q0, .inr (9, [.ref q1, .ref q2, .int svc, .ref q3, .int tl, .int (0 : Int32), .int mm, .int mr, .ref q4, .int ati, .int ors, .ref q5, .ref q6])), (q1, .inl (cyI, 246, .inl zs)), (q2, .inl (cyI, 984, .inl zv)), (q3, .inl (cyI, 80, .inl zt)), (q4, .inl (cyI, 5, .inl zp)), (q5, .inl (cyI, 40, .inl zm)), (q6, .inl (cyI, 40, .inl zk))] H := hP
  have hD : va_D A [(q0, .inr (9, [.ref q1, .ref q2, .int svc, .ref q3, .int tl, .int (0 : Int32), .int mm, .int mr, .ref q4, .int ati, .int ors, .ref q5, .ref q6])), (q1, .inl (cyI, 246, .inl zs)), (q2, .inl (cyI, 984, .inl zv)), (q3, .inl (cyI, 80, .inl zt)), (q4, .inl (cyI, 5, .inl zp)), (q5, .inl (cyI, 40, .inl zm)), (q6, .inl (cyI, 40, .inl zk))] := hD
  refine lv_iload_n hx hb dX9_type_5 rfl (lv_at hl 1 rfl) ?_
  refine lv_iconst (v := 0) hx hb dX9_type_6 (by decide) ?_
  refine lv_bipush (v := 127) hx hb dX9_type_7 (by decide) ?_
  refine vp_callSi (W.runS (As := [.int va, .int (0 : Int32), .int (127 : Int32)]) (rest := []) ⟨hx, hb, hml, hown, hts⟩ (c_X9_in l dC dI cyI va (0 : Int32) (127 : Int32)) (va_cwS 3 hts (gBS b_182 b_183 b_5 b_184) rfl rfl rfl (by decide +kernel) ⟨Nat.le_of_ble_eq_true rfl, Nat.le_of_ble_eq_true rfl⟩) (pre_s eM_ok he hS (hP.sub (ws' := []) [] rfl) (hK.sub (tys' := []) [] rfl)) rfl rfl hl.1 rfl (lv_room (Nat.le_of_ble_eq_true rfl)) dX9_type_9 ⟨Nat.zero_le _, Nat.zero_le _⟩) (fun r_1 hr_1 => ?_)
  obtain ⟨hr_1, hbr_1⟩ := hr_1
  have hE := hE.trans (spLet_eq hr_1)
  refine lv_if_ne (tgt := 21) hx hb dX9_type_12 (by decide) (fun c_2 => ?_) (fun c_2 => ?_)
  ·
    have hE := hE.trans (if_neg c_2)
    refine lv_aload_n hx hb dX9_type_21 rfl (lv_at hl 0 rfl) ?_
    refine va_get (D := (dC, dI)) (ci := 9) (v := .int tl) (C := RX9) (T := TX9) (N := 13) hx hb hts i_X9 hown hK hP 0 rfl rfl 4 (by decide) w_1 (fun _ h9 => h9) rfl dX9_type_22 ?_
    refine lv_bipush (v := 80) hx hb dX9_type_25 (by decide) ?_
    refine lv_icmp_ne (tgt := 36) hx hb dX9_type_27 (by decide) (fun c_3 => ?_) (fun c_3 => ?_)
    ·
      have c_3 : ¬ tl.toNatClampNeg = 80 := by
        have h1 : (tl) = nI tl.toNatClampNeg := htl
        have h2 : ((80 : Int32)) = nI 80 := rfl
        have h3 : ¬ (nI tl.toNatClampNeg = nI 80) := by first | exact c_3 | (rw [← h1, ← h2]; exact c_3)
        exact fun h => h3 ((nI_eq (by omega) (by omega)).mpr h)
      have hE := hE.trans (if_neg c_3)
      refine lv_aload_n hx hb dX9_type_36 rfl (lv_at hl 0 rfl) ?_
      refine va_get (D := (dC, dI)) (ci := 9) (v := .ref q3) (C := RX9) (T := TX9) (N := 13) hx hb hts i_X9 hown hK hP 0 rfl rfl 3 (by decide) w_2 (fun _ h9 => h9) rfl dX9_type_37 ?_
      refine lv_aload_n hx hb dX9_type_40 rfl (lv_at hl 0 rfl) ?_
      refine va_get (D := (dC, dI)) (ci := 9) (v := .int tl) (C := RX9) (T := TX9) (N := 13) hx hb hts i_X9 hown hK hP 0 rfl rfl 4 (by decide) w_1 (fun _ h9 => h9) rfl dX9_type_41 ?_
      refine lv_iload_n hx hb dX9_type_44 rfl (lv_at hl 1 rfl) ?_
      refine ra_st hx hb hK hP hD hS 3 0 rfl rfl (j := tl.toNatClampNeg) htl (by omega) (by omega) dX9_type_45 (fun H locs hP hD hS => ?_)
      have hP : va_P (dC, dI) vwCl [(q0, .inr (9, [.ref q1, .ref q2, .int svc, .ref q3, .int tl, .int (0 : Int32), .int mm, .int mr, .ref q4, .int ati, .int ors, .ref q5, .ref q6])), (q1, .inl (cyI, 246, .inl zs)), (q2, .inl (cyI, 984, .inl zv)), (q3, .inl (cyI, 80, .inl (upd zt (tl.toNatClampNeg) va))), (q4, .inl (cyI, 5, .inl zp)), (q5, .inl (cyI, 40, .inl zm)), (q6, .inl (cyI, 40, .inl zk))] H := hP
      have hD : va_D A [(q0, .inr (9, [.ref q1, .ref q2, .int svc, .ref q3, .int tl, .int (0 : Int32), .int mm, .int mr, .ref q4, .int ati, .int ors, .ref q5, .ref q6])), (q1, .inl (cyI, 246, .inl zs)), (q2, .inl (cyI, 984, .inl zv)), (q3, .inl (cyI, 80, .inl (upd zt (tl.toNatClampNeg) va))), (q4, .inl (cyI, 5, .inl zp)), (q5, .inl (cyI, 40, .inl zm)), (q6, .inl (cyI, 40, .inl zk))] := hD
      obtain ⟨f_4, ef_4⟩ : ∃ y : Nat → Int32, y = upd zt (tl.toNatClampNeg) va := ⟨_, rfl⟩
      rw [← ef_4] at hP hD
      have hE := hE.trans (spLet_eq ef_4)
      refine lv_aload_n hx hb dX9_type_46 rfl (lv_at hl 0 rfl) ?_
      refine lv_dup hx hb dX9_type_47 rfl ?_
      refine va_get (D := (dC, dI)) (ci := 9) (v := .int tl) (C := RX9) (T := TX9) (N := 13) hx hb hts i_X9 hown hK hP 0 rfl rfl 4 (by decide) w_1 (fun _ h9 => h9) rfl dX9_type_48 ?_
      refine lv_iconst (v := 1) hx hb dX9_type_51 (by decide) ?_
      refine lv_iadd hx hb dX9_type_52 ?_
      refine lv_topi (fun y_5 ey_5 => ?_)
      obtain rfl : y_5 = nI (tl.toNatClampNeg + 1) := ey_5.trans (nadd htl (rfl : (1 : Int32) = nI 1))
      refine va_put (D := (dC, dI)) (ci := 9) (v := .int (nI (tl.toNatClampNeg + 1))) (ty := .int) (C := RX9) (T := TX9) (N := 13) hx hb hts i_X9 tyX9 tyX9_ok nmX9 hown hK hP hD hS 0 rfl rfl 4 (by decide) w_1 (fun _ h9 => h9) rfl (by decide +kernel) (rfl) (rfl) (Nat.le_of_ble_eq_true rfl) dX9_type_53 (fun H locs hP hD hS => ?_)
      have hP : va_P (dC, dI) vwCl [(q0, .inr (9, [.ref q1, .ref q2, .int svc, .ref q3, .int (nI (tl.toNatClampNeg + 1)), .int (0 : Int32), .int mm, .int mr, .ref q4, .int ati, .int ors, .ref q5, .ref q6])), (q1, .inl (cyI, 246, .inl zs)), (q2, .inl (cyI, 984, .inl zv)), (q3, .inl (cyI, 80, .inl f_4)), (q4, .inl (cyI, 5, .inl zp)), (q5, .inl (cyI, 40, .inl zm)), (q6, .inl (cyI, 40, .inl zk))] H := hP
      have hD : va_D A [(q0, .inr (9, [.ref q1, .ref q2, .int svc, .ref q3, .int (nI (tl.toNatClampNeg + 1)), .int (0 : Int32), .int mm, .int mr, .ref q4, .int ati, .int ors, .ref q5, .ref q6])), (q1, .inl (cyI, 246, .inl zs)), (q2, .inl (cyI, 984, .inl zv)), (q3, .inl (cyI, 80, .inl f_4)), (q4, .inl (cyI, 5, .inl zp)), (q5, .inl (cyI, 40, .inl zm)), (q6, .inl (cyI, 40, .inl zk))] := hD
      refine lv_aload_n hx hb dX9_type_56 rfl (lv_at hl 0 rfl) ?_
      refine va_get (D := (dC, dI)) (ci := 9) (v := .int (nI (tl.toNatClampNeg + 1))) (C := RX9) (T := TX9) (N := 13) hx hb hts i_X9 hown hK hP 0 rfl rfl 4 (by decide) w_1 (fun _ h9 => h9) rfl dX9_type_57 ?_
      exact W.iret (v := (nI (tl.toNatClampNeg + 1))) hx hb hr (fun t h9 hW => ⟨⟨(nI (tl.toNatClampNeg + 1)), (((nI (tl.toNatClampNeg + 1)), (nI (tl.toNatClampNeg + 1)), (0 : Int32), f_4) : Int32 × Int32 × Int32 × (Nat → Int32)), rfl, ⟨hE.symm, rfl⟩, by rw [h9]; exact hP, hD⟩, hS.F h9⟩) hS.2.2 dX9_type_60
    ·
      have c_3 : tl.toNatClampNeg = 80 := by
        have h1 : (tl) = nI tl.toNatClampNeg := htl
        have h2 : ((80 : Int32)) = nI 80 := rfl
        have h3 : (nI tl.toNatClampNeg = nI 80) := by first | exact c_3 | (rw [← h1, ← h2]; exact c_3)
        exact (nI_eq (by omega) (by omega)).mp h3
      have hE := hE.trans (if_pos c_3)
      refine lv_aload_n hx hb dX9_type_30 rfl (lv_at hl 0 rfl) ?_
      refine lv_iconst (v := 2) hx hb dX9_type_31 (by decide) ?_
      refine mj_i (wr := []) (va_runV (As := [.int (2 : Int32)]) (rest := []) ⟨hx, hb, hml, hown, hts⟩ (c_X9_fails l dC dI cyI H.size q0 q1 q2 q3 q4 q5 q6 svc tl (0 : Int32) mm mr ati ors zs zv zt zp zm zk (2 : Int32)) (cwV 1 hts (gBV b_185 b_186 b_187 b_5 b_188) rfl rfl rfl (by decide +kernel) ⟨Nat.le_of_ble_eq_true rfl, Nat.le_of_ble_eq_true rfl⟩) (prm_v eM_ok he hS hP hD hK (va_free (wc := [(q0, .inr (9, [.ref q1, .ref q2, .int svc, .ref q3, .int tl, .int (0 : Int32), .int mm, .int mr, .ref q4, .int ati, .int ors, .ref q5, .ref q6])), (q1, .inl (cyI, 246, .inl zs)), (q2, .inl (cyI, 984, .inl zv)), (q3, .inl (cyI, 80, .inl zt)), (q4, .inl (cyI, 5, .inl zp)), (q5, .inl (cyI, 40, .inl zm)), (q6, .inl (cyI, 40, .inl zk))]) hD hS hA [0, 1, 2, 3, 4, 5, 6] rfl) 0 rfl rfl rfl) rfl rfl hl.1 rfl (lv_room (Nat.le_of_ble_eq_true rfl)) dX9_type_32 ⟨Nat.le_of_ble_eq_true rfl, Nat.le_of_ble_eq_true rfl⟩) hP hD hS hA [0, 1, 2, 3, 4, 5, 6] [] rfl rfl (by decide) (by decide) (fun r_7 u_6 H locs hw hP hD hS => ?_)
      obtain ⟨hu_6, rfl⟩ := hw
      have hE := hE.trans (spLet_eq hu_6)
      have hP : va_P (dC, dI) vwCl [(q0, .inr (9, [.ref q1, .ref q2, .int svc, .ref q3, .int tl, .int (u_6.2), .int mm, .int mr, .ref q4, .int ati, .int ors, .ref q5, .ref q6])), (q1, .inl (cyI, 246, .inl zs)), (q2, .inl (cyI, 984, .inl zv)), (q3, .inl (cyI, 80, .inl zt)), (q4, .inl (cyI, 5, .inl zp)), (q5, .inl (cyI, 40, .inl zm)), (q6, .inl (cyI, 40, .inl zk))] H := hP
      have hD : va_D A [(q0, .inr (9, [.ref q1, .ref q2, .int svc, .ref q3, .int tl, .int (u_6.2), .int mm, .int mr, .ref q4, .int ati, .int ors, .ref q5, .ref q6])), (q1, .inl (cyI, 246, .inl zs)), (q2, .inl (cyI, 984, .inl zv)), (q3, .inl (cyI, 80, .inl zt)), (q4, .inl (cyI, 5, .inl zp)), (q5, .inl (cyI, 40, .inl zm)), (q6, .inl (cyI, 40, .inl zk))] := hD
      exact W.iret (v := (u_6.1)) hx hb hr (fun t h9 hW => ⟨⟨(u_6.1), (((u_6.1), tl, (u_6.2), zt) : Int32 × Int32 × Int32 × (Nat → Int32)), rfl, ⟨hE.symm, rfl⟩, by rw [h9]; exact hP, hD⟩, hS.F h9⟩) hS.2.2 dX9_type_35
  ·
    have hE := hE.trans (if_pos c_2)
    refine lv_aload_n hx hb dX9_type_15 rfl (lv_at hl 0 rfl) ?_
    refine lv_iconst (v := 1) hx hb dX9_type_16 (by decide) ?_
    refine mj_i (wr := []) (va_runV (As := [.int (1 : Int32)]) (rest := []) ⟨hx, hb, hml, hown, hts⟩ (c_X9_fails l dC dI cyI H.size q0 q1 q2 q3 q4 q5 q6 svc tl (0 : Int32) mm mr ati ors zs zv zt zp zm zk (1 : Int32)) (cwV 1 hts (gBV b_185 b_186 b_187 b_5 b_188) rfl rfl rfl (by decide +kernel) ⟨Nat.le_of_ble_eq_true rfl, Nat.le_of_ble_eq_true rfl⟩) (prm_v eM_ok he hS hP hD hK (va_free (wc := [(q0, .inr (9, [.ref q1, .ref q2, .int svc, .ref q3, .int tl, .int (0 : Int32), .int mm, .int mr, .ref q4, .int ati, .int ors, .ref q5, .ref q6])), (q1, .inl (cyI, 246, .inl zs)), (q2, .inl (cyI, 984, .inl zv)), (q3, .inl (cyI, 80, .inl zt)), (q4, .inl (cyI, 5, .inl zp)), (q5, .inl (cyI, 40, .inl zm)), (q6, .inl (cyI, 40, .inl zk))]) hD hS hA [0, 1, 2, 3, 4, 5, 6] rfl) 0 rfl rfl rfl) rfl rfl hl.1 rfl (lv_room (Nat.le_of_ble_eq_true rfl)) dX9_type_17 ⟨Nat.le_of_ble_eq_true rfl, Nat.le_of_ble_eq_true rfl⟩) hP hD hS hA [0, 1, 2, 3, 4, 5, 6] [] rfl rfl (by decide) (by decide) (fun r_9 u_8 H locs hw hP hD hS => ?_)
    obtain ⟨hu_8, rfl⟩ := hw
    have hE := hE.trans (spLet_eq hu_8)
    have hP : va_P (dC, dI) vwCl [(q0, .inr (9, [.ref q1, .ref q2, .int svc, .ref q3, .int tl, .int (u_8.2), .int mm, .int mr, .ref q4, .int ati, .int ors, .ref q5, .ref q6])), (q1, .inl (cyI, 246, .inl zs)), (q2, .inl (cyI, 984, .inl zv)), (q3, .inl (cyI, 80, .inl zt)), (q4, .inl (cyI, 5, .inl zp)), (q5, .inl (cyI, 40, .inl zm)), (q6, .inl (cyI, 40, .inl zk))] H := hP
    have hD : va_D A [(q0, .inr (9, [.ref q1, .ref q2, .int svc, .ref q3, .int tl, .int (u_8.2), .int mm, .int mr, .ref q4, .int ati, .int ors, .ref q5, .ref q6])), (q1, .inl (cyI, 246, .inl zs)), (q2, .inl (cyI, 984, .inl zv)), (q3, .inl (cyI, 80, .inl zt)), (q4, .inl (cyI, 5, .inl zp)), (q5, .inl (cyI, 40, .inl zm)), (q6, .inl (cyI, 40, .inl zk))] := hD
    exact W.iret (v := (u_8.1)) hx hb hr (fun t h9 hW => ⟨⟨(u_8.1), (((u_8.1), tl, (u_8.2), zt) : Int32 × Int32 × Int32 × (Nat → Int32)), rfl, ⟨hE.symm, rfl⟩, by rw [h9]; exact hP, hD⟩, hS.F h9⟩) hS.2.2 dX9_type_20
def m_clearText (tl : Int32) : Int32 × Int32 × Int32 :=
  (tl, (0 : Int32), (0 : Int32))
set_option maxHeartbeats 1000000 in
set_option maxRecDepth 100000 in
theorem c_X9_clearText (l : Launch) (dC : Nat → ClassId) (dI : Nat → Nat → Nat) (cyI : ClassId) (sz : Nat) (q0 : Nat) (q1 : Nat) (q2 : Nat) (q3 : Nat) (q4 : Nat) (q5 : Nat) (q6 : Nat) (svc : Int32) (tl : Int32) (cde : Int32) (mm : Int32) (mr : Int32) (ati : Int32) (ors : Int32) (zs : Nat → Int32) (zv : Nat → Int32) (zt : Nat → Int32) (zp : Nat → Int32) (zm : Nat → Int32) (zk : Nat → Int32) : Met l yX9_clearText wqX9_clearText ({ frames := 0, cells := 0, slots := 0, locals := 0 } : Room) (va_Pc [.ref q0] (pC (dC, dI) [(q0, .inr (9, [.ref q1, .ref q2, .int svc, .ref q3, .int tl, .int cde, .int mm, .int mr, .ref q4, .int ati, .int ors, .ref q5, .ref q6])), (q1, .inl (cyI, 246, .inl zs)), (q2, .inl (cyI, 984, .inl zv)), (q3, .inl (cyI, 80, .inl zt)), (q4, .inl (cyI, 5, .inl zp)), (q5, .inl (cyI, 40, .inl zm)), (q6, .inl (cyI, 40, .inl zk))] [(cyI, .int)] eM sz)) (va_Qi (fun (r : Int32) (u : Int32 × Int32 × Int32) => u = (m_clearText tl) ∧ r = u.1) (fun (u : Int32 × Int32 × Int32) t => va_P (dC, dI) vwCl [(q0, .inr (9, [.ref q1, .ref q2, .int svc, .ref q3, .int (u.2.1), .int (u.2.2), .int mm, .int mr, .ref q4, .int ati, .int ors, .ref q5, .ref q6])), (q1, .inl (cyI, 246, .inl zs)), (q2, .inl (cyI, 984, .inl zv)), (q3, .inl (cyI, 80, .inl zt)), (q4, .inl (cyI, 5, .inl zp)), (q5, .inl (cyI, 40, .inl zm)), (q6, .inl (cyI, 40, .inl zk))] t.heap ∧ va_D (va_A [(q0, .inr (9, [.ref q1, .ref q2, .int svc, .ref q3, .int tl, .int cde, .int mm, .int mr, .ref q4, .int ati, .int ors, .ref q5, .ref q6])), (q1, .inl (cyI, 246, .inl zs)), (q2, .inl (cyI, 984, .inl zv)), (q3, .inl (cyI, 80, .inl zt)), (q4, .inl (cyI, 5, .inl zp)), (q5, .inl (cyI, 40, .inl zm)), (q6, .inl (cyI, 40, .inl zk))] sz) [(q0, .inr (9, [.ref q1, .ref q2, .int svc, .ref q3, .int (u.2.1), .int (u.2.2), .int mm, .int mr, .ref q4, .int ati, .int ors, .ref q5, .ref q6])), (q1, .inl (cyI, 246, .inl zs)), (q2, .inl (cyI, 984, .inl zv)), (q3, .inl (cyI, 80, .inl zt)), (q4, .inl (cyI, 5, .inl zp)), (q5, .inl (cyI, 40, .inl zm)), (q6, .inl (cyI, 40, .inl zk))]) (va_A [(q0, .inr (9, [.ref q1, .ref q2, .int svc, .ref q3, .int tl, .int cde, .int mm, .int mr, .ref q4, .int ati, .int ors, .ref q5, .ref q6])), (q1, .inl (cyI, 246, .inl zs)), (q2, .inl (cyI, 984, .inl zv)), (q3, .inl (cyI, 80, .inl zt)), (q4, .inl (cyI, 5, .inl zp)), (q5, .inl (cyI, 40, .inl zm)), (q6, .inl (cyI, 40, .inl zk))] sz)) 0 0 (va_A [(q0, .inr (9, [.ref q1, .ref q2, .int svc, .ref q3, .int tl, .int cde, .int mm, .int mr, .ref q4, .int ati, .int ors, .ref q5, .ref q6])), (q1, .inl (cyI, 246, .inl zs)), (q2, .inl (cyI, 984, .inl zv)), (q3, .inl (cyI, 80, .inl zt)), (q4, .inl (cyI, 5, .inl zp)), (q5, .inl (cyI, 40, .inl zm)), (q6, .inl (cyI, 40, .inl zk))] sz) := by
  refine Met.ofW (cc := cX9_clearText) (maxL := 2) (ret := (some .int)) (by decide) rfl ?_
  intro p e s m args below meth c s₁ B hml hv
  obtain ⟨rfl, hsz, hP, hK, hD0, he⟩ := hv
  have hx := B.exec
  have hb := B.bytes
  have hr := B.returns
  have hts := atoms_spec (ws := wqX9_clearText) B.pre
  have hown : s.vm.findClass RX9 = some m.cls := findClass_of_methodNamed B.named
  have hlocks := B.notSynchronized
  have w_0 := hts (Cond.fieldLink RX9 28 "CraneLimiterModel" "code" "I") (List.mem_cons_of_mem _ b_181)
  have w_1 := hts (Cond.fieldLink RX9 215 "CraneLimiterModel" "textLength" "I") (List.mem_cons_of_mem _ b_921)
  have i_X9 : ∀ w ∈ u_ws RX9 TX9 13, w ∈ wqX9_clearText := fun w h => List.mem_cons_of_mem _ (bX9 w h)
  subst hsz
  have hD := hD0.self (sz := s.heap.size)
  generalize hAe : va_A [(q0, .inr (9, [.ref q1, .ref q2, .int svc, .ref q3, .int tl, .int cde, .int mm, .int mr, .ref q4, .int ati, .int ors, .ref q5, .ref q6])), (q1, .inl (cyI, 246, .inl zs)), (q2, .inl (cyI, 984, .inl zv)), (q3, .inl (cyI, 80, .inl zt)), (q4, .inl (cyI, 5, .inl zp)), (q5, .inl (cyI, 40, .inl zm)), (q6, .inl (cyI, 40, .inl zk))] s.heap.size = A at hD he ⊢
  have hA : ∀ q : Nat, s.heap.size ≤ q → A q := fun q h => by rw [← hAe]; exact Or.inr h
  have hS : va_S A s.heap s.heap [] := va_S.rf
  have hP : va_P (dC, dI) vwCl [(q0, .inr (9, [.ref q1, .ref q2, .int svc, .ref q3, .int tl, .int cde, .int mm, .int mr, .ref q4, .int ati, .int ors, .ref q5, .ref q6])), (q1, .inl (cyI, 246, .inl zs)), (q2, .inl (cyI, 984, .inl zv)), (q3, .inl (cyI, 80, .inl zt)), (q4, .inl (cyI, 5, .inl zp)), (q5, .inl (cyI, 40, .inl zm)), (q6, .inl (cyI, 40, .inl zk))] s.heap := hP
  have hl := lv_entry ([.ref q0] : List Value) (n := 2) (Nat.le_of_ble_eq_true rfl)
  rw [lg_entry_eq]
  generalize (lg_sl ([.ref q0] : List Value) ++ List.replicate (2 - (lg_sl ([.ref q0] : List Value)).length) Slot.unset).toArray = ls at hl ⊢
  have hl : lv_has ls 2 [(0, .ref q0)] := hl
  have hE : m_clearText tl = m_clearText tl := rfl
  refine lv_aload_n hx hb dX9_clearText_0 rfl (lv_at hl 0 rfl) ?_
  refine lv_iconst (v := 0) hx hb dX9_clearText_1 (by decide) ?_
  refine va_put (D := (dC, dI)) (ci := 9) (v := .int (0 : Int32)) (ty := .int) (C := RX9) (T := TX9) (N := 13) hx hb hts i_X9 tyX9 tyX9_ok nmX9 hown hK hP hD hS 0 rfl rfl 5 (by decide) w_0 (fun _ h9 => h9) rfl (by decide +kernel) (rfl) (rfl) (Nat.le_of_ble_eq_true rfl) dX9_clearText_2 (fun H locs hP hD hS => ?_)
  have hP : va_P (dC, dI) vwCl [(q0, .inr (9, [.ref q1, .ref q2, .int svc, .ref q3, .int tl, .int (0 : Int32), .int mm, .int mr, .ref q4, .int ati, .int ors, .ref q5, .ref q6])), (q1, .inl (cyI, 246, .inl zs)), (q2, .inl (cyI, 984, .inl zv)), (q3, .inl (cyI, 80, .inl zt)), (q4, .inl (cyI, 5, .inl zp)), (q5, .inl (cyI, 40, .inl zm)), (q6, .inl (cyI, 40, .inl zk))] H := hP
  have hD : va_D A [(q0, .inr (9, [.ref q1, .ref q2, .int svc, .ref q3, .int tl, .int (0 : Int32), .int mm, .int mr, .ref q4, .int ati, .int ors, .ref q5, .ref q6])), (q1, .inl (cyI, 246, .inl zs)), (q2, .inl (cyI, 984, .inl zv)), (q3, .inl (cyI, 80, .inl zt)), (q4, .inl (cyI, 5, .inl zp)), (q5, .inl (cyI, 40, .inl zm)), (q6, .inl (cyI, 40, .inl zk))] := hD
  refine lv_aload_n hx hb dX9_clearText_5 rfl (lv_at hl 0 rfl) ?_
  refine va_get (D := (dC, dI)) (ci := 9) (v := .int tl) (C := RX9) (T := TX9) (N := 13) hx hb hts i_X9 hown hK hP 0 rfl rfl 4 (by decide) w_1 (fun _ h9 => h9) rfl dX9_clearText_6 ?_
  refine lv_istore_n (lv' := [(1, .int tl), (0, .ref q0)]) hx hb dX9_clearText_9 rfl hl (by decide) rfl (fun ls hl => ?_)
  refine lv_aload_n hx hb dX9_clearText_10 rfl (lv_at hl 1 rfl) ?_
  refine lv_iconst (v := 0) hx hb dX9_clearText_11 (by decide) ?_
  refine va_put (D := (dC, dI)) (ci := 9) (v := .int (0 : Int32)) (ty := .int) (C := RX9) (T := TX9) (N := 13) hx hb hts i_X9 tyX9 tyX9_ok nmX9 hown hK hP hD hS 0 rfl rfl 4 (by decide) w_1 (fun _ h9 => h9) rfl (by decide +kernel) (rfl) (rfl) (Nat.le_of_ble_eq_true rfl) dX9_clearText_12 (fun H locs hP hD hS => ?_)
  have hP : va_P (dC, dI) vwCl [(q0, .inr (9, [.ref q1, .ref q2, .int svc, .ref q3, .int (0 : Int32), .int (0 : Int32), .int mm, .int mr, .ref q4, .int ati, .int ors, .ref q5, .ref q6])), (q1, .inl (cyI, 246, .inl zs)), (q2, .inl (cyI, 984, .inl zv)), (q3, .inl (cyI, 80, .inl zt)), (q4, .inl (cyI, 5, .inl zp)), (q5, .inl (cyI, 40, .inl zm)), (q6, .inl (cyI, 40, .inl zk))] H := hP
  have hD : va_D A [(q0, .inr (9, [.ref q1, .ref q2, .int svc, .ref q3, .int (0 : Int32), .int (0 : Int32), .int mm, .int mr, .ref q4, .int ati, .int ors, .ref q5, .ref q6])), (q1, .inl (cyI, 246, .inl zs)), (q2, .inl (cyI, 984, .inl zv)), (q3, .inl (cyI, 80, .inl zt)), (q4, .inl (cyI, 5, .inl zp)), (q5, .inl (cyI, 40, .inl zm)), (q6, .inl (cyI, 40, .inl zk))] := hD
  refine lv_iload_n hx hb dX9_clearText_15 rfl (lv_at hl 0 rfl) ?_
  exact W.iret (v := tl) hx hb hr (fun t h9 hW => ⟨⟨tl, ((tl, (0 : Int32), (0 : Int32)) : Int32 × Int32 × Int32), rfl, ⟨hE.symm, rfl⟩, by rw [h9]; exact hP, hD⟩, hS.F h9⟩) hS.2.2 dX9_clearText_16

