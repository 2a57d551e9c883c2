def m_massBy (su : Int64) (arm : Int32) : Int32 :=
  if 0 ≤ (lg_cmp su (0 : Int64)) then ((su / arm.toInt64).toInt32) else (0 : Int32)
set_option maxHeartbeats 1000000 in
set_option maxRecDepth 100000 in
theorem c_X9_massBy (l : Launch) (dC : Nat → ClassId) (dI : Nat → Nat → Nat) (cyI : ClassId) (q0 : Nat) (q1 : Nat) (q2 : Nat) (q3 : Nat) (q4 : Nat) (q5 : Nat) (q6 : Nat) (svc : Int32) (tl : Int32) (cde : Int32) (mm : Int32) (mr : Int32) (ati : Int32) (ors : Int32) (zs : Nat → Int32) (zv : Nat → Int32) (zt : Nat → Int32) (zp : Nat → Int32) (zm : Nat → Int32) (zk : Nat → Int32) (su : Int64) (arm : Int32) (harm : ¬ arm = 0) : Met l yX9_massBy wqX9_massBy ({ frames := 0, cells := 0, slots := 0, locals := 0 } : Room) (va_Pc [.ref q0, .long su, .int arm] (pB (dC, dI) [(q0, .inr (9, [.ref q1, .ref q2, .int svc, .ref q3, .int tl, .int cde, .int mm, .int mr, .ref q4, .int ati, .int ors, .ref q5, .ref q6])), (q1, .inl (cyI, 246, .inl zs)), (q2, .inl (cyI, 984, .inl zv)), (q3, .inl (cyI, 80, .inl zt)), (q4, .inl (cyI, 5, .inl zp)), (q5, .inl (cyI, 40, .inl zm)), (q6, .inl (cyI, 40, .inl zk))] [(cyI, .int)] eM)) (vp_Si (fun r => r = (m_massBy su arm))) 0 0 aF := by
  refine Met.ofW (cc := cX9_massBy) (maxL := 4) (ret := (some .int)) (by decide) rfl ?_
  intro p e s m args below meth c s₁ B hml hv
  obtain ⟨rfl, hP, hK, he⟩ := hv
  have hx := B.exec
  have hb := B.bytes
  have hr := B.returns
  have hts := atoms_spec (ws := wqX9_massBy) B.pre
  have hown : s.vm.findClass RX9 = some m.cls := findClass_of_methodNamed B.named
  have hlocks := B.notSynchronized
  have hS : va_S aF s.heap s.heap [] := va_S.rf
  have hP : va_P (dC, dI) vwCl [(q0, .inr (9, [.ref q1, .ref q2, .int svc, .ref q3, .int tl, .int cde, .int mm, .int mr, .ref q4, .int ati, .int ors, .ref q5, .ref q6])), (q1, .inl (cyI, 246, .inl zs)), (q2, .inl (cyI, 984, .inl zv)), (q3, .inl (cyI, 80, .inl zt)), (q4, .inl (cyI, 5, .inl zp)), (q5, .inl (cyI, 40, .inl zm)), (q6, .inl (cyI, 40, .inl zk))] s.heap := hP
  have hl := lv_entry ([.ref q0, .long su, .int arm] : List Value) (n := 4) (Nat.le_of_ble_eq_true rfl)
  rw [lg_entry_eq]
  generalize (lg_sl ([.ref q0, .long su, .int arm] : List Value) ++ List.replicate (4 - (lg_sl ([.ref q0, .long su, .int arm] : List Value)).length) Slot.unset).toArray = ls at hl ⊢
  have hl : lv_has ls 4 [(0, .ref q0), (1, .long su), (3, .int arm)] := hl
  have hE : m_massBy su arm = m_massBy su arm := rfl
  refine lv_lload_n hx hb dX9_massBy_0 rfl (lv_at hl 1 rfl) ?_
  refine lv_lconst (v := 0) hx hb dX9_massBy_1 (by decide) ?_
  refine W.lcmp hx hb dX9_massBy_2 ?_
  refine lv_if_ge (tgt := 10) hx hb dX9_massBy_3 (by decide) (fun c_1 => ?_) (fun c_1 => ?_)
  ·
    have hE := hE.trans (if_pos c_1)
    refine lv_lload_n hx hb dX9_massBy_10 rfl (lv_at hl 1 rfl) ?_
    refine lv_iload_n hx hb dX9_massBy_11 rfl (lv_at hl 2 rfl) ?_
    refine lv_i2l hx hb dX9_massBy_12 rfl ?_
    refine lv_ldiv hx hb dX9_massBy_13 (ne0_l harm) ?_
    refine lv_l2i hx hb dX9_massBy_14 rfl ?_
    exact W.iret (v := (su / arm.toInt64).toInt32) hx hb hr (fun t ht hW => ⟨_, rfl, hE.symm, ht⟩) (fun q h => by cases h) dX9_massBy_15
  ·
    have hE := hE.trans (if_neg c_1)
    refine lv_iconst (v := 0) hx hb dX9_massBy_6 (by decide) ?_
    refine lv_goto (tgt := 15) hx hb dX9_massBy_7 (by decide) ?_
    exact W.iret (v := (0 : Int32)) hx hb hr (fun t ht hW => ⟨_, rfl, hE.symm, ht⟩) (fun q h => by cases h) dX9_massBy_15
def mSum (zs : Nat → Int32) : Int64 := ((500 : Int64) * (m_pressure zs).toInt64) - m_moment zs
def mArm (zs : Nat → Int32) : Prop := ∃ P : Int32 → Prop, (¬ (m_radius zs + 150 = 0) ∧ P (m_massBy (mSum zs) (m_radius zs + 150))) ∧ ∀ q : Int32, P q → (¬ (m_radius zs + m_deflection zs q.toInt64 + 150 = 0) ∧ P (m_massBy (mSum zs) (m_radius zs + m_deflection zs q.toInt64 + 150)))
def m_measure_b37 (zs : Nat → Int32) (x_3 : Int64) (r_4 : Int32) (rec37 : Nat → Int32 → Int32 → (Int32 × Int32)) : Nat → Int32 → Int32 → (Int32 × Int32) :=
  fun k4_37 w0_6_37 w0_7_37 => if 3 ≤ k4_37 then ((w0_6_37, w0_7_37)) else (spLet (m_deflection zs w0_6_37.toInt64) (fun r_7 => spLet ((r_4 + r_7)) (fun x_8 => spLet (m_massBy x_3 (x_8 + (150 : Int32))) (fun r_9 => rec37 (k4_37 + 1) r_9 x_8))))
def m_measure (mr : Int32) (zs : Nat → Int32) : Int32 × Int32 :=
  spLet (m_pressure zs) (fun r_1 => spLet (m_moment zs) (fun r_2 => spLet ((((500 : Int64) * r_1.toInt64) - r_2)) (fun x_3 => spLet (m_radius zs) (fun r_4 => spLet (m_massBy x_3 (r_4 + (150 : Int32))) (fun r_5 => spIter (fun _ _ _ => default) (m_measure_b37 zs x_3 r_4) 4 0 r_5 mr)))))
set_option maxHeartbeats 1000000 in
set_option maxRecDepth 100000 in
theorem c_X9_measure (l : Launch) (dC : Nat → ClassId) (dI : Nat → Nat → Nat) (cyI : ClassId) (sz : Nat) (q0 : Nat) (q1 : Nat) (q2 : Nat) (q3 : Nat) (q4 : Nat) (q5 : Nat) (q6 : Nat) (svc : Int32) (tl : Int32) (cde : Int32) (mm : Int32) (mr : Int32) (ati : Int32) (ors : Int32) (zs : Nat → Int32) (zv : Nat → Int32) (zt : Nat → Int32) (zp : Nat → Int32) (zm : Nat → Int32) (zk : Nat → Int32) (hm : mArm zs) : Met l yX9_measure wqX9_measure ({ frames := 6, cells := 0, slots := 0, locals := 125 } : Room) (va_Pc [.ref q0] (pC (dC, dI) [(q0, .inr (9, [.ref q1, .ref q2, .int svc, .ref q3, .int tl, .int cde, .int mm, .int mr, .ref q4, .int ati, .int ors, .ref q5, .ref q6])), (q1, .inl (cyI, 246, .inl zs)), (q2, .inl (cyI, 984, .inl zv)), (q3, .inl (cyI, 80, .inl zt)), (q4, .inl (cyI, 5, .inl zp)), (q5, .inl (cyI, 40, .inl zm)), (q6, .inl (cyI, 40, .inl zk))] [(cyI, .int)] eM sz)) (va_Qv (fun u : Int32 × Int32 => u = (m_measure mr zs)) (fun (u : Int32 × Int32) t => va_P (dC, dI) vwCl [(q0, .inr (9, [.ref q1, .ref q2, .int svc, .ref q3, .int tl, .int cde, .int (u.1), .int (u.2), .ref q4, .int ati, .int ors, .ref q5, .ref q6])), (q1, .inl (cyI, 246, .inl zs)), (q2, .inl (cyI, 984, .inl zv)), (q3, .inl (cyI, 80, .inl zt)), (q4, .inl (cyI, 5, .inl zp)), (q5, .inl (cyI, 40, .inl zm)), (q6, .inl (cyI, 40, .inl zk))] t.heap ∧ va_D (va_A [(q0, .inr (9, [.ref q1, .ref q2, .int svc, .ref q3, .int tl, .int cde, .int mm, .int mr, .ref q4, .int ati, .int ors, .ref q5, .ref q6])), (q1, .inl (cyI, 246, .inl zs)), (q2, .inl (cyI, 984, .inl zv)), (q3, .inl (cyI, 80, .inl zt)), (q4, .inl (cyI, 5, .inl zp)), (q5, .inl (cyI, 40, .inl zm)), (q6, .inl (cyI, 40, .inl zk))] sz) [(q0, .inr (9, [.ref q1, .ref q2, .int svc, .ref q3, .int tl, .int cde, .int (u.1), .int (u.2), .ref q4, .int ati, .int ors, .ref q5, .ref q6])), (q1, .inl (cyI, 246, .inl zs)), (q2, .inl (cyI, 984, .inl zv)), (q3, .inl (cyI, 80, .inl zt)), (q4, .inl (cyI, 5, .inl zp)), (q5, .inl (cyI, 40, .inl zm)), (q6, .inl (cyI, 40, .inl zk))]) (va_A [(q0, .inr (9, [.ref q1, .ref q2, .int svc, .ref q3, .int tl, .int cde, .int mm, .int mr, .ref q4, .int ati, .int ors, .ref q5, .ref q6])), (q1, .inl (cyI, 246, .inl zs)), (q2, .inl (cyI, 984, .inl zv)), (q3, .inl (cyI, 80, .inl zt)), (q4, .inl (cyI, 5, .inl zp)), (q5, .inl (cyI, 40, .inl zm)), (q6, .inl (cyI, 40, .inl zk))] sz)) 0 0 (va_A [(q0, .inr (9, [.ref q1, .ref q2, .int svc, .ref q3, .int tl, .int cde, .int mm, .int mr, .ref q4, .int ati, .int ors, .ref q5, .ref q6])), (q1, .inl (cyI, 246, .inl zs)), (q2, .inl (cyI, 984, .inl zv)), (q3, .inl (cyI, 80, .inl zt)), (q4, .inl (cyI, 5, .inl zp)), (q5, .inl (cyI, 40, .inl zm)), (q6, .inl (cyI, 40, .inl zk))] sz) := by
  refine Met.ofW (cc := cX9_measure) (maxL := 5) (ret := none) (by decide) rfl ?_
  intro p e s m args below meth c s₁ B hml hv
  obtain ⟨rfl, hsz, hP, hK, hD0, he⟩ := hv
  have hx := B.exec
  have hb := B.bytes
  have hr := B.returns
  have hts := atoms_spec (ws := wqX9_measure) B.pre
  have hown : s.vm.findClass RX9 = some m.cls := findClass_of_methodNamed B.named
  have hlocks := B.notSynchronized
  have w_0 := hts (Cond.constantLong RX9 69 (500)) (List.mem_cons_of_mem _ b_681)
  have w_1 := hts (Cond.fieldLink RX9 78 "CraneLimiterModel" "measuredMass" "I") (List.mem_cons_of_mem _ b_682)
  have w_2 := hts (Cond.fieldLink RX9 81 "CraneLimiterModel" "measuredRadius" "I") (List.mem_cons_of_mem _ b_683)
  have i_X9 : ∀ w ∈ u_ws RX9 TX9 13, w ∈ wqX9_measure := fun w h => List.mem_cons_of_mem _ (bX9 w h)
  subst hsz
  have hD := hD0.self (sz := s.heap.size)
  generalize hAe : va_A [(q0, .inr (9, [.ref q1, .ref q2, .int svc, .ref q3, .int tl, .int cde, .int mm, .int mr, .ref q4, .int ati, .int ors, .ref q5, .ref q6])), (q1, .inl (cyI, 246, .inl zs)), (q2, .inl (cyI, 984, .inl zv)), (q3, .inl (cyI, 80, .inl zt)), (q4, .inl (cyI, 5, .inl zp)), (q5, .inl (cyI, 40, .inl zm)), (q6, .inl (cyI, 40, .inl zk))] s.heap.size = A at hD he ⊢
  have hA : ∀ q : Nat, s.heap.size ≤ q → A q := fun q h => by rw [← hAe]; exact Or.inr h
  have hS : va_S A s.heap s.heap [] := va_S.rf
  have hP : va_P (dC, dI) vwCl [(q0, .inr (9, [.ref q1, .ref q2, .int svc, .ref q3, .int tl, .int cde, .int mm, .int mr, .ref q4, .int ati, .int ors, .ref q5, .ref q6])), (q1, .inl (cyI, 246, .inl zs)), (q2, .inl (cyI, 984, .inl zv)), (q3, .inl (cyI, 80, .inl zt)), (q4, .inl (cyI, 5, .inl zp)), (q5, .inl (cyI, 40, .inl zm)), (q6, .inl (cyI, 40, .inl zk))] s.heap := hP
  have hl := lv_entry ([.ref q0] : List Value) (n := 5) (Nat.le_of_ble_eq_true rfl)
  rw [lg_entry_eq]
  generalize (lg_sl ([.ref q0] : List Value) ++ List.replicate (5 - (lg_sl ([.ref q0] : List Value)).length) Slot.unset).toArray = ls at hl ⊢
  have hl : lv_has ls 5 [(0, .ref q0)] := hl
  have hE : m_measure mr zs = m_measure mr zs := rfl
  obtain ⟨P, hP0, hPs⟩ := hm
  refine lv_ldc2 (v := 500) hx hb hown w_0 dX9_measure_0 ?_
  refine lv_aload_n hx hb dX9_measure_3 rfl (lv_at hl 0 rfl) ?_
  refine vp_callSi (W.runV (As := []) (rest := [.long (500 : Int64)]) ⟨hx, hb, hml, hown, hts⟩ (c_X9_pressure l dC dI cyI q0 q1 q2 q3 q4 q5 q6 svc tl cde mm mr ati ors zs zv zt zp zm zk) (cwV 0 hts (gBV b_684 b_685 b_686 b_5 b_687) rfl rfl rfl (by decide +kernel) ⟨Nat.le_of_ble_eq_true rfl, Nat.le_of_ble_eq_true rfl⟩) (pre_v eM_ok he hS hP hK 0 rfl rfl rfl) rfl rfl hl.1 rfl (lv_room (Nat.le_of_ble_eq_true rfl)) dX9_measure_4 ⟨Nat.zero_le _, Nat.zero_le _⟩) (fun r_1 hr_1 => ?_)
  have hE := hE.trans (spLet_eq hr_1)
  refine lv_i2l hx hb dX9_measure_7 rfl ?_
  refine lv_lmul hx hb dX9_measure_8 ?_
  refine lv_aload_n hx hb dX9_measure_9 rfl (lv_at hl 0 rfl) ?_
  refine vp_callSl (W.runV (As := []) (rest := [.long ((500 : Int64) * r_1.toInt64)]) ⟨hx, hb, hml, hown, hts⟩ (c_X9_moment l dC dI cyI q0 q1 q2 q3 q4 q5 q6 svc tl cde mm mr ati ors zs zv zt zp zm zk) (cwV 0 hts (gBV b_693 b_694 b_695 b_5 b_696) rfl rfl rfl (by decide +kernel) ⟨Nat.le_of_ble_eq_true rfl, Nat.le_of_ble_eq_true rfl⟩) (pre_v eM_ok he hS hP hK 0 rfl rfl rfl) rfl rfl hl.1 rfl (lv_room (Nat.le_of_ble_eq_true rfl)) dX9_measure_10 ⟨Nat.zero_le _, Nat.zero_le _⟩) (fun r_2 hr_2 => ?_)
  have hE := hE.trans (spLet_eq hr_2)
  refine lv_lsub hx hb dX9_measure_13 ?_
  refine lv_topl (fun x_3 ex_3 => ?_)
  have hE := hE.trans (spLet_eq ex_3)
  refine lv_lstore_n (lv' := [(1, .long x_3), (0, .ref q0)]) hx hb dX9_measure_14 rfl hl (by decide) rfl (fun ls hl => ?_)
  refine lv_aload_n hx hb dX9_measure_15 rfl (lv_at hl 1 rfl) ?_
  refine vp_callSi (W.runV (As := []) (rest := []) ⟨hx, hb, hml, hown, hts⟩ (c_X9_radius l dC dI cyI q0 q1 q2 q3 q4 q5 q6 svc tl cde mm mr ati ors zs zv zt zp zm zk) (cwV 0 hts (gBV b_380 b_381 b_382 b_5 b_383) rfl rfl rfl (by decide +kernel) ⟨Nat.le_of_ble_eq_true rfl, Nat.le_of_ble_eq_true rfl⟩) (pre_v eM_ok he hS hP hK 0 rfl rfl rfl) rfl rfl hl.1 rfl (lv_room (Nat.le_of_ble_eq_true rfl)) dX9_measure_16 ⟨Nat.zero_le _, Nat.zero_le _⟩) (fun r_4 hr_4 => ?_)
  have hE := hE.trans (spLet_eq hr_4)
  refine lv_istore_n (lv' := [(3, .int r_4), (1, .long x_3), (0, .ref q0)]) hx hb dX9_measure_19 rfl hl (by decide) rfl (fun ls hl => ?_)
  refine lv_aload_n hx hb dX9_measure_20 rfl (lv_at hl 2 rfl) ?_
  refine lv_aload_n hx hb dX9_measure_21 rfl (lv_at hl 2 rfl) ?_
  refine lv_lload_n hx hb dX9_measure_22 rfl (lv_at hl 1 rfl) ?_
  refine lv_iload_n hx hb dX9_measure_23 rfl (lv_at hl 0 rfl) ?_
  refine lv_sipush (v := 150) hx hb dX9_measure_24 (by decide) ?_
  refine lv_iadd hx hb dX9_measure_27 ?_
  refine vp_callSi (W.runV (As := [.long x_3, .int (r_4 + (150 : Int32))]) (rest := [.ref q0]) ⟨hx, hb, hml, hown, hts⟩ (c_X9_massBy l dC dI cyI q0 q1 q2 q3 q4 q5 q6 svc tl cde mm mr ati ors zs zv zt zp zm zk x_3 (r_4 + (150 : Int32)) (by rw [hr_4]; exact hP0.1)) (cwV 2 hts (gBV b_697 b_698 b_699 b_5 b_700) rfl rfl rfl (by decide +kernel) ⟨Nat.le_of_ble_eq_true rfl, Nat.le_of_ble_eq_true rfl⟩) (pre_v eM_ok he hS hP hK 0 rfl rfl rfl) rfl rfl hl.1 rfl (lv_room (Nat.le_of_ble_eq_true rfl)) dX9_measure_28 ⟨Nat.zero_le _, Nat.zero_le _⟩) (fun r_5 hr_5 => ?_)
  have hE := hE.trans (spLet_eq hr_5)
  refine va_put (D := (dC, dI)) (ci := 9) (v := .int r_5) (ty := .int) (C := RX9) (T := TX9) (N := 13) hx hb hts i_X9 tyX9 tyX9_ok nmX9 hown hK hP hD hS 0 rfl rfl 6 (by decide) w_1 (fun _ h9 => h9) rfl (by decide +kernel) (rfl) (rfl) (Nat.le_of_ble_eq_true rfl) dX9_measure_31 (fun H locs hP hD hS => ?_)
  have hP : va_P (dC, dI) vwCl [(q0, .inr (9, [.ref q1, .ref q2, .int svc, .ref q3, .int tl, .int cde, .int r_5, .int mr, .ref q4, .int ati, .int ors, .ref q5, .ref q6])), (q1, .inl (cyI, 246, .inl zs)), (q2, .inl (cyI, 984, .inl zv)), (q3, .inl (cyI, 80, .inl zt)), (q4, .inl (cyI, 5, .inl zp)), (q5, .inl (cyI, 40, .inl zm)), (q6, .inl (cyI, 40, .inl zk))] H := hP
  have hD : va_D A [(q0, .inr (9, [.ref q1, .ref q2, .int svc, .ref q3, .int tl, .int cde, .int r_5, .int mr, .ref q4, .int ati, .int ors, .ref q5, .ref q6])), (q1, .inl (cyI, 246, .inl zs)), (q2, .inl (cyI, 984, .inl zv)), (q3, .inl (cyI, 80, .inl zt)), (q4, .inl (cyI, 5, .inl zp)), (q5, .inl (cyI, 40, .inl zm)), (q6, .inl (cyI, 40, .inl zk))] := hD
  refine lv_iconst (v := 0) hx hb dX9_measure_34 (by decide) ?_
  refine lv_istore (lv' := [(4, .int (0 : Int32)), (3, .int r_4), (1, .long x_3), (0, .ref q0)]) hx hb dX9_measure_35 hl (by decide) rfl (fun ls hl => ?_)
  have L37 : ∀ (n37 : Nat) (k4_37 : Nat) (w0_6_37 : Int32) (w0_7_37 : Int32) (hi : P w0_6_37 ∧ k4_37 ≤ 3 ∧ 3 < k4_37 + n37) (H : Heap) (locs : List Loc) (hP : va_P (dC, dI) vwCl [(q0, .inr (9, [.ref q1, .ref q2, .int svc, .ref q3, .int tl, .int cde, .int w0_6_37, .int w0_7_37, .ref q4, .int ati, .int ors, .ref q5, .ref q6])), (q1, .inl (cyI, 246, .inl zs)), (q2, .inl (cyI, 984, .inl zv)), (q3, .inl (cyI, 80, .inl zt)), (q4, .inl (cyI, 5, .inl zp)), (q5, .inl (cyI, 40, .inl zm)), (q6, .inl (cyI, 40, .inl zk))] H) (hD : va_D A [(q0, .inr (9, [.ref q1, .ref q2, .int svc, .ref q3, .int tl, .int cde, .int w0_6_37, .int w0_7_37, .ref q4, .int ati, .int ors, .ref q5, .ref q6])), (q1, .inl (cyI, 246, .inl zs)), (q2, .inl (cyI, 984, .inl zv)), (q3, .inl (cyI, 80, .inl zt)), (q4, .inl (cyI, 5, .inl zp)), (q5, .inl (cyI, 40, .inl zm)), (q6, .inl (cyI, 40, .inl zk))]) (hS : va_S A s.heap H locs) (ls : Array Slot) (hl : lv_has ls 5 [(0, .ref q0), (1, .long x_3), (3, .int r_4), (4, .int (nI k4_37))]) (hE : (m_measure mr zs) = spIter (fun _ _ _ => default) (m_measure_b37 zs x_3 r_4) n37 k4_37 w0_6_37 w0_7_37), W p l e (headSpec wqX9_measure ({ frames := 6, cells := 0, slots := 0, locals := 125 } : Room)).room s m ([.ref q0] : List Value).toArray below meth c H locs 0 0 (MQ below (va_Qv (fun u : Int32 × Int32 => u = (m_measure mr zs)) (fun (u : Int32 × Int32) t => va_P (dC, dI) vwCl [(q0, .inr (9, [.ref q1, .ref q2, .int svc, .ref q3, .int tl, .int cde, .int (u.1), .int (u.2), .ref q4, .int ati, .int ors, .ref q5, .ref q6])), (q1, .inl (cyI, 246, .inl zs)), (q2, .inl (cyI, 984, .inl zv)), (q3, .inl (cyI, 80, .inl zt)), (q4, .inl (cyI, 5, .inl zp)), (q5, .inl (cyI, 40, .inl zm)), (q6, .inl (cyI, 40, .inl zk))] t.heap ∧ va_D A [(q0, .inr (9, [.ref q1, .ref q2, .int svc, .ref q3, .int tl, .int cde, .int (u.1), .int (u.2), .ref q4, .int ati, .int ors, .ref q5, .ref q6])), (q1, .inl (cyI, 246, .inl zs)), (q2, .inl (cyI, 984, .inl zv)), (q3, .inl (cyI, 80, .inl zt)), (q4, .inl (cyI, 5, .inl zp)), (q5, .inl (cyI, 40, .inl zm)), (q6, .inl (cyI, 40, .inl zk))]) A) ([.ref q0] : List Value).toArray s 0 0 A) (F0 m 37 ls []) := by
    intro n37
    induction n37 with
    | zero =>
      intro k4_37 w0_6_37 w0_7_37 hi H locs hP hD hS ls hl hE
      exact absurd hi (by omega)
    | succ n37 ih37 =>
      intro k4_37 w0_6_37 w0_7_37 hi H locs hP hD hS ls hl hE
      have hE : (m_measure mr zs) = m_measure_b37 zs x_3 r_4 (spIter (fun _ _ _ => default) (m_measure_b37 zs x_3 r_4) n37) k4_37 w0_6_37 w0_7_37 := hE
      refine lv_iload hx hb dX9_measure_37 (lv_at hl 3 rfl) ?_
      refine lv_iconst (v := 3) hx hb dX9_measure_39 (by decide) ?_
      refine lv_icmp_ge (tgt := 81) hx hb dX9_measure_40 (by decide) (fun c_6 => ?_) (fun c_6 => ?_)
      ·
        have c_6 : 3 ≤ k4_37 := by
          have h1 : ((nI k4_37)) = nI k4_37 := rfl
          have h2 : ((3 : Int32)) = nI 3 := rfl
          have h3 : (nI 3 ≤ nI k4_37) := by first | exact c_6 | (rw [← h1, ← h2]; exact c_6)
          exact (nI_leI (by omega) (by omega)).mp h3
        have hE := hE.trans (if_pos c_6)
        exact W.vret hx hb hr (fun t h9 hW => ⟨⟨((w0_6_37, w0_7_37) : Int32 × Int32), rfl, hE.symm, by rw [h9]; exact hP, hD⟩, hS.F h9⟩) hS.2.2 dX9_measure_81
      ·
        have c_6 : ¬ 3 ≤ k4_37 := by
          have h1 : ((nI k4_37)) = nI k4_37 := rfl
          have h2 : ((3 : Int32)) = nI 3 := rfl
          have h3 : ¬ (nI 3 ≤ nI k4_37) := by first | exact c_6 | (rw [← h1, ← h2]; exact c_6)
          exact fun h => h3 ((nI_leI (by omega) (by omega)).mpr h)
        have hE := hE.trans (if_neg c_6)
        refine lv_aload_n hx hb dX9_measure_43 rfl (lv_at hl 0 rfl) ?_
        refine lv_iload_n hx hb dX9_measure_44 rfl (lv_at hl 2 rfl) ?_
        refine lv_aload_n hx hb dX9_measure_45 rfl (lv_at hl 0 rfl) ?_
        refine lv_aload_n hx hb dX9_measure_46 rfl (lv_at hl 0 rfl) ?_
        refine va_get (D := (dC, dI)) (ci := 9) (v := .int w0_6_37) (C := RX9) (T := TX9) (N := 13) hx hb hts i_X9 hown hK hP 0 rfl rfl 6 (by decide) w_1 (fun _ h9 => h9) rfl dX9_measure_47 ?_
        refine lv_i2l hx hb dX9_measure_50 rfl ?_
        refine vp_callSi (W.runV (As := [.long w0_6_37.toInt64]) (rest := [.int r_4, .ref q0]) ⟨hx, hb, hml, hown, hts⟩ (c_X9_deflection l dC dI cyI q0 q1 q2 q3 q4 q5 q6 svc tl cde w0_6_37 w0_7_37 ati ors zs zv zt zp zm zk w0_6_37.toInt64) (cwV 1 hts (gBV b_688 b_689 b_690 b_5 b_691) rfl rfl rfl (by decide +kernel) ⟨Nat.le_of_ble_eq_true rfl, Nat.le_of_ble_eq_true rfl⟩) (pre_v eM_ok he hS hP hK 0 rfl rfl rfl) rfl rfl hl.1 rfl (lv_room (Nat.le_of_ble_eq_true rfl)) dX9_measure_51 ⟨Nat.zero_le _, Nat.zero_le _⟩) (fun r_7 hr_7 => ?_)
        have hE := hE.trans (spLet_eq hr_7)
        refine lv_iadd hx hb dX9_measure_54 ?_
        refine lv_topi (fun x_8 ex_8 => ?_)
        have hE := hE.trans (spLet_eq ex_8)
        refine va_put (D := (dC, dI)) (ci := 9) (v := .int x_8) (ty := .int) (C := RX9) (T := TX9) (N := 13) hx hb hts i_X9 tyX9 tyX9_ok nmX9 hown hK hP hD hS 0 rfl rfl 7 (by decide) w_2 (fun _ h9 => h9) rfl (by decide +kernel) (rfl) (rfl) (Nat.le_of_ble_eq_true rfl) dX9_measure_55 (fun H locs hP hD hS => ?_)
        have hP : va_P (dC, dI) vwCl [(q0, .inr (9, [.ref q1, .ref q2, .int svc, .ref q3, .int tl, .int cde, .int w0_6_37, .int x_8, .ref q4, .int ati, .int ors, .ref q5, .ref q6])), (q1, .inl (cyI, 246, .inl zs)), (q2, .inl (cyI, 984, .inl zv)), (q3, .inl (cyI, 80, .inl zt)), (q4, .inl (cyI, 5, .inl zp)), (q5, .inl (cyI, 40, .inl zm)), (q6, .inl (cyI, 40, .inl zk))] H := hP
        have hD : va_D A [(q0, .inr (9, [.ref q1, .ref q2, .int svc, .ref q3, .int tl, .int cde, .int w0_6_37, .int x_8, .ref q4, .int ati, .int ors, .ref q5, .ref q6])), (q1, .inl (cyI, 246, .inl zs)), (q2, .inl (cyI, 984, .inl zv)), (q3, .inl (cyI, 80, .inl zt)), (q4, .inl (cyI, 5, .inl zp)), (q5, .inl (cyI, 40, .inl zm)), (q6, .inl (cyI, 40, .inl zk))] := hD
        refine lv_aload_n hx hb dX9_measure_58 rfl (lv_at hl 0 rfl) ?_
        refine lv_aload_n hx hb dX9_measure_59 rfl (lv_at hl 0 rfl) ?_
        refine lv_lload_n hx hb dX9_measure_60 rfl (lv_at hl 1 rfl) ?_
        refine lv_aload_n hx hb dX9_measure_61 rfl (lv_at hl 0 rfl) ?_
        refine va_get (D := (dC, dI)) (ci := 9) (v := .int x_8) (C := RX9) (T := TX9) (N := 13) hx hb hts i_X9 hown hK hP 0 rfl rfl 7 (by decide) w_2 (fun _ h9 => h9) rfl dX9_measure_62 ?_
        refine lv_sipush (v := 150) hx hb dX9_measure_65 (by decide) ?_
        refine lv_iadd hx hb dX9_measure_68 ?_
        refine vp_callSi (W.runV (As := [.long x_3, .int (x_8 + (150 : Int32))]) (rest := [.ref q0]) ⟨hx, hb, hml, hown, hts⟩ (c_X9_massBy l dC dI cyI q0 q1 q2 q3 q4 q5 q6 svc tl cde w0_6_37 x_8 ati ors zs zv zt zp zm zk x_3 (x_8 + (150 : Int32)) (by rw [ex_8, hr_7, hr_4]; exact (hPs _ hi.1).1)) (cwV 2 hts (gBV b_697 b_698 b_699 b_5 b_700) rfl rfl rfl (by decide +kernel) ⟨Nat.le_of_ble_eq_true rfl, Nat.le_of_ble_eq_true rfl⟩) (pre_v eM_ok he hS hP hK 0 rfl rfl rfl) rfl rfl hl.1 rfl (lv_room (Nat.le_of_ble_eq_true rfl)) dX9_measure_69 ⟨Nat.zero_le _, Nat.zero_le _⟩) (fun r_9 hr_9 => ?_)
        have hE := hE.trans (spLet_eq hr_9)
        refine va_put (D := (dC, dI)) (ci := 9) (v := .int r_9) (ty := .int) (C := RX9) (T := TX9) (N := 13) hx hb hts i_X9 tyX9 tyX9_ok nmX9 hown hK hP hD hS 0 rfl rfl 6 (by decide) w_1 (fun _ h9 => h9) rfl (by decide +kernel) (rfl) (rfl) (Nat.le_of_ble_eq_true rfl) dX9_measure_72 (fun H locs hP hD hS => ?_)
        have hP : va_P (dC, dI) vwCl [(q0, .inr (9, [.ref q1, .ref q2, .int svc, .ref q3, .int tl, .int cde, .int r_9, .int x_8, .ref q4, .int ati, .int ors, .ref q5, .ref q6])), (q1, .inl (cyI, 246, .inl zs)), (q2, .inl (cyI, 984, .inl zv)), (q3, .inl (cyI, 80, .inl zt)), (q4, .inl (cyI, 5, .inl zp)), (q5, .inl (cyI, 40, .inl zm)), (q6, .inl (cyI, 40, .inl zk))] H := hP
        have hD : va_D A [(q0, .inr (9, [.ref q1, .ref q2, .int svc, .ref q3, .int tl, .int cde, .int r_9, .int x_8, .ref q4, .int ati, .int ors, .ref q5, .ref q6])), (q1, .inl (cyI, 246, .inl zs)), (q2, .inl (cyI, 984, .inl zv)), (q3, .inl (cyI, 80, .inl zt)), (q4, .inl (cyI, 5, .inl zp)), (q5, .inl (cyI, 40, .inl zm)), (q6, .inl (cyI, 40, .inl zk))] := hD
        refine lv_iinc (v := (nI (k4_37 + 1))) (lv' := [(4, .int (nI (k4_37 + 1))), (0, .ref q0), (1, .long x_3), (3, .int r_4)]) hx hb dX9_measure_75 hl (k := 3) rfl (show _ from (congrArg (fun z => z + Int32.ofInt 1) (rfl)).trans (ninc _ 1)) (by decide) rfl (fun ls hl => ?_)
        refine lv_goto (tgt := 37) hx hb dX9_measure_78 (by decide) ?_
        exact ih37 (k4_37 + 1) r_9 x_8 ⟨by rw [hr_9, ex_8, hr_7, hr_4, ex_3, hr_1, hr_2]; exact (hPs _ hi.1).2, by omega, by omega⟩ _ _ hP hD hS ls (lv_sub hl [1, 2, 3, 0] rfl) hE
  exact L37 4 0 r_5 mr ⟨by rw [hr_5, ex_3, hr_1, hr_2, hr_4]; exact hP0.2, by omega, by omega⟩ _ _ hP hD hS ls (lv_sub hl [3, 2, 1, 0] rfl) hE
def m_remember_b2 (zs : Nat → Int32) (rec2 : Nat → (Nat → Int32) → ((Nat → Int32))) : Nat → (Nat → Int32) → ((Nat → Int32)) :=
  fun k1_2 w4_a_2 => if 5 ≤ k1_2 then w4_a_2 else (spLet ((zs (k1_2))) (fun x_2 => spLet (upd w4_a_2 (k1_2) x_2) (fun f_3 => rec2 (k1_2 + 1) f_3)))
def m_remember (zs : Nat → Int32) (zp : Nat → Int32) : (Nat → Int32) :=
  spIter (fun _ _ => default) (m_remember_b2 zs) 6 0 zp
set_option maxHeartbeats 1000000 in
set_option maxRecDepth 100000 in
theorem c_X9_remember (l : Launch) (dC : Nat → ClassId) (dI : Nat → Nat → Nat) (cyI : ClassId) (sz : Nat) (q0 : Nat) (q1 : Nat) (q2 : Nat) (q3 : Nat) (q4 : Nat) (q5 : Nat) (q6 : Nat) (svc : Int32) (tl : Int32) (cde : Int32) (mm : Int32) (mr : Int32) (ati : Int32) (ors : Int32) (zs : Nat → Int32) (zv : Nat → Int32) (zt : Nat → Int32) (zp : Nat → Int32) (zm : Nat → Int32) (zk : Nat → Int32) : Met l yX9_remember wqX9_remember ({ frames := 0, cells := 0, slots := 0, locals := 0 } : Room) (va_Pc [.ref q0] (pC (dC, dI) [(q0, .inr (9, [.ref q1, .ref q2, .int svc, .ref q3, .int tl, .int cde, .int mm, .int mr, .ref q4, .int ati, .int ors, .ref q5, .ref q6])), (q1, .inl (cyI, 246, .inl zs)), (q2, .inl (cyI, 984, .inl zv)), (q3, .inl (cyI, 80, .inl zt)), (q4, .inl (cyI, 5, .inl zp)), (q5, .inl (cyI, 40, .inl zm)), (q6, .inl (cyI, 40, .inl zk))] [(cyI, .int)] eM sz)) (va_Qv (fun u : (Nat → Int32) => u = (m_remember zs zp)) (fun (u : (Nat → Int32)) t => va_P (dC, dI) vwCl [(q0, .inr (9, [.ref q1, .ref q2, .int svc, .ref q3, .int tl, .int cde, .int mm, .int mr, .ref q4, .int ati, .int ors, .ref q5, .ref q6])), (q1, .inl (cyI, 246, .inl zs)), (q2, .inl (cyI, 984, .inl zv)), (q3, .inl (cyI, 80, .inl zt)), (q4, .inl (cyI, 5, .inl u)), (q5, .inl (cyI, 40, .inl zm)), (q6, .inl (cyI, 40, .inl zk))] t.heap ∧ va_D (va_A [(q0, .inr (9, [.ref q1, .ref q2, .int svc, .ref q3, .int tl, .int cde, .int mm, .int mr, .ref q4, .int ati, .int ors, .ref q5, .ref q6])), (q1, .inl (cyI, 246, .inl zs)), (q2, .inl (cyI, 984, .inl zv)), (q3, .inl (cyI, 80, .inl zt)), (q4, .inl (cyI, 5, .inl zp)), (q5, .inl (cyI, 40, .inl zm)), (q6, .inl (cyI, 40, .inl zk))] sz) [(q0, .inr (9, [.ref q1, .ref q2, .int svc, .ref q3, .int tl, .int cde, .int mm, .int mr, .ref q4, .int ati, .int ors, .ref q5, .ref q6])), (q1, .inl (cyI, 246, .inl zs)), (q2, .inl (cyI, 984, .inl zv)), (q3, .inl (cyI, 80, .inl zt)), (q4, .inl (cyI, 5, .inl u)), (q5, .inl (cyI, 40, .inl zm)), (q6, .inl (cyI, 40, .inl zk))]) (va_A [(q0, .inr (9, [.ref q1, .ref q2, .int svc, .ref q3, .int tl, .int cde, .int mm, .int mr, .ref q4, .int ati, .int ors, .ref q5, .ref q6])), (q1, .inl (cyI, 246, .inl zs)), (q2, .inl (cyI, 984, .inl zv)), (q3, .inl (cyI, 80, .inl zt)), (q4, .inl (cyI, 5, .inl zp)), (q5, .inl (cyI, 40, .inl zm)), (q6, .inl (cyI, 40, .inl zk))] sz)) 0 0 (va_A [(q0, .inr (9, [.ref q1, .ref q2, .int svc, .ref q3, .int tl, .int cde, .int mm, .int mr, .ref q4, .int ati, .int ors, .ref q5, .ref q6])), (q1, .inl (cyI, 246, .inl zs)), (q2, .inl (cyI, 984, .inl zv)), (q3, .inl (cyI, 80, .inl zt)), (q4, .inl (cyI, 5, .inl zp)), (q5, .inl (cyI, 40, .inl zm)), (q6, .inl (cyI, 40, .inl zk))] sz) := by
  refine Met.ofW (cc := cX9_remember) (maxL := 2) (ret := none) (by decide) rfl ?_
  intro p e s m args below meth c s₁ B hml hv
  obtain ⟨rfl, hsz, hP, hK, hD0, he⟩ := hv
  have hx := B.exec
  have hb := B.bytes
  have hr := B.returns
  have hts := atoms_spec (ws := wqX9_remember) B.pre
  have hown : s.vm.findClass RX9 = some m.cls := findClass_of_methodNamed B.named
  have hlocks := B.notSynchronized
  have w_0 := hts (Cond.fieldLink RX9 19 "CraneLimiterModel" "place" "[I") (List.mem_cons_of_mem _ b_96)
  have w_1 := hts (Cond.fieldLink RX9 7 "CraneLimiterModel" "s" "[I") (List.mem_cons_of_mem _ b_93)
  have i_X9 : ∀ w ∈ u_ws RX9 TX9 13, w ∈ wqX9_remember := fun w h => List.mem_cons_of_mem _ (bX9 w h)
  subst hsz
  have hD := hD0.self (sz := s.heap.size)
  generalize hAe : va_A [(q0, .inr (9, [.ref q1, .ref q2, .int svc, .ref q3, .int tl, .int cde, .int mm, .int mr, .ref q4, .int ati, .int ors, .ref q5, .ref q6])), (q1, .inl (cyI, 246, .inl zs)), (q2, .inl (cyI, 984, .inl zv)), (q3, .inl (cyI, 80, .inl zt)), (q4, .inl (cyI, 5, .inl zp)), (q5, .inl (cyI, 40, .inl zm)), (q6, .inl (cyI, 40, .inl zk))] s.heap.size = A at hD he ⊢
  have hA : ∀ q : Nat, s.heap.size ≤ q → A q := fun q h => by rw [← hAe]; exact Or.inr h
  have hS : va_S A s.heap s.heap [] := va_S.rf
  have hP : va_P (dC, dI) vwCl [(q0, .inr (9, [.ref q1, .ref q2, .int svc, .ref q3, .int tl, .int cde, .int mm, .int mr, .ref q4, .int ati, .int ors, .ref q5, .ref q6])), (q1, .inl (cyI, 246, .inl zs)), (q2, .inl (cyI, 984, .inl zv)), (q3, .inl (cyI, 80, .inl zt)), (q4, .inl (cyI, 5, .inl zp)), (q5, .inl (cyI, 40, .inl zm)), (q6, .inl (cyI, 40, .inl zk))] s.heap := hP
  have hl := lv_entry ([.ref q0] : List Value) (n := 2) (Nat.le_of_ble_eq_true rfl)
  rw [lg_entry_eq]
  generalize (lg_sl ([.ref q0] : List Value) ++ List.replicate (2 - (lg_sl ([.ref q0] : List Value)).length) Slot.unset).toArray = ls at hl ⊢
  have hl : lv_has ls 2 [(0, .ref q0)] := hl
  have hE : m_remember zs zp = m_remember zs zp := rfl
  refine lv_iconst (v := 0) hx hb dX9_remember_0 (by decide) ?_
  refine lv_istore_n (lv' := [(1, .int (0 : Int32)), (0, .ref q0)]) hx hb dX9_remember_1 rfl hl (by decide) rfl (fun ls hl => ?_)
  have L2 : ∀ (n2 : Nat) (k1_2 : Nat) (w4_a_2 : Nat → Int32) (hi : k1_2 ≤ 5 ∧ 5 < k1_2 + n2) (H : Heap) (locs : List Loc) (hP : va_P (dC, dI) vwCl [(q0, .inr (9, [.ref q1, .ref q2, .int svc, .ref q3, .int tl, .int cde, .int mm, .int mr, .ref q4, .int ati, .int ors, .ref q5, .ref q6])), (q1, .inl (cyI, 246, .inl zs)), (q2, .inl (cyI, 984, .inl zv)), (q3, .inl (cyI, 80, .inl zt)), (q4, .inl (cyI, 5, .inl w4_a_2)), (q5, .inl (cyI, 40, .inl zm)), (q6, .inl (cyI, 40, .inl zk))] H) (hD : va_D A [(q0, .inr (9, [.ref q1, .ref q2, .int svc, .ref q3, .int tl, .int cde, .int mm, .int mr, .ref q4, .int ati, .int ors, .ref q5, .ref q6])), (q1, .inl (cyI, 246, .inl zs)), (q2, .inl (cyI, 984, .inl zv)), (q3, .inl (cyI, 80, .inl zt)), (q4, .inl (cyI, 5, .inl w4_a_2)), (q5, .inl (cyI, 40, .inl zm)), (q6, .inl (cyI, 40, .inl zk))]) (hS : va_S A s.heap H locs) (ls : Array Slot) (hl : lv_has ls 2 [(0, .ref q0), (1, .int (nI k1_2))]) (hE : (m_remember zs zp) = spIter (fun _ _ => default) (m_remember_b2 zs) n2 k1_2 w4_a_2), W p l e (headSpec wqX9_remember ({ frames := 0, cells := 0, slots := 0, locals := 0 } : Room)).room s m ([.ref q0] : List Value).toArray below meth c H locs 0 0 (MQ below (va_Qv (fun u : (Nat → Int32) => u = (m_remember zs zp)) (fun (u : (Nat → Int32)) t => va_P (dC, dI) vwCl [(q0, .inr (9, [.ref q1, .ref q2, .int svc, .ref q3, .int tl, .int cde, .int mm, .int mr, .ref q4, .int ati, .int ors, .ref q5, .ref q6])), (q1, .inl (cyI, 246, .inl zs)), (q2, .inl (cyI, 984, .inl zv)), (q3, .inl (cyI, 80, .inl zt)), (q4, .inl (cyI, 5, .inl u)), (q5, .inl (cyI, 40, .inl zm)), (q6, .inl (cyI, 40, .inl zk))] t.heap ∧ va_D A [(q0, .inr (9, [.ref q1, .ref q2, .int svc, .ref q3, .int tl, .int cde, .int mm, .int mr, .ref q4, .int ati, .int ors, .ref q5, .ref q6])), (q1, .inl (cyI, 246, .inl zs)), (q2, .inl (cyI, 984, .inl zv)), (q3, .inl (cyI, 80, .inl zt)), (q4, .inl (cyI, 5, .inl u)), (q5, .inl (cyI, 40, .inl zm)), (q6, .inl (cyI, 40, .inl zk))]) A) ([.ref q0] : List Value).toArray s 0 0 A) (F0 m 2 ls []) := by
    intro n2
    induction n2 with
    | zero =>
      intro k1_2 w4_a_2 hi H locs hP hD hS ls hl hE
      exact absurd hi (by omega)
    | succ n2 ih2 =>
      intro k1_2 w4_a_2 hi H locs hP hD hS ls hl hE
      have hE : (m_remember zs zp) = m_remember_b2 zs (spIter (fun _ _ => default) (m_remember_b2 zs) n2) k1_2 w4_a_2 := hE
      refine lv_iload_n hx hb dX9_remember_2 rfl (lv_at hl 1 rfl) ?_
      refine lv_iconst (v := 5) hx hb dX9_remember_3 (by decide) ?_
      refine lv_icmp_ge (tgt := 25) hx hb dX9_remember_4 (by decide) (fun c_1 => ?_) (fun c_1 => ?_)
      ·
        have c_1 : 5 ≤ k1_2 := by
          have h1 : ((nI k1_2)) = nI k1_2 := rfl
          have h2 : ((5 : Int32)) = nI 5 := rfl
          have h3 : (nI 5 ≤ nI k1_2) := by first | exact c_1 | (rw [← h1, ← h2]; exact c_1)
          exact (nI_leI (by omega) (by omega)).mp h3
        have hE := hE.trans (if_pos c_1)
        exact W.vret hx hb hr (fun t h9 hW => ⟨⟨(w4_a_2 : (Nat → Int32)), rfl, hE.symm, by rw [h9]; exact hP, hD⟩, hS.F h9⟩) hS.2.2 dX9_remember_25
      ·
        have c_1 : ¬ 5 ≤ k1_2 := by
          have h1 : ((nI k1_2)) = nI k1_2 := rfl
          have h2 : ((5 : Int32)) = nI 5 := rfl
          have h3 : ¬ (nI 5 ≤ nI k1_2) := by first | exact c_1 | (rw [← h1, ← h2]; exact c_1)
          exact fun h => h3 ((nI_leI (by omega) (by omega)).mpr h)
        have hE := hE.trans (if_neg c_1)
        refine lv_aload_n hx hb dX9_remember_7 rfl (lv_at hl 0 rfl) ?_
        refine va_get (D := (dC, dI)) (ci := 9) (v := .ref q4) (C := RX9) (T := TX9) (N := 13) hx hb hts i_X9 hown hK hP 0 rfl rfl 8 (by decide) w_0 (fun _ h9 => h9) rfl dX9_remember_8 ?_
        refine lv_iload_n hx hb dX9_remember_11 rfl (lv_at hl 1 rfl) ?_
        refine lv_aload_n hx hb dX9_remember_12 rfl (lv_at hl 0 rfl) ?_
        refine va_get (D := (dC, dI)) (ci := 9) (v := .ref q1) (C := RX9) (T := TX9) (N := 13) hx hb hts i_X9 hown hK hP 0 rfl rfl 0 (by decide) w_1 (fun _ h9 => h9) rfl dX9_remember_13 ?_
        refine lv_iload_n hx hb dX9_remember_16 rfl (lv_at hl 1 rfl) ?_
        refine ra_ld hx hb hK hP 1 0 rfl rfl (j := k1_2) (rfl : (nI k1_2) = nI k1_2) (by omega) (by omega) dX9_remember_17 ?_
        refine lv_topi (fun x_2 ex_2 => ?_)
        have hE := hE.trans (spLet_eq ex_2)
        refine ra_st hx hb hK hP hD hS 4 0 rfl rfl (j := k1_2) (rfl : (nI k1_2) = nI k1_2) (by omega) (by omega) dX9_remember_18 (fun H locs hP hD hS => ?_)
        have hP : va_P (dC, dI) vwCl [(q0, .inr (9, [.ref q1, .ref q2, .int svc, .ref q3, .int tl, .int cde, .int mm, .int mr, .ref q4, .int ati, .int ors, .ref q5, .ref q6])), (q1, .inl (cyI, 246, .inl zs)), (q2, .inl (cyI, 984, .inl zv)), (q3, .inl (cyI, 80, .inl zt)), (q4, .inl (cyI, 5, .inl (upd w4_a_2 (k1_2) x_2))), (q5, .inl (cyI, 40, .inl zm)), (q6, .inl (cyI, 40, .inl zk))] H := hP
        have hD : va_D A [(q0, .inr (9, [.ref q1, .ref q2, .int svc, .ref q3, .int tl, .int cde, .int mm, .int mr, .ref q4, .int ati, .int ors, .ref q5, .ref q6])), (q1, .inl (cyI, 246, .inl zs)), (q2, .inl (cyI, 984, .inl zv)), (q3, .inl (cyI, 80, .inl zt)), (q4, .inl (cyI, 5, .inl (upd w4_a_2 (k1_2) x_2))), (q5, .inl (cyI, 40, .inl zm)), (q6, .inl (cyI, 40, .inl zk))] := hD
        obtain ⟨f_3, ef_3⟩ : ∃ y : Nat → Int32, y = upd w4_a_2 (k1_2) x_2 := ⟨_, rfl⟩
        rw [← ef_3] at hP hD
        have hE := hE.trans (spLet_eq ef_3)
        refine lv_iinc (v := (nI (k1_2 + 1))) (lv' := [(1, .int (nI (k1_2 + 1))), (0, .ref q0)]) hx hb dX9_remember_19 hl (k := 1) rfl (show _ from (congrArg (fun z => z + Int32.ofInt 1) (rfl)).trans (ninc _ 1)) (by decide) rfl (fun ls hl => ?_)
        refine lv_goto (tgt := 2) hx hb dX9_remember_22 (by decide) ?_
        exact ih2 (k1_2 + 1) f_3 (by omega) _ _ hP hD hS ls (lv_sub hl [1, 0] rfl) hE
  exact L2 6 0 zp (by omega) _ _ hP hD hS ls (lv_sub hl [1, 0] rfl) hE
def m_takeBack_b2 (zp : Nat → Int32) (rec2 : Nat → (Nat → Int32) → ((Nat → Int32))) : Nat → (Nat → Int32) → ((Nat → Int32)) :=
  fun k1_2 w1_a_2 => if 5 ≤ k1_2 then w1_a_2 else (spLet ((zp (k1_2))) (fun x_2 => spLet (upd w1_a_2 (k1_2) x_2) (fun f_3 => rec2 (k1_2 + 1) f_3)))
def m_takeBack (zs : Nat → Int32) (zp : Nat → Int32) : (Nat → Int32) :=
  spIter (fun _ _ => default) (m_takeBack_b2 zp) 6 0 zs
set_option maxHeartbeats 1000000 in
set_option maxRecDepth 100000 in
theorem c_X9_takeBack (l : Launch) (dC : Nat → ClassId) (dI : Nat → Nat → Nat) (cyI : ClassId) (sz : Nat) (q0 : Nat) (q1 : Nat) (q2 : Nat) (q3 : Nat) (q4 : Nat) (q5 : Nat) (q6 : Nat) (svc : Int32) (tl : Int32) (cde : Int32) (mm : Int32) (mr : Int32) (ati : Int32) (ors : Int32) (zs : Nat → Int32) (zv : Nat → Int32) (zt : Nat → Int32) (zp : Nat → Int32) (zm : Nat → Int32) (zk : Nat → Int32) : Met l yX9_takeBack wqX9_takeBack ({ frames := 0, cells := 0, slots := 0, locals := 0 } : Room) (va_Pc [.ref q0] (pC (dC, dI) [(q0, .inr (9, [.ref q1, .ref q2, .int svc, .ref q3, .int tl, .int cde, .int mm, .int mr, .ref q4, .int ati, .int ors, .ref q5, .ref q6])), (q1, .inl (cyI, 246, .inl zs)), (q2, .inl (cyI, 984, .inl zv)), (q3, .inl (cyI, 80, .inl zt)), (q4, .inl (cyI, 5, .inl zp)), (q5, .inl (cyI, 40, .inl zm)), (q6, .inl (cyI, 40, .inl zk))] [(cyI, .int)] eM sz)) (va_Qv (fun u : (Nat → Int32) => u = (m_takeBack zs zp)) (fun (u : (Nat → Int32)) t => va_P (dC, dI) vwCl [(q0, .inr (9, [.ref q1, .ref q2, .int svc, .ref q3, .int tl, .int cde, .int mm, .int mr, .ref q4, .int ati, .int ors, .ref q5, .ref q6])), (q1, .inl (cyI, 246, .inl u)), (q2, .inl (cyI, 984, .inl zv)), (q3, .inl (cyI, 80, .inl zt)), (q4, .inl (cyI, 5, .inl zp)), (q5, .inl (cyI, 40, .inl zm)), (q6, .inl (cyI, 40, .inl zk))] t.heap ∧ va_D (va_A [(q0, .inr (9, [.ref q1, .ref q2, .int svc, .ref q3, .int tl, .int cde, .int mm, .int mr, .ref q4, .int ati, .int ors, .ref q5, .ref q6])), (q1, .inl (cyI, 246, .inl zs)), (q2, .inl (cyI, 984, .inl zv)), (q3, .inl (cyI, 80, .inl zt)), (q4, .inl (cyI, 5, .inl zp)), (q5, .inl (cyI, 40, .inl zm)), (q6, .inl (cyI, 40, .inl zk))] sz) [(q0, .inr (9, [.ref q1, .ref q2, .int svc, .ref q3, .int tl, .int cde, .int mm, .int mr, .ref q4, .int ati, .int ors, .ref q5, .ref q6])), (q1, .inl (cyI, 246, .inl u)), (q2, .inl (cyI, 984, .inl zv)), (q3, .inl (cyI, 80, .inl zt)), (q4, .inl (cyI, 5, .inl zp)), (q5, .inl (cyI, 40, .inl zm)), (q6, .inl (cyI, 40, .inl zk))]) (va_A [(q0, .inr (9, [.ref q1, .ref q2, .int svc, .ref q3, .int tl, .int cde, .int mm, .int mr, .ref q4, .int ati, .int ors, .ref q5, .ref q6])), (q1, .inl (cyI, 246, .inl zs)), (q2, .inl (cyI, 984, .inl zv)), (q3, .inl (cyI, 80, .inl zt)), (q4, .inl (cyI, 5, .inl zp)), (q5, .inl (cyI, 40, .inl zm)), (q6, .inl (cyI, 40, .inl zk))] sz)) 0 0 (va_A [(q0, .inr (9, [.ref q1, .ref q2, .int svc, .ref q3, .int tl, .int cde, .int mm, .int mr, .ref q4, .int ati, .int ors, .ref q5, .ref q6])), (q1, .inl (cyI, 246, .inl zs)), (q2, .inl (cyI, 984, .inl zv)), (q3, .inl (cyI, 80, .inl zt)), (q4, .inl (cyI, 5, .inl zp)), (q5, .inl (cyI, 40, .inl zm)), (q6, .inl (cyI, 40, .inl zk))] sz) := by
  refine Met.ofW (cc := cX9_takeBack) (maxL := 2) (ret := none) (by decide) rfl ?_
  intro p e s m args below meth c s₁ B hml hv
  obtain ⟨rfl, hsz, hP, hK, hD0, he⟩ := hv
  have hx := B.exec
  have hb := B.bytes
  have hr := B.returns
  have hts := atoms_spec (ws := wqX9_takeBack) B.pre
  have hown : s.vm.findClass RX9 = some m.cls := findClass_of_methodNamed B.named
  have hlocks := B.notSynchronized
  have w_0 := hts (Cond.fieldLink RX9 7 "CraneLimiterModel" "s" "[I") (List.mem_cons_of_mem _ b_93)
  have w_1 := hts (Cond.fieldLink RX9 19 "CraneLimiterModel" "place" "[I") (List.mem_cons_of_mem _ b_96)
  have i_X9 : ∀ w ∈ u_ws RX9 TX9 13, w ∈ wqX9_takeBack := fun w h => List.mem_cons_of_mem _ (bX9 w h)
  subst hsz
  have hD := hD0.self (sz := s.heap.size)
  generalize hAe : va_A [(q0, .inr (9, [.ref q1, .ref q2, .int svc, .ref q3, .int tl, .int cde, .int mm, .int mr, .ref q4, .int ati, .int ors, .ref q5, .ref q6])), (q1, .inl (cyI, 246, .inl zs)), (q2, .inl (cyI, 984, .inl zv)), (q3, .inl (cyI, 80, .inl zt)), (q4, .inl (cyI, 5, .inl zp)), (q5, .inl (cyI, 40, .inl zm)), (q6, .inl (cyI, 40, .inl zk))] s.heap.size = A at hD he ⊢
  have hA : ∀ q : Nat, s.heap.size ≤ q → A q := fun q h => by rw [← hAe]; exact Or.inr h
  have hS : va_S A s.heap s.heap [] := va_S.rf
  have hP : va_P (dC, dI) vwCl [(q0, .inr (9, [.ref q1, .ref q2, .int svc, .ref q3, .int tl, .int cde, .int mm, .int mr, .ref q4, .int ati, .int ors, .ref q5, .ref q6])), (q1, .inl (cyI, 246, .inl zs)), (q2, .inl (cyI, 984, .inl zv)), (q3, .inl (cyI, 80, .inl zt)), (q4, .inl (cyI, 5, .inl zp)), (q5, .inl (cyI, 40, .inl zm)), (q6, .inl (cyI, 40, .inl zk))] s.heap := hP
  have hl := lv_entry ([.ref q0] : List Value) (n := 2) (Nat.le_of_ble_eq_true rfl)
  rw [lg_entry_eq]
  generalize (lg_sl ([.ref q0] : List Value) ++ List.replicate (2 - (lg_sl ([.ref q0] : List Value)).length) Slot.unset).toArray = ls at hl ⊢
  have hl : lv_has ls 2 [(0, .ref q0)] := hl
  have hE : m_takeBack zs zp = m_takeBack zs zp := rfl
  refine lv_iconst (v := 0) hx hb dX9_takeBack_0 (by decide) ?_
  refine lv_istore_n (lv' := [(1, .int (0 : Int32)), (0, .ref q0)]) hx hb dX9_takeBack_1 rfl hl (by decide) rfl (fun ls hl => ?_)
  have L2 : ∀ (n2 : Nat) (k1_2 : Nat) (w1_a_2 : Nat → Int32) (hi : k1_2 ≤ 5 ∧ 5 < k1_2 + n2) (H : Heap) (locs : List Loc) (hP : va_P (dC, dI) vwCl [(q0, .inr (9, [.ref q1, .ref q2, .int svc, .ref q3, .int tl, .int cde, .int mm, .int mr, .ref q4, .int ati, .int ors, .ref q5, .ref q6])), (q1, .inl (cyI, 246, .inl w1_a_2)), (q2, .inl (cyI, 984, .inl zv)), (q3, .inl (cyI, 80, .inl zt)), (q4, .inl (cyI, 5, .inl zp)), (q5, .inl (cyI, 40, .inl zm)), (q6, .inl (cyI, 40, .inl zk))] H) (hD : va_D A [(q0, .inr (9, [.ref q1, .ref q2, .int svc, .ref q3, .int tl, .int cde, .int mm, .int mr, .ref q4, .int ati, .int ors, .ref q5, .ref q6])), (q1, .inl (cyI, 246, .inl w1_a_2)), (q2, .inl (cyI, 984, .inl zv)), (q3, .inl (cyI, 80, .inl zt)), (q4, .inl (cyI, 5, .inl zp)), (q5, .inl (cyI, 40, .inl zm)), (q6, .inl (cyI, 40, .inl zk))]) (hS : va_S A s.heap H locs) (ls : Array Slot) (hl : lv_has ls 2 [(0, .ref q0), (1, .int (nI k1_2))]) (hE : (m_takeBack zs zp) = spIter (fun _ _ => default) (m_takeBack_b2 zp) n2 k1_2 w1_a_2), W p l e (headSpec wqX9_takeBack ({ frames := 0, cells := 0, slots := 0, locals := 0 } : Room)).room s m ([.ref q0] : List Value).toArray below meth c H locs 0 0 (MQ below (va_Qv (fun u : (Nat → Int32) => u = (m_takeBack zs zp)) (fun (u : (Nat → Int32)) t => va_P (dC, dI) vwCl [(q0, .inr (9, [.ref q1, .ref q2, .int svc, .ref q3, .int tl, .int cde, .int mm, .int mr, .ref q4, .int ati, .int ors, .ref q5, .ref q6])), (q1, .inl (cyI, 246, .inl u)), (q2, .inl (cyI, 984, .inl zv)), (q3, .inl (cyI, 80, .inl zt)), (q4, .inl (cyI, 5, .inl zp)), (q5, .inl (cyI, 40, .inl zm)), (q6, .inl (cyI, 40, .inl zk))] t.heap ∧ va_D A [(q0, .inr (9, [.ref q1, .ref q2, .int svc, .ref q3, .int tl, .int cde, .int mm, .int mr, .ref q4, .int ati, .int ors, .ref q5, .ref q6])), (q1, .inl (cyI, 246, .inl u)), (q2, .inl (cyI, 984, .inl zv)), (q3, .inl (cyI, 80, .inl zt)), (q4, .inl (cyI, 5, .inl zp)), (q5, .inl (cyI, 40, .inl zm)), (q6, .inl (cyI, 40, .inl zk))]) A) ([.ref q0] : List Value).toArray s 0 0 A) (F0 m 2 ls []) := by
    intro n2
    induction n2 with
    | zero =>
      intro k1_2 w1_a_2 hi H locs hP hD hS ls hl hE
      exact absurd hi (by omega)
    | succ n2 ih2 =>
      intro k1_2 w1_a_2 hi H locs hP hD hS ls hl hE
      have hE : (m_takeBack zs zp) = m_takeBack_b2 zp (spIter (fun _ _ => default) (m_takeBack_b2 zp) n2) k1_2 w1_a_2 := hE
      refine lv_iload_n hx hb dX9_takeBack_2 rfl (lv_at hl 1 rfl) ?_
      refine lv_iconst (v := 5) hx hb dX9_takeBack_3 (by decide) ?_
      refine lv_icmp_ge (tgt := 25) hx hb dX9_takeBack_4 (by decide) (fun c_1 => ?_) (fun c_1 => ?_)
      ·
        have c_1 : 5 ≤ k1_2 := by
          have h1 : ((nI k1_2)) = nI k1_2 := rfl
          have h2 : ((5 : Int32)) = nI 5 := rfl
          have h3 : (nI 5 ≤ nI k1_2) := by first | exact c_1 | (rw [← h1, ← h2]; exact c_1)
          exact (nI_leI (by omega) (by omega)).mp h3
        have hE := hE.trans (if_pos c_1)
        exact W.vret hx hb hr (fun t h9 hW => ⟨⟨(w1_a_2 : (Nat → Int32)), rfl, hE.symm, by rw [h9]; exact hP, hD⟩, hS.F h9⟩) hS.2.2 dX9_takeBack_25
      ·
        have c_1 : ¬ 5 ≤ k1_2 := by
          have h1 : ((nI k1_2)) = nI k1_2 := rfl
          have h2 : ((5 : Int32)) = nI 5 := rfl
          have h3 : ¬ (nI 5 ≤ nI k1_2) := by first | exact c_1 | (rw [← h1, ← h2]; exact c_1)
          exact fun h => h3 ((nI_leI (by omega) (by omega)).mpr h)
        have hE := hE.trans (if_neg c_1)
        refine lv_aload_n hx hb dX9_takeBack_7 rfl (lv_at hl 0 rfl) ?_
        refine va_get (D := (dC, dI)) (ci := 9) (v := .ref q1) (C := RX9) (T := TX9) (N := 13) hx hb hts i_X9 hown hK hP 0 rfl rfl 0 (by decide) w_0 (fun _ h9 => h9) rfl dX9_takeBack_8 ?_
        refine lv_iload_n hx hb dX9_takeBack_11 rfl (lv_at hl 1 rfl) ?_
        refine lv_aload_n hx hb dX9_takeBack_12 rfl (lv_at hl 0 rfl) ?_
        refine va_get (D := (dC, dI)) (ci := 9) (v := .ref q4) (C := RX9) (T := TX9) (N := 13) hx hb hts i_X9 hown hK hP 0 rfl rfl 8 (by decide) w_1 (fun _ h9 => h9) rfl dX9_takeBack_13 ?_
        refine lv_iload_n hx hb dX9_takeBack_16 rfl (lv_at hl 1 rfl) ?_
        refine ra_ld hx hb hK hP 4 0 rfl rfl (j := k1_2) (rfl : (nI k1_2) = nI k1_2) (by omega) (by omega) dX9_takeBack_17 ?_
        refine lv_topi (fun x_2 ex_2 => ?_)
        have hE := hE.trans (spLet_eq ex_2)
        refine ra_st hx hb hK hP hD hS 1 0 rfl rfl (j := k1_2) (rfl : (nI k1_2) = nI k1_2) (by omega) (by omega) dX9_takeBack_18 (fun H locs hP hD hS => ?_)
        have hP : va_P (dC, dI) vwCl [(q0, .inr (9, [.ref q1, .ref q2, .int svc, .ref q3, .int tl, .int cde, .int mm, .int mr, .ref q4, .int ati, .int ors, .ref q5, .ref q6])), (q1, .inl (cyI, 246, .inl (upd w1_a_2 (k1_2) x_2))), (q2, .inl (cyI, 984, .inl zv)), (q3, .inl (cyI, 80, .inl zt)), (q4, .inl (cyI, 5, .inl zp)), (q5, .inl (cyI, 40, .inl zm)), (q6, .inl (cyI, 40, .inl zk))] H := hP
        have hD : va_D A [(q0, .inr (9, [.ref q1, .ref q2, .int svc, .ref q3, .int tl, .int cde, .int mm, .int mr, .ref q4, .int ati, .int ors, .ref q5, .ref q6])), (q1, .inl (cyI, 246, .inl (upd w1_a_2 (k1_2) x_2))), (q2, .inl (cyI, 984, .inl zv)), (q3, .inl (cyI, 80, .inl zt)), (q4, .inl (cyI, 5, .inl zp)), (q5, .inl (cyI, 40, .inl zm)), (q6, .inl (cyI, 40, .inl zk))] := hD
        obtain ⟨f_3, ef_3⟩ : ∃ y : Nat → Int32, y = upd w1_a_2 (k1_2) x_2 := ⟨_, rfl⟩
        rw [← ef_3] at hP hD
        have hE := hE.trans (spLet_eq ef_3)
        refine lv_iinc (v := (nI (k1_2 + 1))) (lv' := [(1, .int (nI (k1_2 + 1))), (0, .ref q0)]) hx hb dX9_takeBack_19 hl (k := 1) rfl (show _ from (congrArg (fun z => z + Int32.ofInt 1) (rfl)).trans (ninc _ 1)) (by decide) rfl (fun ls hl => ?_)
        refine lv_goto (tgt := 2) hx hb dX9_takeBack_22 (by decide) ?_
        exact ih2 (k1_2 + 1) f_3 (by omega) _ _ hP hD hS ls (lv_sub hl [1, 0] rfl) hE
  exact L2 6 0 zs (by omega) _ _ hP hD hS ls (lv_sub hl [1, 0] rfl) hE
def m_fails (wh : Int32) : Int32 × Int32 :=
  ((0 : Int32), wh)
set_option maxHeartbeats 1000000 in
set_option maxRecDepth 100000 in
theorem c_X9_fails (l : Launch) (dC : Nat → ClassId) (dI : Nat → Nat → Nat) (cyI : ClassId) (sz : Nat) (q0 : Nat) (q1 : Nat) (q2 : Nat) (q3 : Nat) (q4 : Nat) (q5 : Nat) (q6 : Nat) (svc : Int32) (tl : Int32) (cde : Int32) (mm : Int32) (mr : Int32) (ati : Int32) (ors : Int32) (zs : Nat → Int32) (zv : Nat → Int32) (zt : Nat → Int32) (zp : Nat → Int32) (zm : Nat → Int32) (zk : Nat → Int32) (wh : Int32) : Met l yX9_fails wqX9_fails ({ frames := 0, cells := 0, slots := 0, locals := 0 } : Room) (va_Pc [.ref q0, .int wh] (pC (dC, dI) [(q0, .inr (9, [.ref q1, .ref q2, .int svc, .ref q3, .int tl, .int cde, .int mm, .int mr, .ref q4, .int ati, .int ors, .ref q5, .ref q6])), (q1, .inl (cyI, 246, .inl zs)), (q2, .inl (cyI, 984, .inl zv)), (q3, .inl (cyI, 80, .inl zt)), (q4, .inl (cyI, 5, .inl zp)), (q5, .inl (cyI, 40, .inl zm)), (q6, .inl (cyI, 40, .inl zk))] [(cyI, .int)] eM sz)) (va_Qi (fun (r : Int32) (u : Int32 × Int32) => u = (m_fails wh) ∧ r = u.1) (fun (u : Int32 × Int32) t => va_P (dC, dI) vwCl [(q0, .inr (9, [.ref q1, .ref q2, .int svc, .ref q3, .int tl, .int (u.2), .int mm, .int mr, .ref q4, .int ati, .int ors, .ref q5, .ref q6])), (q1, .inl (cyI, 246, .inl zs)), (q2, .inl (cyI, 984, .inl zv)), (q3, .inl (cyI, 80, .inl zt)), (q4, .inl (cyI, 5, .inl zp)), (q5, .inl (cyI, 40, .inl zm)), (q6, .inl (cyI, 40, .inl zk))] t.heap ∧ va_D (va_A [(q0, .inr (9, [.ref q1, .ref q2, .int svc, .ref q3, .int tl, .int cde, .int mm, .int mr, .ref q4, .int ati, .int ors, .ref q5, .ref q6])), (q1, .inl (cyI, 246, .inl zs)), (q2, .inl (cyI, 984, .inl zv)), (q3, .inl (cyI, 80, .inl zt)), (q4, .inl (cyI, 5, .inl zp)), (q5, .inl (cyI, 40, .inl zm)), (q6, .inl (cyI, 40, .inl zk))] sz) [(q0, .inr (9, [.ref q1, .ref q2, .int svc, .ref q3, .int tl, .int (u.2), .int mm, .int mr, .ref q4, .int ati, .int ors, .ref q5, .ref q6])), (q1, .inl (cyI, 246, .inl zs)), (q2, .inl (cyI, 984, .inl zv)), (q3, .inl (cyI, 80, .inl zt)), (q4, .inl (cyI, 5, .inl zp)), (q5, .inl (cyI, 40, .inl zm)), (q6, .inl (cyI, 40, .inl zk))]) (va_A [(q0, .inr (9, [.ref q1, .ref q2, .int svc, .ref q3, .int tl, .int cde, .int mm, .int mr, .ref q4, .int ati, .int ors, .ref q5, .ref q6])), (q1, .inl (cyI, 246, .inl zs)), (q2, .inl (cyI, 984, .inl zv)), (q3, .inl (cyI, 80, .inl zt)), (q4, .inl (cyI, 5, .inl zp)), (q5, .inl (cyI, 40, .inl zm)), (q6, .inl (cyI, 40, .inl zk))] sz)) 0 0 (va_A [(q0, .inr (9, [.ref q1, .ref q2, .int svc, .ref q3, .int tl, .int cde, .int mm, .int mr, .ref q4, .int ati, .int ors, .ref q5, .ref q6])), (q1, .inl (cyI, 246, .inl zs)), (q2, .inl (cyI, 984, .inl zv)), (q3, .inl (cyI, 80, .inl zt)), (q4, .inl (cyI, 5, .inl zp)), (q5, .inl (cyI, 40, .inl zm)), (q6, .inl (cyI, 40, .inl zk))] sz) := by
  refine Met.ofW (cc := cX9_fails) (maxL := 2) (ret := (some .int)) (by decide) rfl ?_
  intro p e s m args below meth c s₁ B hml hv
  obtain ⟨rfl, hsz, hP, hK, hD0, he⟩ := hv
  have hx := B.exec
  have hb := B.bytes
  have hr := B.returns
  have hts := atoms_spec (ws := wqX9_fails) B.pre
  have hown : s.vm.findClass RX9 = some m.cls := findClass_of_methodNamed B.named
  have hlocks := B.notSynchronized
  have w_0 := hts (Cond.fieldLink RX9 28 "CraneLimiterModel" "code" "I") (List.mem_cons_of_mem _ b_181)
  have i_X9 : ∀ w ∈ u_ws RX9 TX9 13, w ∈ wqX9_fails := fun w h => List.mem_cons_of_mem _ (bX9 w h)
  subst hsz
  have hD := hD0.self (sz := s.heap.size)
  generalize hAe : va_A [(q0, .inr (9, [.ref q1, .ref q2, .int svc, .ref q3, .int tl, .int cde, .int mm, .int mr, .ref q4, .int ati, .int ors, .ref q5, .ref q6])), (q1, .inl (cyI, 246, .inl zs)), (q2, .inl (cyI, 984, .inl zv)), (q3, .inl (cyI, 80, .inl zt)), (q4, .inl (cyI, 5, .inl zp)), (q5, .inl (cyI, 40, .inl zm)), (q6, .inl (cyI, 40, .inl zk))] s.heap.size = A at hD he ⊢
  have hA : ∀ q : Nat, s.heap.size ≤ q → A q := fun q h => by rw [← hAe]; exact Or.inr h
  have hS : va_S A s.heap s.heap [] := va_S.rf
  have hP : va_P (dC, dI) vwCl [(q0, .inr (9, [.ref q1, .ref q2, .int svc, .ref q3, .int tl, .int cde, .int mm, .int mr, .ref q4, .int ati, .int ors, .ref q5, .ref q6])), (q1, .inl (cyI, 246, .inl zs)), (q2, .inl (cyI, 984, .inl zv)), (q3, .inl (cyI, 80, .inl zt)), (q4, .inl (cyI, 5, .inl zp)), (q5, .inl (cyI, 40, .inl zm)), (q6, .inl (cyI, 40, .inl zk))] s.heap := hP
  have hl := lv_entry ([.ref q0, .int wh] : List Value) (n := 2) (Nat.le_of_ble_eq_true rfl)
  rw [lg_entry_eq]
  generalize (lg_sl ([.ref q0, .int wh] : List Value) ++ List.replicate (2 - (lg_sl ([.ref q0, .int wh] : List Value)).length) Slot.unset).toArray = ls at hl ⊢
  have hl : lv_has ls 2 [(0, .ref q0), (1, .int wh)] := hl
  have hE : m_fails wh = m_fails wh := rfl
  refine lv_aload_n hx hb dX9_fails_0 rfl (lv_at hl 0 rfl) ?_
  refine lv_iload_n hx hb dX9_fails_1 rfl (lv_at hl 1 rfl) ?_
  refine va_put (D := (dC, dI)) (ci := 9) (v := .int wh) (ty := .int) (C := RX9) (T := TX9) (N := 13) hx hb hts i_X9 tyX9 tyX9_ok nmX9 hown hK hP hD hS 0 rfl rfl 5 (by decide) w_0 (fun _ h9 => h9) rfl (by decide +kernel) (rfl) (rfl) (Nat.le_of_ble_eq_true rfl) dX9_fails_2 (fun H locs hP hD hS => ?_)
  have hP : va_P (dC, dI) vwCl [(q0, .inr (9, [.ref q1, .ref q2, .int svc, .ref q3, .int tl, .int wh, .int mm, .int mr, .ref q4, .int ati, .int ors, .ref q5, .ref q6])), (q1, .inl (cyI, 246, .inl zs)), (q2, .inl (cyI, 984, .inl zv)), (q3, .inl (cyI, 80, .inl zt)), (q4, .inl (cyI, 5, .inl zp)), (q5, .inl (cyI, 40, .inl zm)), (q6, .inl (cyI, 40, .inl zk))] H := hP
  have hD : va_D A [(q0, .inr (9, [.ref q1, .ref q2, .int svc, .ref q3, .int tl, .int wh, .int mm, .int mr, .ref q4, .int ati, .int ors, .ref q5, .ref q6])), (q1, .inl (cyI, 246, .inl zs)), (q2, .inl (cyI, 984, .inl zv)), (q3, .inl (cyI, 80, .inl zt)), (q4, .inl (cyI, 5, .inl zp)), (q5, .inl (cyI, 40, .inl zm)), (q6, .inl (cyI, 40, .inl zk))] := hD
  refine lv_iconst (v := 0) hx hb dX9_fails_5 (by decide) ?_
  exact W.iret (v := (0 : Int32)) hx hb hr (fun t h9 hW => ⟨⟨(0 : Int32), (((0 : Int32), wh) : Int32 × Int32), rfl, ⟨hE.symm, rfl⟩, by rw [h9]; exact hP, hD⟩, hS.F h9⟩) hS.2.2 dX9_fails_6
def m_carry_j324 (w1_a_324 : Nat → Int32) : (Nat → Int32) :=
  spLet (m_height w1_a_324) (fun r_1 => spLet (m_lesser (w1_a_324 3) (r_1 - (200 : Int32))) (fun r_2 => spLet (upd w1_a_324 3 r_2) (fun f_3 => f_3)))
def m_carry_j77 (zs : Nat → Int32) : (Nat → Int32) :=
  spLet (m_speed zs (20 : Int32) (10 : Int32)) (fun r_6 => spLet (((zs 3) + r_6)) (fun x_7 => spLet (upd zs 3 x_7) (fun f_8 => m_carry_j324 f_8)))
def m_carry (zs : Nat → Int32) (mo : Int32) : (Nat → Int32) :=
  if mo = 0 then (if (zs 6) ≤ 0 then (m_carry_j77 zs) else (if (4 : Int32) ≤ (zs 4) then (m_carry_j77 zs) else (spLet (((zs 4) + (1 : Int32))) (fun x_10 => spLet (upd zs 4 x_10) (fun f_11 => m_carry_j324 f_11))))) else (if mo = 1 then (if (zs 3) ≤ 0 then (spLet (m_greater (0 : Int32) ((zs 4) - (1 : Int32))) (fun r_14 => spLet (upd zs 4 r_14) (fun f_15 => m_carry_j324 f_15))) else (spLet (m_speed zs (20 : Int32) (10 : Int32)) (fun r_16 => spLet (m_greater (0 : Int32) ((zs 3) - r_16)) (fun r_17 => spLet (upd zs 3 r_17) (fun f_18 => m_carry_j324 f_18))))) else (if mo = 2 then (spLet (m_speed zs (5 : Int32) (2 : Int32)) (fun r_20 => spLet (m_lesser (850 : Int32) ((zs 1) + r_20)) (fun r_21 => spLet (upd zs 1 r_21) (fun f_22 => m_carry_j324 f_22)))) else (if mo = 3 then (spLet (m_speed zs (5 : Int32) (2 : Int32)) (fun r_24 => spLet (m_greater (0 : Int32) ((zs 1) - r_24)) (fun r_25 => spLet (upd zs 1 r_25) (fun f_26 => m_carry_j324 f_26)))) else (if mo = 4 then (spLet (m_speed zs (10 : Int32) (5 : Int32)) (fun r_28 => spLet (m_lesser (6000 : Int32) ((zs 0) + r_28)) (fun r_29 => spLet (upd zs 0 r_29) (fun f_30 => m_carry_j324 f_30)))) else (if mo = 5 then (spLet (m_speed zs (10 : Int32) (5 : Int32)) (fun r_32 => spLet (m_greater (1000 : Int32) ((zs 0) - r_32)) (fun r_33 => spLet (upd zs 0 r_33) (fun f_34 => m_carry_j324 f_34)))) else (if mo = 6 then (spLet (m_speed zs (15 : Int32) (7 : Int32)) (fun r_36 => spLet ((((zs 2) + r_36) - ((zs 2) + r_36) / (3600 : Int32) * (3600 : Int32))) (fun x_37 => spLet (upd zs 2 x_37) (fun f_38 => m_carry_j324 f_38)))) else (spLet (m_speed zs (15 : Int32) (7 : Int32)) (fun r_39 => spLet (((((zs 2) - r_39) + (3600 : Int32)) - (((zs 2) - r_39) + (3600 : Int32)) / (3600 : Int32) * (3600 : Int32))) (fun x_40 => spLet (upd zs 2 x_40) (fun f_41 => m_carry_j324 f_41))))))))))
set_option maxHeartbeats 1000000 in
set_option maxRecDepth 100000 in
theorem c_X9_carry (l : Launch) (dC : Nat → ClassId) (dI : Nat → Nat → Nat) (cyI : ClassId) (sz : Nat) (q0 : Nat) (q1 : Nat) (q2 : Nat) (q3 : Nat) (q4 : Nat) (q5 : Nat) (q6 : Nat) (svc : Int32) (tl : Int32) (cde : Int32) (mm : Int32) (mr : Int32) (ati : Int32) (ors : Int32) (zs : Nat → Int32) (zv : Nat → Int32) (zt : Nat → Int32) (zp : Nat → Int32) (zm : Nat → Int32) (zk : Nat → Int32) (mo : Int32) : Met l yX9_carry wqX9_carry ({ frames := 4, cells := 0, slots := 0, locals := 83 } : Room) (va_Pc [.ref q0, .int mo] (pC (dC, dI) [(q0, .inr (9, [.ref q1, .ref q2, .int svc, .ref q3, .int tl, .int cde, .int mm, .int mr, .ref q4, .int ati, .int ors, .ref q5, .ref q6])), (q1, .inl (cyI, 246, .inl zs)), (q2, .inl (cyI, 984, .inl zv)), (q3, .inl (cyI, 80, .inl zt)), (q4, .inl (cyI, 5, .inl zp)), (q5, .inl (cyI, 40, .inl zm)), (q6, .inl (cyI, 40, .inl zk))] [(cyI, .int)] eM sz)) (va_Qv (fun u : (Nat → Int32) => u = (m_carry zs mo)) (fun (u : (Nat → Int32)) t => va_P (dC, dI) vwCl [(q0, .inr (9, [.ref q1, .ref q2, .int svc, .ref q3, .int tl, .int cde, .int mm, .int mr, .ref q4, .int ati, .int ors, .ref q5, .ref q6])), (q1, .inl (cyI, 246, .inl u)), (q2, .inl (cyI, 984, .inl zv)), (q3, .inl (cyI, 80, .inl zt)), (q4, .inl (cyI, 5, .inl zp)), (q5, .inl (cyI, 40, .inl zm)), (q6, .inl (cyI, 40, .inl zk))] t.heap ∧ va_D (va_A [(q0, .inr (9, [.ref q1, .ref q2, .int svc, .ref q3, .int tl, .int cde, .int mm, .int mr, .ref q4, .int ati, .int ors, .ref q5, .ref q6])), (q1, .inl (cyI, 246, .inl zs)), (q2, .inl (cyI, 984, .inl zv)), (q3, .inl (cyI, 80, .inl zt)), (q4, .inl (cyI, 5, .inl zp)), (q5, .inl (cyI, 40, .inl zm)), (q6, .inl (cyI, 40, .inl zk))] sz) [(q0, .inr (9, [.ref q1, .ref q2, .int svc, .ref q3, .int tl, .int cde, .int mm, .int mr, .ref q4, .int ati, .int ors, .ref q5, .ref q6])), (q1, .inl (cyI, 246, .inl u)), (q2, .inl (cyI, 984, .inl zv)), (q3, .inl (cyI, 80, .inl zt)), (q4, .inl (cyI, 5, .inl zp)), (q5, .inl (cyI, 40, .inl zm)), (q6, .inl (cyI, 40, .inl zk))]) (va_A [(q0, .inr (9, [.ref q1, .ref q2, .int svc, .ref q3, .int tl, .int cde, .int mm, .int mr, .ref q4, .int ati, .int ors, .ref q5, .ref q6])), (q1, .inl (cyI, 246, .inl zs)), (q2, .inl (cyI, 984, .inl zv)), (q3, .inl (cyI, 80, .inl zt)), (q4, .inl (cyI, 5, .inl zp)), (q5, .inl (cyI, 40, .inl zm)), (q6, .inl (cyI, 40, .inl zk))] sz)) 0 0 (va_A [(q0, .inr (9, [.ref q1, .ref q2, .int svc, .ref q3, .int tl, .int cde, .int mm, .int mr, .ref q4, .int ati, .int ors, .ref q5, .ref q6])), (q1, .inl (cyI, 246, .inl zs)), (q2, .inl (cyI, 984, .inl zv)), (q3, .inl (cyI, 80, .inl zt)), (q4, .inl (cyI, 5, .inl zp)), (q5, .inl (cyI, 40, .inl zm)), (q6, .inl (cyI, 40, .inl zk))] sz) := by
  refine Met.ofW (cc := cX9_carry) (maxL := 2) (ret := none) (by decide) rfl ?_
  intro p e s m args below meth c s₁ B hml hv
  obtain ⟨rfl, hsz, hP, hK, hD0, he⟩ := hv
  have hx := B.exec
  have hb := B.bytes
  have hr := B.returns
  have hts := atoms_spec (ws := wqX9_carry) B.pre
  have hown : s.vm.findClass RX9 = some m.cls := findClass_of_methodNamed B.named
  have hlocks := B.notSynchronized
  have w_0 := hts (Cond.fieldLink RX9 7 "CraneLimiterModel" "s" "[I") (List.mem_cons_of_mem _ b_93)
  have i_X9 : ∀ w ∈ u_ws RX9 TX9 13, w ∈ wqX9_carry := fun w h => List.mem_cons_of_mem _ (bX9 w h)
  subst hsz
  have hD := hD0.self (sz := s.heap.size)
  generalize hAe : va_A [(q0, .inr (9, [.ref q1, .ref q2, .int svc, .ref q3, .int tl, .int cde, .int mm, .int mr, .ref q4, .int ati, .int ors, .ref q5, .ref q6])), (q1, .inl (cyI, 246, .inl zs)), (q2, .inl (cyI, 984, .inl zv)), (q3, .inl (cyI, 80, .inl zt)), (q4, .inl (cyI, 5, .inl zp)), (q5, .inl (cyI, 40, .inl zm)), (q6, .inl (cyI, 40, .inl zk))] s.heap.size = A at hD he ⊢
  have hA : ∀ q : Nat, s.heap.size ≤ q → A q := fun q h => by rw [← hAe]; exact Or.inr h
  have hS : va_S A s.heap s.heap [] := va_S.rf
  have hP : va_P (dC, dI) vwCl [(q0, .inr (9, [.ref q1, .ref q2, .int svc, .ref q3, .int tl, .int cde, .int mm, .int mr, .ref q4, .int ati, .int ors, .ref q5, .ref q6])), (q1, .inl (cyI, 246, .inl zs)), (q2, .inl (cyI, 984, .inl zv)), (q3, .inl (cyI, 80, .inl zt)), (q4, .inl (cyI, 5, .inl zp)), (q5, .inl (cyI, 40, .inl zm)), (q6, .inl (cyI, 40, .inl zk))] s.heap := hP
  have hl := lv_entry ([.ref q0, .int mo] : List Value) (n := 2) (Nat.le_of_ble_eq_true rfl)
  rw [lg_entry_eq]
  generalize (lg_sl ([.ref q0, .int mo] : List Value) ++ List.replicate (2 - (lg_sl ([.ref q0, .int mo] : List Value)).length) Slot.unset).toArray = ls at hl ⊢
  have hl : lv_has ls 2 [(0, .ref q0), (1, .int mo)] := hl
  have hE : m_carry zs mo = m_carry zs mo := rfl
  refine lv_iload_n hx hb dX9_carry_0 rfl (lv_at hl 1 rfl) ?_
  have J324 : ∀ (w1_a_324 : Nat → Int32) (H : Heap) (locs : List Loc) (hP : va_P (dC, dI) vwCl [(q0, .inr (9, [.ref q1, .ref q2, .int svc, .ref q3, .int tl, .int cde, .int mm, .int mr, .ref q4, .int ati, .int ors, .ref q5, .ref q6])), (q1, .inl (cyI, 246, .inl w1_a_324)), (q2, .inl (cyI, 984, .inl zv)), (q3, .inl (cyI, 80, .inl zt)), (q4, .inl (cyI, 5, .inl zp)), (q5, .inl (cyI, 40, .inl zm)), (q6, .inl (cyI, 40, .inl zk))] H) (hD : va_D A [(q0, .inr (9, [.ref q1, .ref q2, .int svc, .ref q3, .int tl, .int cde, .int mm, .int mr, .ref q4, .int ati, .int ors, .ref q5, .ref q6])), (q1, .inl (cyI, 246, .inl w1_a_324)), (q2, .inl (cyI, 984, .inl zv)), (q3, .inl (cyI, 80, .inl zt)), (q4, .inl (cyI, 5, .inl zp)), (q5, .inl (cyI, 40, .inl zm)), (q6, .inl (cyI, 40, .inl zk))]) (hS : va_S A s.heap H locs) (ls : Array Slot) (hl : lv_has ls 2 [(0, .ref q0)]) (hE : (m_carry zs mo) = m_carry_j324 w1_a_324), W p l e (headSpec wqX9_carry ({ frames := 4, cells := 0, slots := 0, locals := 83 } : Room)).room s m ([.ref q0, .int mo] : List Value).toArray below meth c H locs 0 0 (MQ below (va_Qv (fun u : (Nat → Int32) => u = (m_carry zs mo)) (fun (u : (Nat → Int32)) t => va_P (dC, dI) vwCl [(q0, .inr (9, [.ref q1, .ref q2, .int svc, .ref q3, .int tl, .int cde, .int mm, .int mr, .ref q4, .int ati, .int ors, .ref q5, .ref q6])), (q1, .inl (cyI, 246, .inl u)), (q2, .inl (cyI, 984, .inl zv)), (q3, .inl (cyI, 80, .inl zt)), (q4, .inl (cyI, 5, .inl zp)), (q5, .inl (cyI, 40, .inl zm)), (q6, .inl (cyI, 40, .inl zk))] t.heap ∧ va_D A [(q0, .inr (9, [.ref q1, .ref q2, .int svc, .ref q3, .int tl, .int cde, .int mm, .int mr, .ref q4, .int ati, .int ors, .ref q5, .ref q6])), (q1, .inl (cyI, 246, .inl u)), (q2, .inl (cyI, 984, .inl zv)), (q3, .inl (cyI, 80, .inl zt)), (q4, .inl (cyI, 5, .inl zp)), (q5, .inl (cyI, 40, .inl zm)), (q6, .inl (cyI, 40, .inl zk))]) A) ([.ref q0, .int mo] : List Value).toArray s 0 0 A) (F0 m 324 ls []) := by
    intro w1_a_324 H locs hP hD hS ls hl hE
    refine lv_aload_n hx hb dX9_carry_324 rfl (lv_at hl 0 rfl) ?_
    refine va_get (D := (dC, dI)) (ci := 9) (v := .ref q1) (C := RX9) (T := TX9) (N := 13) hx hb hts i_X9 hown hK hP 0 rfl rfl 0 (by decide) w_0 (fun _ h9 => h9) rfl dX9_carry_325 ?_
    refine lv_iconst (v := 3) hx hb dX9_carry_328 (by decide) ?_
    refine lv_aload_n hx hb dX9_carry_329 rfl (lv_at hl 0 rfl) ?_
    refine va_get (D := (dC, dI)) (ci := 9) (v := .ref q1) (C := RX9) (T := TX9) (N := 13) hx hb hts i_X9 hown hK hP 0 rfl rfl 0 (by decide) w_0 (fun _ h9 => h9) rfl dX9_carry_330 ?_
    refine lv_iconst (v := 3) hx hb dX9_carry_333 (by decide) ?_
    refine ra_ld hx hb hK hP 1 0 rfl rfl (j := 3) (rfl : (3 : Int32) = nI 3) (by omega) (by omega) dX9_carry_334 ?_
    refine lv_aload_n hx hb dX9_carry_335 rfl (lv_at hl 0 rfl) ?_
    refine vp_callSi (W.runV (As := []) (rest := [.int (w1_a_324 3), .int (3 : Int32), .ref q1]) ⟨hx, hb, hml, hown, hts⟩ (c_X9_height l dC dI cyI q0 q1 q2 q3 q4 q5 q6 svc tl cde mm mr ati ors w1_a_324 zv zt zp zm zk) (cwV 0 hts (gBV b_396 b_397 b_398 b_5 b_399) rfl rfl rfl (by decide +kernel) ⟨Nat.le_of_ble_eq_true rfl, Nat.le_of_ble_eq_true rfl⟩) (pre_v eM_ok he hS hP hK 0 rfl rfl rfl) rfl rfl hl.1 rfl (lv_room (Nat.le_of_ble_eq_true rfl)) dX9_carry_336 ⟨Nat.zero_le _, Nat.zero_le _⟩) (fun r_1 hr_1 => ?_)
    have hE := hE.trans (spLet_eq hr_1)
    refine lv_sipush (v := 200) hx hb dX9_carry_339 (by decide) ?_
    refine lv_isub hx hb dX9_carry_342 ?_
    refine vp_callSi (W.runS (As := [.int (w1_a_324 3), .int (r_1 - (200 : Int32))]) (rest := [.int (3 : Int32), .ref q1]) ⟨hx, hb, hml, hown, hts⟩ (c_X9_lesser l dC dI cyI (w1_a_324 3) (r_1 - (200 : Int32))) (va_cwS 2 hts (gBS b_267 b_268 b_5 b_269) rfl rfl rfl (by decide +kernel) ⟨Nat.le_of_ble_eq_true rfl, Nat.le_of_ble_eq_true rfl⟩) (pre_s eM_ok he hS (hP.sub (ws' := []) [] rfl) (hK.sub (tys' := []) [] rfl)) rfl rfl hl.1 rfl (lv_room (Nat.le_of_ble_eq_true rfl)) dX9_carry_343 ⟨Nat.zero_le _, Nat.zero_le _⟩) (fun r_2 hr_2 => ?_)
    have hE := hE.trans (spLet_eq hr_2)
    refine ra_st hx hb hK hP hD hS 1 0 rfl rfl (j := 3) (rfl : (3 : Int32) = nI 3) (by omega) (by omega) dX9_carry_346 (fun H locs hP hD hS => ?_)
    have hP : va_P (dC, dI) vwCl [(q0, .inr (9, [.ref q1, .ref q2, .int svc, .ref q3, .int tl, .int cde, .int mm, .int mr, .ref q4, .int ati, .int ors, .ref q5, .ref q6])), (q1, .inl (cyI, 246, .inl (upd w1_a_324 3 r_2))), (q2, .inl (cyI, 984, .inl zv)), (q3, .inl (cyI, 80, .inl zt)), (q4, .inl (cyI, 5, .inl zp)), (q5, .inl (cyI, 40, .inl zm)), (q6, .inl (cyI, 40, .inl zk))] H := hP
    have hD : va_D A [(q0, .inr (9, [.ref q1, .ref q2, .int svc, .ref q3, .int tl, .int cde, .int mm, .int mr, .ref q4, .int ati, .int ors, .ref q5, .ref q6])), (q1, .inl (cyI, 246, .inl (upd w1_a_324 3 r_2))), (q2, .inl (cyI, 984, .inl zv)), (q3, .inl (cyI, 80, .inl zt)), (q4, .inl (cyI, 5, .inl zp)), (q5, .inl (cyI, 40, .inl zm)), (q6, .inl (cyI, 40, .inl zk))] := hD
    obtain ⟨f_3, ef_3⟩ : ∃ y : Nat → Int32, y = upd w1_a_324 3 r_2 := ⟨_, rfl⟩
    rw [← ef_3] at hP hD
    have hE := hE.trans (spLet_eq ef_3)
    exact W.vret hx hb hr (fun t h9 hW => ⟨⟨(f_3 : (Nat → Int32)), rfl, hE.symm, by rw [h9]; exact hP, hD⟩, hS.F h9⟩) hS.2.2 dX9_carry_347
  by_cases c_4 : mo = 0
  ·
    have hE := hE.trans (if_pos c_4)
    refine lv_tableIn (tgt := 44) (off := 43) hx hb dX9_carry_1 (by rw [c_4]; decide) (by rw [c_4]; decide) (by rw [c_4]; rfl) (by decide) ?_
    refine lv_aload_n hx hb dX9_carry_44 rfl (lv_at hl 0 rfl) ?_
    refine va_get (D := (dC, dI)) (ci := 9) (v := .ref q1) (C := RX9) (T := TX9) (N := 13) hx hb hts i_X9 hown hK hP 0 rfl rfl 0 (by decide) w_0 (fun _ h9 => h9) rfl dX9_carry_45 ?_
    refine lv_bipush (v := 6) hx hb dX9_carry_48 (by decide) ?_
    refine ra_ld hx hb hK hP 1 0 rfl rfl (j := 6) (rfl : (6 : Int32) = nI 6) (by omega) (by omega) dX9_carry_50 ?_
    have J77 : ∀ (ls : Array Slot) (hl : lv_has ls 2 [(0, .ref q0)]) (hE : (m_carry zs mo) = m_carry_j77 zs), W p l e (headSpec wqX9_carry ({ frames := 4, cells := 0, slots := 0, locals := 83 } : Room)).room s m ([.ref q0, .int mo] : List Value).toArray below meth c s.heap [] 0 0 (MQ below (va_Qv (fun u : (Nat → Int32) => u = (m_carry zs mo)) (fun (u : (Nat → Int32)) t => va_P (dC, dI) vwCl [(q0, .inr (9, [.ref q1, .ref q2, .int svc, .ref q3, .int tl, .int cde, .int mm, .int mr, .ref q4, .int ati, .int ors, .ref q5, .ref q6])), (q1, .inl (cyI, 246, .inl u)), (q2, .inl (cyI, 984, .inl zv)), (q3, .inl (cyI, 80, .inl zt)), (q4, .inl (cyI, 5, .inl zp)), (q5, .inl (cyI, 40, .inl zm)), (q6, .inl (cyI, 40, .inl zk))] t.heap ∧ va_D A [(q0, .inr (9, [.ref q1, .ref q2, .int svc, .ref q3, .int tl, .int cde, .int mm, .int mr, .ref q4, .int ati, .int ors, .ref q5, .ref q6])), (q1, .inl (cyI, 246, .inl u)), (q2, .inl (cyI, 984, .inl zv)), (q3, .inl (cyI, 80, .inl zt)), (q4, .inl (cyI, 5, .inl zp)), (q5, .inl (cyI, 40, .inl zm)), (q6, .inl (cyI, 40, .inl zk))]) A) ([.ref q0, .int mo] : List Value).toArray s 0 0 A) (F0 m 77 ls []) := by
      intro ls hl hE
      refine lv_aload_n hx hb dX9_carry_77 rfl (lv_at hl 0 rfl) ?_
      refine va_get (D := (dC, dI)) (ci := 9) (v := .ref q1) (C := RX9) (T := TX9) (N := 13) hx hb hts i_X9 hown hK hP 0 rfl rfl 0 (by decide) w_0 (fun _ h9 => h9) rfl dX9_carry_78 ?_
      refine lv_iconst (v := 3) hx hb dX9_carry_81 (by decide) ?_
      refine lv_dup2_11 hx hb dX9_carry_82 rfl rfl ?_
      refine ra_ld hx hb hK hP 1 0 rfl rfl (j := 3) (rfl : (3 : Int32) = nI 3) (by omega) (by omega) dX9_carry_83 ?_
      refine lv_aload_n hx hb dX9_carry_84 rfl (lv_at hl 0 rfl) ?_
      refine lv_bipush (v := 20) hx hb dX9_carry_85 (by decide) ?_
      refine lv_bipush (v := 10) hx hb dX9_carry_87 (by decide) ?_
      refine vp_callSi (W.runV (As := [.int (20 : Int32), .int (10 : Int32)]) (rest := [.int (zs 3), .int (3 : Int32), .ref q1]) ⟨hx, hb, hml, hown, hts⟩ (c_X9_speed l dC dI cyI q0 q1 q2 q3 q4 q5 q6 svc tl cde mm mr ati ors zs zv zt zp zm zk (20 : Int32) (10 : Int32)) (cwV 2 hts (gBV b_661 b_662 b_663 b_5 b_664) rfl rfl rfl (by decide +kernel) ⟨Nat.le_of_ble_eq_true rfl, Nat.le_of_ble_eq_true rfl⟩) (pre_v eM_ok he hS hP hK 0 rfl rfl rfl) rfl rfl hl.1 rfl (lv_room (Nat.le_of_ble_eq_true rfl)) dX9_carry_89 ⟨Nat.zero_le _, Nat.zero_le _⟩) (fun r_6 hr_6 => ?_)
      have hE := hE.trans (spLet_eq hr_6)
      refine lv_iadd hx hb dX9_carry_92 ?_
      refine lv_topi (fun x_7 ex_7 => ?_)
      have hE := hE.trans (spLet_eq ex_7)
      refine ra_st hx hb hK hP hD hS 1 0 rfl rfl (j := 3) (rfl : (3 : Int32) = nI 3) (by omega) (by omega) dX9_carry_93 (fun H locs hP hD hS => ?_)
      have hP : va_P (dC, dI) vwCl [(q0, .inr (9, [.ref q1, .ref q2, .int svc, .ref q3, .int tl, .int cde, .int mm, .int mr, .ref q4, .int ati, .int ors, .ref q5, .ref q6])), (q1, .inl (cyI, 246, .inl (upd zs 3 x_7))), (q2, .inl (cyI, 984, .inl zv)), (q3, .inl (cyI, 80, .inl zt)), (q4, .inl (cyI, 5, .inl zp)), (q5, .inl (cyI, 40, .inl zm)), (q6, .inl (cyI, 40, .inl zk))] H := hP
      have hD : va_D A [(q0, .inr (9, [.ref q1, .ref q2, .int svc, .ref q3, .int tl, .int cde, .int mm, .int mr, .ref q4, .int ati, .int ors, .ref q5, .ref q6])), (q1, .inl (cyI, 246, .inl (upd zs 3 x_7))), (q2, .inl (cyI, 984, .inl zv)), (q3, .inl (cyI, 80, .inl zt)), (q4, .inl (cyI, 5, .inl zp)), (q5, .inl (cyI, 40, .inl zm)), (q6, .inl (cyI, 40, .inl zk))] := hD
      obtain ⟨f_8, ef_8⟩ : ∃ y : Nat → Int32, y = upd zs 3 x_7 := ⟨_, rfl⟩
      rw [← ef_8] at hP hD
      have hE := hE.trans (spLet_eq ef_8)
      refine lv_goto (tgt := 324) hx hb dX9_carry_94 (by decide) ?_
      exact J324 f_8 _ _ hP hD hS ls (lv_sub hl [0] rfl) hE
    refine lv_if_le (tgt := 77) hx hb dX9_carry_51 (by decide) (fun c_5 => ?_) (fun c_5 => ?_)
    ·
      have hE := hE.trans (if_pos c_5)
      exact J77 ls (lv_sub hl [0] rfl) hE
    ·
      have hE := hE.trans (if_neg c_5)
      refine lv_aload_n hx hb dX9_carry_54 rfl (lv_at hl 0 rfl) ?_
      refine va_get (D := (dC, dI)) (ci := 9) (v := .ref q1) (C := RX9) (T := TX9) (N := 13) hx hb hts i_X9 hown hK hP 0 rfl rfl 0 (by decide) w_0 (fun _ h9 => h9) rfl dX9_carry_55 ?_
      refine lv_iconst (v := 4) hx hb dX9_carry_58 (by decide) ?_
      refine ra_ld hx hb hK hP 1 0 rfl rfl (j := 4) (rfl : (4 : Int32) = nI 4) (by omega) (by omega) dX9_carry_59 ?_
      refine lv_iconst (v := 4) hx hb dX9_carry_60 (by decide) ?_
      refine lv_icmp_ge (tgt := 77) hx hb dX9_carry_61 (by decide) (fun c_9 => ?_) (fun c_9 => ?_)
      ·
        have hE := hE.trans (if_pos c_9)
        exact J77 ls (lv_sub hl [0] rfl) hE
      ·
        have hE := hE.trans (if_neg c_9)
        refine lv_aload_n hx hb dX9_carry_64 rfl (lv_at hl 0 rfl) ?_
        refine va_get (D := (dC, dI)) (ci := 9) (v := .ref q1) (C := RX9) (T := TX9) (N := 13) hx hb hts i_X9 hown hK hP 0 rfl rfl 0 (by decide) w_0 (fun _ h9 => h9) rfl dX9_carry_65 ?_
        refine lv_iconst (v := 4) hx hb dX9_carry_68 (by decide) ?_
        refine lv_dup2_11 hx hb dX9_carry_69 rfl rfl ?_
        refine ra_ld hx hb hK hP 1 0 rfl rfl (j := 4) (rfl : (4 : Int32) = nI 4) (by omega) (by omega) dX9_carry_70 ?_
        refine lv_iconst (v := 1) hx hb dX9_carry_71 (by decide) ?_
        refine lv_iadd hx hb dX9_carry_72 ?_
        refine lv_topi (fun x_10 ex_10 => ?_)
        have hE := hE.trans (spLet_eq ex_10)
        refine ra_st hx hb hK hP hD hS 1 0 rfl rfl (j := 4) (rfl : (4 : Int32) = nI 4) (by omega) (by omega) dX9_carry_73 (fun H locs hP hD hS => ?_)
        have hP : va_P (dC, dI) vwCl [(q0, .inr (9, [.ref q1, .ref q2, .int svc, .ref q3, .int tl, .int cde, .int mm, .int mr, .ref q4, .int ati, .int ors, .ref q5, .ref q6])), (q1, .inl (cyI, 246, .inl (upd zs 4 x_10))), (q2, .inl (cyI, 984, .inl zv)), (q3, .inl (cyI, 80, .inl zt)), (q4, .inl (cyI, 5, .inl zp)), (q5, .inl (cyI, 40, .inl zm)), (q6, .inl (cyI, 40, .inl zk))] H := hP
        have hD : va_D A [(q0, .inr (9, [.ref q1, .ref q2, .int svc, .ref q3, .int tl, .int cde, .int mm, .int mr, .ref q4, .int ati, .int ors, .ref q5, .ref q6])), (q1, .inl (cyI, 246, .inl (upd zs 4 x_10))), (q2, .inl (cyI, 984, .inl zv)), (q3, .inl (cyI, 80, .inl zt)), (q4, .inl (cyI, 5, .inl zp)), (q5, .inl (cyI, 40, .inl zm)), (q6, .inl (cyI, 40, .inl zk))] := hD
        obtain ⟨f_11, ef_11⟩ : ∃ y : Nat → Int32, y = upd zs 4 x_10 := ⟨_, rfl⟩
        rw [← ef_11] at hP hD
        have hE := hE.trans (spLet_eq ef_11)
        refine lv_goto (tgt := 324) hx hb dX9_carry_74 (by decide) ?_
        exact J324 f_11 _ _ hP hD hS ls (lv_sub hl [0] rfl) hE
  ·
    have hE := hE.trans (if_neg c_4)
    by_cases c_12 : mo = 1
    ·
      have hE := hE.trans (if_pos c_12)
      refine lv_tableIn (tgt := 97) (off := 96) hx hb dX9_carry_1 (by rw [c_12]; decide) (by rw [c_12]; decide) (by rw [c_12]; rfl) (by decide) ?_
      refine lv_aload_n hx hb dX9_carry_97 rfl (lv_at hl 0 rfl) ?_
      refine va_get (D := (dC, dI)) (ci := 9) (v := .ref q1) (C := RX9) (T := TX9) (N := 13) hx hb hts i_X9 hown hK hP 0 rfl rfl 0 (by decide) w_0 (fun _ h9 => h9) rfl dX9_carry_98 ?_
      refine lv_iconst (v := 3) hx hb dX9_carry_101 (by decide) ?_
      refine ra_ld hx hb hK hP 1 0 rfl rfl (j := 3) (rfl : (3 : Int32) = nI 3) (by omega) (by omega) dX9_carry_102 ?_
      refine lv_if_le (tgt := 134) hx hb dX9_carry_103 (by decide) (fun c_13 => ?_) (fun c_13 => ?_)
      ·
        have hE := hE.trans (if_pos c_13)
        refine lv_aload_n hx hb dX9_carry_134 rfl (lv_at hl 0 rfl) ?_
        refine va_get (D := (dC, dI)) (ci := 9) (v := .ref q1) (C := RX9) (T := TX9) (N := 13) hx hb hts i_X9 hown hK hP 0 rfl rfl 0 (by decide) w_0 (fun _ h9 => h9) rfl dX9_carry_135 ?_
        refine lv_iconst (v := 4) hx hb dX9_carry_138 (by decide) ?_
        refine lv_iconst (v := 0) hx hb dX9_carry_139 (by decide) ?_
        refine lv_aload_n hx hb dX9_carry_140 rfl (lv_at hl 0 rfl) ?_
        refine va_get (D := (dC, dI)) (ci := 9) (v := .ref q1) (C := RX9) (T := TX9) (N := 13) hx hb hts i_X9 hown hK hP 0 rfl rfl 0 (by decide) w_0 (fun _ h9 => h9) rfl dX9_carry_141 ?_
        refine lv_iconst (v := 4) hx hb dX9_carry_144 (by decide) ?_
        refine ra_ld hx hb hK hP 1 0 rfl rfl (j := 4) (rfl : (4 : Int32) = nI 4) (by omega) (by omega) dX9_carry_145 ?_
        refine lv_iconst (v := 1) hx hb dX9_carry_146 (by decide) ?_
        refine lv_isub hx hb dX9_carry_147 ?_
        refine vp_callSi (W.runS (As := [.int (0 : Int32), .int ((zs 4) - (1 : Int32))]) (rest := [.int (4 : Int32), .ref q1]) ⟨hx, hb, hml, hown, hts⟩ (c_X9_greater l dC dI cyI (0 : Int32) ((zs 4) - (1 : Int32))) (va_cwS 2 hts (gBS b_393 b_394 b_5 b_395) rfl rfl rfl (by decide +kernel) ⟨Nat.le_of_ble_eq_true rfl, Nat.le_of_ble_eq_true rfl⟩) (pre_s eM_ok he hS (hP.sub (ws' := []) [] rfl) (hK.sub (tys' := []) [] rfl)) rfl rfl hl.1 rfl (lv_room (Nat.le_of_ble_eq_true rfl)) dX9_carry_148 ⟨Nat.zero_le _, Nat.zero_le _⟩) (fun r_14 hr_14 => ?_)
        have hE := hE.trans (spLet_eq hr_14)
        refine ra_st hx hb hK hP hD hS 1 0 rfl rfl (j := 4) (rfl : (4 : Int32) = nI 4) (by omega) (by omega) dX9_carry_151 (fun H locs hP hD hS => ?_)
        have hP : va_P (dC, dI) vwCl [(q0, .inr (9, [.ref q1, .ref q2, .int svc, .ref q3, .int tl, .int cde, .int mm, .int mr, .ref q4, .int ati, .int ors, .ref q5, .ref q6])), (q1, .inl (cyI, 246, .inl (upd zs 4 r_14))), (q2, .inl (cyI, 984, .inl zv)), (q3, .inl (cyI, 80, .inl zt)), (q4, .inl (cyI, 5, .inl zp)), (q5, .inl (cyI, 40, .inl zm)), (q6, .inl (cyI, 40, .inl zk))] H := hP
        have hD : va_D A [(q0, .inr (9, [.ref q1, .ref q2, .int svc, .ref q3, .int tl, .int cde, .int mm, .int mr, .ref q4, .int ati, .int ors, .ref q5, .ref q6])), (q1, .inl (cyI, 246, .inl (upd zs 4 r_14))), (q2, .inl (cyI, 984, .inl zv)), (q3, .inl (cyI, 80, .inl zt)), (q4, .inl (cyI, 5, .inl zp)), (q5, .inl (cyI, 40, .inl zm)), (q6, .inl (cyI, 40, .inl zk))] := hD
        obtain ⟨f_15, ef_15⟩ : ∃ y : Nat → Int32, y = upd zs 4 r_14 := ⟨_, rfl⟩
        rw [← ef_15] at hP hD
        have hE := hE.trans (spLet_eq ef_15)
        refine lv_goto (tgt := 324) hx hb dX9_carry_152 (by decide) ?_
        exact J324 f_15 _ _ hP hD hS ls (lv_sub hl [0] rfl) hE
      ·
        have hE := hE.trans (if_neg c_13)
        refine lv_aload_n hx hb dX9_carry_106 rfl (lv_at hl 0 rfl) ?_
        refine va_get (D := (dC, dI)) (ci := 9) (v := .ref q1) (C := RX9) (T := TX9) (N := 13) hx hb hts i_X9 hown hK hP 0 rfl rfl 0 (by decide) w_0 (fun _ h9 => h9) rfl dX9_carry_107 ?_
        refine lv_iconst (v := 3) hx hb dX9_carry_110 (by decide) ?_
        refine lv_iconst (v := 0) hx hb dX9_carry_111 (by decide) ?_
        refine lv_aload_n hx hb dX9_carry_112 rfl (lv_at hl 0 rfl) ?_
        refine va_get (D := (dC, dI)) (ci := 9) (v := .ref q1) (C := RX9) (T := TX9) (N := 13) hx hb hts i_X9 hown hK hP 0 rfl rfl 0 (by decide) w_0 (fun _ h9 => h9) rfl dX9_carry_113 ?_
        refine lv_iconst (v := 3) hx hb dX9_carry_116 (by decide) ?_
        refine ra_ld hx hb hK hP 1 0 rfl rfl (j := 3) (rfl : (3 : Int32) = nI 3) (by omega) (by omega) dX9_carry_117 ?_
        refine lv_aload_n hx hb dX9_carry_118 rfl (lv_at hl 0 rfl) ?_
        refine lv_bipush (v := 20) hx hb dX9_carry_119 (by decide) ?_
        refine lv_bipush (v := 10) hx hb dX9_carry_121 (by decide) ?_
        refine vp_callSi (W.runV (As := [.int (20 : Int32), .int (10 : Int32)]) (rest := [.int (zs 3), .int (0 : Int32), .int (3 : Int32), .ref q1]) ⟨hx, hb, hml, hown, hts⟩ (c_X9_speed l dC dI cyI q0 q1 q2 q3 q4 q5 q6 svc tl cde mm mr ati ors zs zv zt zp zm zk (20 : Int32) (10 : Int32)) (cwV 2 hts (gBV b_661 b_662 b_663 b_5 b_664) rfl rfl rfl (by decide +kernel) ⟨Nat.le_of_ble_eq_true rfl, Nat.le_of_ble_eq_true rfl⟩) (pre_v eM_ok he hS hP hK 0 rfl rfl rfl) rfl rfl hl.1 rfl (lv_room (Nat.le_of_ble_eq_true rfl)) dX9_carry_123 ⟨Nat.zero_le _, Nat.zero_le _⟩) (fun r_16 hr_16 => ?_)
        have hE := hE.trans (spLet_eq hr_16)
        refine lv_isub hx hb dX9_carry_126 ?_
        refine vp_callSi (W.runS (As := [.int (0 : Int32), .int ((zs 3) - r_16)]) (rest := [.int (3 : Int32), .ref q1]) ⟨hx, hb, hml, hown, hts⟩ (c_X9_greater l dC dI cyI (0 : Int32) ((zs 3) - r_16)) (va_cwS 2 hts (gBS b_393 b_394 b_5 b_395) rfl rfl rfl (by decide +kernel) ⟨Nat.le_of_ble_eq_true rfl, Nat.le_of_ble_eq_true rfl⟩) (pre_s eM_ok he hS (hP.sub (ws' := []) [] rfl) (hK.sub (tys' := []) [] rfl)) rfl rfl hl.1 rfl (lv_room (Nat.le_of_ble_eq_true rfl)) dX9_carry_127 ⟨Nat.zero_le _, Nat.zero_le _⟩) (fun r_17 hr_17 => ?_)
        have hE := hE.trans (spLet_eq hr_17)
        refine ra_st hx hb hK hP hD hS 1 0 rfl rfl (j := 3) (rfl : (3 : Int32) = nI 3) (by omega) (by omega) dX9_carry_130 (fun H locs hP hD hS => ?_)
        have hP : va_P (dC, dI) vwCl [(q0, .inr (9, [.ref q1, .ref q2, .int svc, .ref q3, .int tl, .int cde, .int mm, .int mr, .ref q4, .int ati, .int ors, .ref q5, .ref q6])), (q1, .inl (cyI, 246, .inl (upd zs 3 r_17))), (q2, .inl (cyI, 984, .inl zv)), (q3, .inl (cyI, 80, .inl zt)), (q4, .inl (cyI, 5, .inl zp)), (q5, .inl (cyI, 40, .inl zm)), (q6, .inl (cyI, 40, .inl zk))] H := hP
        have hD : va_D A [(q0, .inr (9, [.ref q1, .ref q2, .int svc, .ref q3, .int tl, .int cde, .int mm, .int mr, .ref q4, .int ati, .int ors, .ref q5, .ref q6])), (q1, .inl (cyI, 246, .inl (upd zs 3 r_17))), (q2, .inl (cyI, 984, .inl zv)), (q3, .inl (cyI, 80, .inl zt)), (q4, .inl (cyI, 5, .inl zp)), (q5, .inl (cyI, 40, .inl zm)), (q6, .inl (cyI, 40, .inl zk))] := hD
        obtain ⟨f_18, ef_18⟩ : ∃ y : Nat → Int32, y = upd zs 3 r_17 := ⟨_, rfl⟩
        rw [← ef_18] at hP hD
        have hE := hE.trans (spLet_eq ef_18)
        refine lv_goto (tgt := 324) hx hb dX9_carry_131 (by decide) ?_
        exact J324 f_18 _ _ hP hD hS ls (lv_sub hl [0] rfl) hE
    ·
      have hE := hE.trans (if_neg c_12)
      by_cases c_19 : mo = 2
      ·
        have hE := hE.trans (if_pos c_19)
        refine lv_tableIn (tgt := 155) (off := 154) hx hb dX9_carry_1 (by rw [c_19]; decide) (by rw [c_19]; decide) (by rw [c_19]; rfl) (by decide) ?_
        refine lv_aload_n hx hb dX9_carry_155 rfl (lv_at hl 0 rfl) ?_
        refine va_get (D := (dC, dI)) (ci := 9) (v := .ref q1) (C := RX9) (T := TX9) (N := 13) hx hb hts i_X9 hown hK hP 0 rfl rfl 0 (by decide) w_0 (fun _ h9 => h9) rfl dX9_carry_156 ?_
        refine lv_iconst (v := 1) hx hb dX9_carry_159 (by decide) ?_
        refine lv_sipush (v := 850) hx hb dX9_carry_160 (by decide) ?_
        refine lv_aload_n hx hb dX9_carry_163 rfl (lv_at hl 0 rfl) ?_
        refine va_get (D := (dC, dI)) (ci := 9) (v := .ref q1) (C := RX9) (T := TX9) (N := 13) hx hb hts i_X9 hown hK hP 0 rfl rfl 0 (by decide) w_0 (fun _ h9 => h9) rfl dX9_carry_164 ?_
        refine lv_iconst (v := 1) hx hb dX9_carry_167 (by decide) ?_
        refine ra_ld hx hb hK hP 1 0 rfl rfl (j := 1) (rfl : (1 : Int32) = nI 1) (by omega) (by omega) dX9_carry_168 ?_
        refine lv_aload_n hx hb dX9_carry_169 rfl (lv_at hl 0 rfl) ?_
        refine lv_iconst (v := 5) hx hb dX9_carry_170 (by decide) ?_
        refine lv_iconst (v := 2) hx hb dX9_carry_171 (by decide) ?_
        refine vp_callSi (W.runV (As := [.int (5 : Int32), .int (2 : Int32)]) (rest := [.int (zs 1), .int (850 : Int32), .int (1 : Int32), .ref q1]) ⟨hx, hb, hml, hown, hts⟩ (c_X9_speed l dC dI cyI q0 q1 q2 q3 q4 q5 q6 svc tl cde mm mr ati ors zs zv zt zp zm zk (5 : Int32) (2 : Int32)) (cwV 2 hts (gBV b_661 b_662 b_663 b_5 b_664) rfl rfl rfl (by decide +kernel) ⟨Nat.le_of_ble_eq_true rfl, Nat.le_of_ble_eq_true rfl⟩) (pre_v eM_ok he hS hP hK 0 rfl rfl rfl) rfl rfl hl.1 rfl (lv_room (Nat.le_of_ble_eq_true rfl)) dX9_carry_172 ⟨Nat.zero_le _, Nat.zero_le _⟩) (fun r_20 hr_20 => ?_)
        have hE := hE.trans (spLet_eq hr_20)
        refine lv_iadd hx hb dX9_carry_175 ?_
        refine vp_callSi (W.runS (As := [.int (850 : Int32), .int ((zs 1) + r_20)]) (rest := [.int (1 : Int32), .ref q1]) ⟨hx, hb, hml, hown, hts⟩ (c_X9_lesser l dC dI cyI (850 : Int32) ((zs 1) + r_20)) (va_cwS 2 hts (gBS b_267 b_268 b_5 b_269) rfl rfl rfl (by decide +kernel) ⟨Nat.le_of_ble_eq_true rfl, Nat.le_of_ble_eq_true rfl⟩) (pre_s eM_ok he hS (hP.sub (ws' := []) [] rfl) (hK.sub (tys' := []) [] rfl)) rfl rfl hl.1 rfl (lv_room (Nat.le_of_ble_eq_true rfl)) dX9_carry_176 ⟨Nat.zero_le _, Nat.zero_le _⟩) (fun r_21 hr_21 => ?_)
        have hE := hE.trans (spLet_eq hr_21)
        refine ra_st hx hb hK hP hD hS 1 0 rfl rfl (j := 1) (rfl : (1 : Int32) = nI 1) (by omega) (by omega) dX9_carry_179 (fun H locs hP hD hS => ?_)
        have hP : va_P (dC, dI) vwCl [(q0, .inr (9, [.ref q1, .ref q2, .int svc, .ref q3, .int tl, .int cde, .int mm, .int mr, .ref q4, .int ati, .int ors, .ref q5, .ref q6])), (q1, .inl (cyI, 246, .inl (upd zs 1 r_21))), (q2, .inl (cyI, 984, .inl zv)), (q3, .inl (cyI, 80, .inl zt)), (q4, .inl (cyI, 5, .inl zp)), (q5, .inl (cyI, 40, .inl zm)), (q6, .inl (cyI, 40, .inl zk))] H := hP
        have hD : va_D A [(q0, .inr (9, [.ref q1, .ref q2, .int svc, .ref q3, .int tl, .int cde, .int mm, .int mr, .ref q4, .int ati, .int ors, .ref q5, .ref q6])), (q1, .inl (cyI, 246, .inl (upd zs 1 r_21))), (q2, .inl (cyI, 984, .inl zv)), (q3, .inl (cyI, 80, .inl zt)), (q4, .inl (cyI, 5, .inl zp)), (q5, .inl (cyI, 40, .inl zm)), (q6, .inl (cyI, 40, .inl zk))] := hD
        obtain ⟨f_22, ef_22⟩ : ∃ y : Nat → Int32, y = upd zs 1 r_21 := ⟨_, rfl⟩
        rw [← ef_22] at hP hD
        have hE := hE.trans (spLet_eq ef_22)
        refine lv_goto (tgt := 324) hx hb dX9_carry_180 (by decide) ?_
        exact J324 f_22 _ _ hP hD hS ls (lv_sub hl [0] rfl) hE
      ·
        have hE := hE.trans (if_neg c_19)
        by_cases c_23 : mo = 3
        ·
          have hE := hE.trans (if_pos c_23)
          refine lv_tableIn (tgt := 183) (off := 182) hx hb dX9_carry_1 (by rw [c_23]; decide) (by rw [c_23]; decide) (by rw [c_23]; rfl) (by decide) ?_
          refine lv_aload_n hx hb dX9_carry_183 rfl (lv_at hl 0 rfl) ?_
          refine va_get (D := (dC, dI)) (ci := 9) (v := .ref q1) (C := RX9) (T := TX9) (N := 13) hx hb hts i_X9 hown hK hP 0 rfl rfl 0 (by decide) w_0 (fun _ h9 => h9) rfl dX9_carry_184 ?_
          refine lv_iconst (v := 1) hx hb dX9_carry_187 (by decide) ?_
          refine lv_iconst (v := 0) hx hb dX9_carry_188 (by decide) ?_
          refine lv_aload_n hx hb dX9_carry_189 rfl (lv_at hl 0 rfl) ?_
          refine va_get (D := (dC, dI)) (ci := 9) (v := .ref q1) (C := RX9) (T := TX9) (N := 13) hx hb hts i_X9 hown hK hP 0 rfl rfl 0 (by decide) w_0 (fun _ h9 => h9) rfl dX9_carry_190 ?_
          refine lv_iconst (v := 1) hx hb dX9_carry_193 (by decide) ?_
          refine ra_ld hx hb hK hP 1 0 rfl rfl (j := 1) (rfl : (1 : Int32) = nI 1) (by omega) (by omega) dX9_carry_194 ?_
          refine lv_aload_n hx hb dX9_carry_195 rfl (lv_at hl 0 rfl) ?_
          refine lv_iconst (v := 5) hx hb dX9_carry_196 (by decide) ?_
          refine lv_iconst (v := 2) hx hb dX9_carry_197 (by decide) ?_
          refine vp_callSi (W.runV (As := [.int (5 : Int32), .int (2 : Int32)]) (rest := [.int (zs 1), .int (0 : Int32), .int (1 : Int32), .ref q1]) ⟨hx, hb, hml, hown, hts⟩ (c_X9_speed l dC dI cyI q0 q1 q2 q3 q4 q5 q6 svc tl cde mm mr ati ors zs zv zt zp zm zk (5 : Int32) (2 : Int32)) (cwV 2 hts (gBV b_661 b_662 b_663 b_5 b_664) rfl rfl rfl (by decide +kernel) ⟨Nat.le_of_ble_eq_true rfl, Nat.le_of_ble_eq_true rfl⟩) (pre_v eM_ok he hS hP hK 0 rfl rfl rfl) rfl rfl hl.1 rfl (lv_room (Nat.le_of_ble_eq_true rfl)) dX9_carry_198 ⟨Nat.zero_le _, Nat.zero_le _⟩) (fun r_24 hr_24 => ?_)
          have hE := hE.trans (spLet_eq hr_24)
          refine lv_isub hx hb dX9_carry_201 ?_
          refine vp_callSi (W.runS (As := [.int (0 : Int32), .int ((zs 1) - r_24)]) (rest := [.int (1 : Int32), .ref q1]) ⟨hx, hb, hml, hown, hts⟩ (c_X9_greater l dC dI cyI (0 : Int32) ((zs 1) - r_24)) (va_cwS 2 hts (gBS b_393 b_394 b_5 b_395) rfl rfl rfl (by decide +kernel) ⟨Nat.le_of_ble_eq_true rfl, Nat.le_of_ble_eq_true rfl⟩) (pre_s eM_ok he hS (hP.sub (ws' := []) [] rfl) (hK.sub (tys' := []) [] rfl)) rfl rfl hl.1 rfl (lv_room (Nat.le_of_ble_eq_true rfl)) dX9_carry_202 ⟨Nat.zero_le _, Nat.zero_le _⟩) (fun r_25 hr_25 => ?_)
          have hE := hE.trans (spLet_eq hr_25)
          refine ra_st hx hb hK hP hD hS 1 0 rfl rfl (j := 1) (rfl : (1 : Int32) = nI 1) (by omega) (by omega) dX9_carry_205 (fun H locs hP hD hS => ?_)
          have hP : va_P (dC, dI) vwCl [(q0, .inr (9, [.ref q1, .ref q2, .int svc, .ref q3, .int tl, .int cde, .int mm, .int mr, .ref q4, .int ati, .int ors, .ref q5, .ref q6])), (q1, .inl (cyI, 246, .inl (upd zs 1 r_25))), (q2, .inl (cyI, 984, .inl zv)), (q3, .inl (cyI, 80, .inl zt)), (q4, .inl (cyI, 5, .inl zp)), (q5, .inl (cyI, 40, .inl zm)), (q6, .inl (cyI, 40, .inl zk))] H := hP
          have hD : va_D A [(q0, .inr (9, [.ref q1, .ref q2, .int svc, .ref q3, .int tl, .int cde, .int mm, .int mr, .ref q4, .int ati, .int ors, .ref q5, .ref q6])), (q1, .inl (cyI, 246, .inl (upd zs 1 r_25))), (q2, .inl (cyI, 984, .inl zv)), (q3, .inl (cyI, 80, .inl zt)), (q4, .inl (cyI, 5, .inl zp)), (q5, .inl (cyI, 40, .inl zm)), (q6, .inl (cyI, 40, .inl zk))] := hD
          obtain ⟨f_26, ef_26⟩ : ∃ y : Nat → Int32, y = upd zs 1 r_25 := ⟨_, rfl⟩
          rw [← ef_26] at hP hD
          have hE := hE.trans (spLet_eq ef_26)
          refine lv_goto (tgt := 324) hx hb dX9_carry_206 (by decide) ?_
          exact J324 f_26 _ _ hP hD hS ls (lv_sub hl [0] rfl) hE
        ·
          have hE := hE.trans (if_neg c_23)
          by_cases c_27 : mo = 4
          ·
            have hE := hE.trans (if_pos c_27)
            refine lv_tableIn (tgt := 209) (off := 208) hx hb dX9_carry_1 (by rw [c_27]; decide) (by rw [c_27]; decide) (by rw [c_27]; rfl) (by decide) ?_
            refine lv_aload_n hx hb dX9_carry_209 rfl (lv_at hl 0 rfl) ?_
            refine va_get (D := (dC, dI)) (ci := 9) (v := .ref q1) (C := RX9) (T := TX9) (N := 13) hx hb hts i_X9 hown hK hP 0 rfl rfl 0 (by decide) w_0 (fun _ h9 => h9) rfl dX9_carry_210 ?_
            refine lv_iconst (v := 0) hx hb dX9_carry_213 (by decide) ?_
            refine lv_sipush (v := 6000) hx hb dX9_carry_214 (by decide) ?_
            refine lv_aload_n hx hb dX9_carry_217 rfl (lv_at hl 0 rfl) ?_
            refine va_get (D := (dC, dI)) (ci := 9) (v := .ref q1) (C := RX9) (T := TX9) (N := 13) hx hb hts i_X9 hown hK hP 0 rfl rfl 0 (by decide) w_0 (fun _ h9 => h9) rfl dX9_carry_218 ?_
            refine lv_iconst (v := 0) hx hb dX9_carry_221 (by decide) ?_
            refine ra_ld hx hb hK hP 1 0 rfl rfl (j := 0) (rfl : (0 : Int32) = nI 0) (by omega) (by omega) dX9_carry_222 ?_
            refine lv_aload_n hx hb dX9_carry_223 rfl (lv_at hl 0 rfl) ?_
            refine lv_bipush (v := 10) hx hb dX9_carry_224 (by decide) ?_
            refine lv_iconst (v := 5) hx hb dX9_carry_226 (by decide) ?_
            refine vp_callSi (W.runV (As := [.int (10 : Int32), .int (5 : Int32)]) (rest := [.int (zs 0), .int (6000 : Int32), .int (0 : Int32), .ref q1]) ⟨hx, hb, hml, hown, hts⟩ (c_X9_speed l dC dI cyI q0 q1 q2 q3 q4 q5 q6 svc tl cde mm mr ati ors zs zv zt zp zm zk (10 : Int32) (5 : Int32)) (cwV 2 hts (gBV b_661 b_662 b_663 b_5 b_664) rfl rfl rfl (by decide +kernel) ⟨Nat.le_of_ble_eq_true rfl, Nat.le_of_ble_eq_true rfl⟩) (pre_v eM_ok he hS hP hK 0 rfl rfl rfl) rfl rfl hl.1 rfl (lv_room (Nat.le_of_ble_eq_true rfl)) dX9_carry_227 ⟨Nat.zero_le _, Nat.zero_le _⟩) (fun r_28 hr_28 => ?_)
            have hE := hE.trans (spLet_eq hr_28)
            refine lv_iadd hx hb dX9_carry_230 ?_
            refine vp_callSi (W.runS (As := [.int (6000 : Int32), .int ((zs 0) + r_28)]) (rest := [.int (0 : Int32), .ref q1]) ⟨hx, hb, hml, hown, hts⟩ (c_X9_lesser l dC dI cyI (6000 : Int32) ((zs 0) + r_28)) (va_cwS 2 hts (gBS b_267 b_268 b_5 b_269) rfl rfl rfl (by decide +kernel) ⟨Nat.le_of_ble_eq_true rfl, Nat.le_of_ble_eq_true rfl⟩) (pre_s eM_ok he hS (hP.sub (ws' := []) [] rfl) (hK.sub (tys' := []) [] rfl)) rfl rfl hl.1 rfl (lv_room (Nat.le_of_ble_eq_true rfl)) dX9_carry_231 ⟨Nat.zero_le _, Nat.zero_le _⟩) (fun r_29 hr_29 => ?_)
            have hE := hE.trans (spLet_eq hr_29)
            refine ra_st hx hb hK hP hD hS 1 0 rfl rfl (j := 0) (rfl : (0 : Int32) = nI 0) (by omega) (by omega) dX9_carry_234 (fun H locs hP hD hS => ?_)
            have hP : va_P (dC, dI) vwCl [(q0, .inr (9, [.ref q1, .ref q2, .int svc, .ref q3, .int tl, .int cde, .int mm, .int mr, .ref q4, .int ati, .int ors, .ref q5, .ref q6])), (q1, .inl (cyI, 246, .inl (upd zs 0 r_29))), (q2, .inl (cyI, 984, .inl zv)), (q3, .inl (cyI, 80, .inl zt)), (q4, .inl (cyI, 5, .inl zp)), (q5, .inl (cyI, 40, .inl zm)), (q6, .inl (cyI, 40, .inl zk))] H := hP
            have hD : va_D A [(q0, .inr (9, [.ref q1, .ref q2, .int svc, .ref q3, .int tl, .int cde, .int mm, .int mr, .ref q4, .int ati, .int ors, .ref q5, .ref q6])), (q1, .inl (cyI, 246, .inl (upd zs 0 r_29))), (q2, .inl (cyI, 984, .inl zv)), (q3, .inl (cyI, 80, .inl zt)), (q4, .inl (cyI, 5, .inl zp)), (q5, .inl (cyI, 40, .inl zm)), (q6, .inl (cyI, 40, .inl zk))] := hD
            obtain ⟨f_30, ef_30⟩ : ∃ y : Nat → Int32, y = upd zs 0 r_29 := ⟨_, rfl⟩
            rw [← ef_30] at hP hD
            have hE := hE.trans (spLet_eq ef_30)
            refine lv_goto (tgt := 324) hx hb dX9_carry_235 (by decide) ?_
            exact J324 f_30 _ _ hP hD hS ls (lv_sub hl [0] rfl) hE
          ·
            have hE := hE.trans (if_neg c_27)
            by_cases c_31 : mo = 5
            ·
              have hE := hE.trans (if_pos c_31)
              refine lv_tableIn (tgt := 238) (off := 237) hx hb dX9_carry_1 (by rw [c_31]; decide) (by rw [c_31]; decide) (by rw [c_31]; rfl) (by decide) ?_
              refine lv_aload_n hx hb dX9_carry_238 rfl (lv_at hl 0 rfl) ?_
              refine va_get (D := (dC, dI)) (ci := 9) (v := .ref q1) (C := RX9) (T := TX9) (N := 13) hx hb hts i_X9 hown hK hP 0 rfl rfl 0 (by decide) w_0 (fun _ h9 => h9) rfl dX9_carry_239 ?_
              refine lv_iconst (v := 0) hx hb dX9_carry_242 (by decide) ?_
              refine lv_sipush (v := 1000) hx hb dX9_carry_243 (by decide) ?_
              refine lv_aload_n hx hb dX9_carry_246 rfl (lv_at hl 0 rfl) ?_
              refine va_get (D := (dC, dI)) (ci := 9) (v := .ref q1) (C := RX9) (T := TX9) (N := 13) hx hb hts i_X9 hown hK hP 0 rfl rfl 0 (by decide) w_0 (fun _ h9 => h9) rfl dX9_carry_247 ?_
              refine lv_iconst (v := 0) hx hb dX9_carry_250 (by decide) ?_
              refine ra_ld hx hb hK hP 1 0 rfl rfl (j := 0) (rfl : (0 : Int32) = nI 0) (by omega) (by omega) dX9_carry_251 ?_
              refine lv_aload_n hx hb dX9_carry_252 rfl (lv_at hl 0 rfl) ?_
              refine lv_bipush (v := 10) hx hb dX9_carry_253 (by decide) ?_
              refine lv_iconst (v := 5) hx hb dX9_carry_255 (by decide) ?_
              refine vp_callSi (W.runV (As := [.int (10 : Int32), .int (5 : Int32)]) (rest := [.int (zs 0), .int (1000 : Int32), .int (0 : Int32), .ref q1]) ⟨hx, hb, hml, hown, hts⟩ (c_X9_speed l dC dI cyI q0 q1 q2 q3 q4 q5 q6 svc tl cde mm mr ati ors zs zv zt zp zm zk (10 : Int32) (5 : Int32)) (cwV 2 hts (gBV b_661 b_662 b_663 b_5 b_664) rfl rfl rfl (by decide +kernel) ⟨Nat.le_of_ble_eq_true rfl, Nat.le_of_ble_eq_true rfl⟩) (pre_v eM_ok he hS hP hK 0 rfl rfl rfl) rfl rfl hl.1 rfl (lv_room (Nat.le_of_ble_eq_true rfl)) dX9_carry_256 ⟨Nat.zero_le _, Nat.zero_le _⟩) (fun r_32 hr_32 => ?_)
              have hE := hE.trans (spLet_eq hr_32)
              refine lv_isub hx hb dX9_carry_259 ?_
              refine vp_callSi (W.runS (As := [.int (1000 : Int32), .int ((zs 0) - r_32)]) (rest := [.int (0 : Int32), .ref q1]) ⟨hx, hb, hml, hown, hts⟩ (c_X9_greater l dC dI cyI (1000 : Int32) ((zs 0) - r_32)) (va_cwS 2 hts (gBS b_393 b_394 b_5 b_395) rfl rfl rfl (by decide +kernel) ⟨Nat.le_of_ble_eq_true rfl, Nat.le_of_ble_eq_true rfl⟩) (pre_s eM_ok he hS (hP.sub (ws' := []) [] rfl) (hK.sub (tys' := []) [] rfl)) rfl rfl hl.1 rfl (lv_room (Nat.le_of_ble_eq_true rfl)) dX9_carry_260 ⟨Nat.zero_le _, Nat.zero_le _⟩) (fun r_33 hr_33 => ?_)
              have hE := hE.trans (spLet_eq hr_33)
              refine ra_st hx hb hK hP hD hS 1 0 rfl rfl (j := 0) (rfl : (0 : Int32) = nI 0) (by omega) (by omega) dX9_carry_263 (fun H locs hP hD hS => ?_)
              have hP : va_P (dC, dI) vwCl [(q0, .inr (9, [.ref q1, .ref q2, .int svc, .ref q3, .int tl, .int cde, .int mm, .int mr, .ref q4, .int ati, .int ors, .ref q5, .ref q6])), (q1, .inl (cyI, 246, .inl (upd zs 0 r_33))), (q2, .inl (cyI, 984, .inl zv)), (q3, .inl (cyI, 80, .inl zt)), (q4, .inl (cyI, 5, .inl zp)), (q5, .inl (cyI, 40, .inl zm)), (q6, .inl (cyI, 40, .inl zk))] H := hP
              have hD : va_D A [(q0, .inr (9, [.ref q1, .ref q2, .int svc, .ref q3, .int tl, .int cde, .int mm, .int mr, .ref q4, .int ati, .int ors, .ref q5, .ref q6])), (q1, .inl (cyI, 246, .inl (upd zs 0 r_33))), (q2, .inl (cyI, 984, .inl zv)), (q3, .inl (cyI, 80, .inl zt)), (q4, .inl (cyI, 5, .inl zp)), (q5, .inl (cyI, 40, .inl zm)), (q6, .inl (cyI, 40, .inl zk))] := hD
              obtain ⟨f_34, ef_34⟩ : ∃ y : Nat → Int32, y = upd zs 0 r_33 := ⟨_, rfl⟩
              rw [← ef_34] at hP hD
              have hE := hE.trans (spLet_eq ef_34)
              refine lv_goto (tgt := 324) hx hb dX9_carry_264 (by decide) ?_
              exact J324 f_34 _ _ hP hD hS ls (lv_sub hl [0] rfl) hE
            ·
              have hE := hE.trans (if_neg c_31)
              by_cases c_35 : mo = 6
              ·
                have hE := hE.trans (if_pos c_35)
                refine lv_tableIn (tgt := 267) (off := 266) hx hb dX9_carry_1 (by rw [c_35]; decide) (by rw [c_35]; decide) (by rw [c_35]; rfl) (by decide) ?_
                refine lv_aload_n hx hb dX9_carry_267 rfl (lv_at hl 0 rfl) ?_
                refine va_get (D := (dC, dI)) (ci := 9) (v := .ref q1) (C := RX9) (T := TX9) (N := 13) hx hb hts i_X9 hown hK hP 0 rfl rfl 0 (by decide) w_0 (fun _ h9 => h9) rfl dX9_carry_268 ?_
                refine lv_iconst (v := 2) hx hb dX9_carry_271 (by decide) ?_
                refine lv_aload_n hx hb dX9_carry_272 rfl (lv_at hl 0 rfl) ?_
                refine va_get (D := (dC, dI)) (ci := 9) (v := .ref q1) (C := RX9) (T := TX9) (N := 13) hx hb hts i_X9 hown hK hP 0 rfl rfl 0 (by decide) w_0 (fun _ h9 => h9) rfl dX9_carry_273 ?_
                refine lv_iconst (v := 2) hx hb dX9_carry_276 (by decide) ?_
                refine ra_ld hx hb hK hP 1 0 rfl rfl (j := 2) (rfl : (2 : Int32) = nI 2) (by omega) (by omega) dX9_carry_277 ?_
                refine lv_aload_n hx hb dX9_carry_278 rfl (lv_at hl 0 rfl) ?_
                refine lv_bipush (v := 15) hx hb dX9_carry_279 (by decide) ?_
                refine lv_bipush (v := 7) hx hb dX9_carry_281 (by decide) ?_
                refine vp_callSi (W.runV (As := [.int (15 : Int32), .int (7 : Int32)]) (rest := [.int (zs 2), .int (2 : Int32), .ref q1]) ⟨hx, hb, hml, hown, hts⟩ (c_X9_speed l dC dI cyI q0 q1 q2 q3 q4 q5 q6 svc tl cde mm mr ati ors zs zv zt zp zm zk (15 : Int32) (7 : Int32)) (cwV 2 hts (gBV b_661 b_662 b_663 b_5 b_664) rfl rfl rfl (by decide +kernel) ⟨Nat.le_of_ble_eq_true rfl, Nat.le_of_ble_eq_true rfl⟩) (pre_v eM_ok he hS hP hK 0 rfl rfl rfl) rfl rfl hl.1 rfl (lv_room (Nat.le_of_ble_eq_true rfl)) dX9_carry_283 ⟨Nat.zero_le _, Nat.zero_le _⟩) (fun r_36 hr_36 => ?_)
                have hE := hE.trans (spLet_eq hr_36)
                refine lv_iadd hx hb dX9_carry_286 ?_
                refine lv_sipush (v := 3600) hx hb dX9_carry_287 (by decide) ?_
                refine lv_irem hx hb dX9_carry_290 (by decide) ?_
                refine lv_topi (fun x_37 ex_37 => ?_)
                have hE := hE.trans (spLet_eq ex_37)
                refine ra_st hx hb hK hP hD hS 1 0 rfl rfl (j := 2) (rfl : (2 : Int32) = nI 2) (by omega) (by omega) dX9_carry_291 (fun H locs hP hD hS => ?_)
                have hP : va_P (dC, dI) vwCl [(q0, .inr (9, [.ref q1, .ref q2, .int svc, .ref q3, .int tl, .int cde, .int mm, .int mr, .ref q4, .int ati, .int ors, .ref q5, .ref q6])), (q1, .inl (cyI, 246, .inl (upd zs 2 x_37))), (q2, .inl (cyI, 984, .inl zv)), (q3, .inl (cyI, 80, .inl zt)), (q4, .inl (cyI, 5, .inl zp)), (q5, .inl (cyI, 40, .inl zm)), (q6, .inl (cyI, 40, .inl zk))] H := hP
                have hD : va_D A [(q0, .inr (9, [.ref q1, .ref q2, .int svc, .ref q3, .int tl, .int cde, .int mm, .int mr, .ref q4, .int ati, .int ors, .ref q5, .ref q6])), (q1, .inl (cyI, 246, .inl (upd zs 2 x_37))), (q2, .inl (cyI, 984, .inl zv)), (q3, .inl (cyI, 80, .inl zt)), (q4, .inl (cyI, 5, .inl zp)), (q5, .inl (cyI, 40, .inl zm)), (q6, .inl (cyI, 40, .inl zk))] := hD
                obtain ⟨f_38, ef_38⟩ : ∃ y : Nat → Int32, y = upd zs 2 x_37 := ⟨_, rfl⟩
                rw [← ef_38] at hP hD
                have hE := hE.trans (spLet_eq ef_38)
                refine lv_goto (tgt := 324) hx hb dX9_carry_292 (by decide) ?_
                exact J324 f_38 _ _ hP hD hS ls (lv_sub hl [0] rfl) hE
              ·
                have hE := hE.trans (if_neg c_35)
                refine lv_tableOut (tgt := 295) hx hb dX9_carry_1 (by
                    have n_c_4 : ¬ (mo).toInt = 0 := lv_neT c_4 rfl
                    have n_c_12 : ¬ (mo).toInt = 1 := lv_neT c_12 rfl
                    have n_c_19 : ¬ (mo).toInt = 2 := lv_neT c_19 rfl
                    have n_c_23 : ¬ (mo).toInt = 3 := lv_neT c_23 rfl
                    have n_c_27 : ¬ (mo).toInt = 4 := lv_neT c_27 rfl
                    have n_c_31 : ¬ (mo).toInt = 5 := lv_neT c_31 rfl
                    have n_c_35 : ¬ (mo).toInt = 6 := lv_neT c_35 rfl
                    omega) (by decide) ?_
                refine lv_aload_n hx hb dX9_carry_295 rfl (lv_at hl 0 rfl) ?_
                refine va_get (D := (dC, dI)) (ci := 9) (v := .ref q1) (C := RX9) (T := TX9) (N := 13) hx hb hts i_X9 hown hK hP 0 rfl rfl 0 (by decide) w_0 (fun _ h9 => h9) rfl dX9_carry_296 ?_
                refine lv_iconst (v := 2) hx hb dX9_carry_299 (by decide) ?_
                refine lv_aload_n hx hb dX9_carry_300 rfl (lv_at hl 0 rfl) ?_
                refine va_get (D := (dC, dI)) (ci := 9) (v := .ref q1) (C := RX9) (T := TX9) (N := 13) hx hb hts i_X9 hown hK hP 0 rfl rfl 0 (by decide) w_0 (fun _ h9 => h9) rfl dX9_carry_301 ?_
                refine lv_iconst (v := 2) hx hb dX9_carry_304 (by decide) ?_
                refine ra_ld hx hb hK hP 1 0 rfl rfl (j := 2) (rfl : (2 : Int32) = nI 2) (by omega) (by omega) dX9_carry_305 ?_
                refine lv_aload_n hx hb dX9_carry_306 rfl (lv_at hl 0 rfl) ?_
                refine lv_bipush (v := 15) hx hb dX9_carry_307 (by decide) ?_
                refine lv_bipush (v := 7) hx hb dX9_carry_309 (by decide) ?_
                refine vp_callSi (W.runV (As := [.int (15 : Int32), .int (7 : Int32)]) (rest := [.int (zs 2), .int (2 : Int32), .ref q1]) ⟨hx, hb, hml, hown, hts⟩ (c_X9_speed l dC dI cyI q0 q1 q2 q3 q4 q5 q6 svc tl cde mm mr ati ors zs zv zt zp zm zk (15 : Int32) (7 : Int32)) (cwV 2 hts (gBV b_661 b_662 b_663 b_5 b_664) rfl rfl rfl (by decide +kernel) ⟨Nat.le_of_ble_eq_true rfl, Nat.le_of_ble_eq_true rfl⟩) (pre_v eM_ok he hS hP hK 0 rfl rfl rfl) rfl rfl hl.1 rfl (lv_room (Nat.le_of_ble_eq_true rfl)) dX9_carry_311 ⟨Nat.zero_le _, Nat.zero_le _⟩) (fun r_39 hr_39 => ?_)
                have hE := hE.trans (spLet_eq hr_39)
                refine lv_isub hx hb dX9_carry_314 ?_
                refine lv_sipush (v := 3600) hx hb dX9_carry_315 (by decide) ?_
                refine lv_iadd hx hb dX9_carry_318 ?_
                refine lv_sipush (v := 3600) hx hb dX9_carry_319 (by decide) ?_
                refine lv_irem hx hb dX9_carry_322 (by decide) ?_
                refine lv_topi (fun x_40 ex_40 => ?_)
                have hE := hE.trans (spLet_eq ex_40)
                refine ra_st hx hb hK hP hD hS 1 0 rfl rfl (j := 2) (rfl : (2 : Int32) = nI 2) (by omega) (by omega) dX9_carry_323 (fun H locs hP hD hS => ?_)
                have hP : va_P (dC, dI) vwCl [(q0, .inr (9, [.ref q1, .ref q2, .int svc, .ref q3, .int tl, .int cde, .int mm, .int mr, .ref q4, .int ati, .int ors, .ref q5, .ref q6])), (q1, .inl (cyI, 246, .inl (upd zs 2 x_40))), (q2, .inl (cyI, 984, .inl zv)), (q3, .inl (cyI, 80, .inl zt)), (q4, .inl (cyI, 5, .inl zp)), (q5, .inl (cyI, 40, .inl zm)), (q6, .inl (cyI, 40, .inl zk))] H := hP
                have hD : va_D A [(q0, .inr (9, [.ref q1, .ref q2, .int svc, .ref q3, .int tl, .int cde, .int mm, .int mr, .ref q4, .int ati, .int ors, .ref q5, .ref q6])), (q1, .inl (cyI, 246, .inl (upd zs 2 x_40))), (q2, .inl (cyI, 984, .inl zv)), (q3, .inl (cyI, 80, .inl zt)), (q4, .inl (cyI, 5, .inl zp)), (q5, .inl (cyI, 40, .inl zm)), (q6, .inl (cyI, 40, .inl zk))] := hD
                obtain ⟨f_41, ef_41⟩ : ∃ y : Nat → Int32, y = upd zs 2 x_40 := ⟨_, rfl⟩
                rw [← ef_41] at hP hD
                have hE := hE.trans (spLet_eq ef_41)
                exact J324 f_41 _ _ hP hD hS ls (lv_sub hl [0] rfl) hE
def m_isAtEnd_j60 (zs : Nat → Int32) : Int32 :=
  spLet (m_height zs) (fun r_3 => if (zs 3) = (r_3 - (200 : Int32)) then (1 : Int32) else (0 : Int32))
def m_isAtEnd (zs : Nat → Int32) (mo : Int32) : Int32 :=
  if mo = 0 then (if (zs 4) = (4 : Int32) then (m_isAtEnd_j60 zs) else (if (zs 6) = 0 then (m_isAtEnd_j60 zs) else (0 : Int32))) else (if mo = 1 then (if (zs 3) = 0 then (if (zs 4) = 0 then (1 : Int32) else (0 : Int32)) else (0 : Int32)) else (if mo = 2 then (if (zs 1) = (850 : Int32) then (1 : Int32) else (0 : Int32)) else (if mo = 3 then (if (zs 1) = 0 then (1 : Int32) else (0 : Int32)) else (if mo = 4 then (if (zs 0) = (6000 : Int32) then (1 : Int32) else (0 : Int32)) else (if mo = 5 then (if (zs 0) = (1000 : Int32) then (1 : Int32) else (0 : Int32)) else (0 : Int32))))))
set_option maxHeartbeats 1000000 in
set_option maxRecDepth 100000 in
theorem c_X9_isAtEnd (l : Launch) (dC : Nat → ClassId) (dI : Nat → Nat → Nat) (cyI : ClassId) (q0 : Nat) (q1 : Nat) (q2 : Nat) (q3 : Nat) (q4 : Nat) (q5 : Nat) (q6 : Nat) (svc : Int32) (tl : Int32) (cde : Int32) (mm : Int32) (mr : Int32) (ati : Int32) (ors : Int32) (zs : Nat → Int32) (zv : Nat → Int32) (zt : Nat → Int32) (zp : Nat → Int32) (zm : Nat → Int32) (zk : Nat → Int32) (mo : Int32) : Met l yX9_isAtEnd wqX9_isAtEnd ({ frames := 4, cells := 0, slots := 0, locals := 83 } : Room) (va_Pc [.ref q0, .int mo] (pB (dC, dI) [(q0, .inr (9, [.ref q1, .ref q2, .int svc, .ref q3, .int tl, .int cde, .int mm, .int mr, .ref q4, .int ati, .int ors, .ref q5, .ref q6])), (q1, .inl (cyI, 246, .inl zs)), (q2, .inl (cyI, 984, .inl zv)), (q3, .inl (cyI, 80, .inl zt)), (q4, .inl (cyI, 5, .inl zp)), (q5, .inl (cyI, 40, .inl zm)), (q6, .inl (cyI, 40, .inl zk))] [(cyI, .int)] eM)) (vp_Si (fun r => r = (m_isAtEnd zs mo) ∧ (r = 0 ∨ r = 1))) 0 0 aF := by
  refine Met.ofW (cc := cX9_isAtEnd) (maxL := 2) (ret := (some .boolean)) (by decide) rfl ?_
  intro p e s m args below meth c s₁ B hml hv
  obtain ⟨rfl, hP, hK, he⟩ := hv
  have hx := B.exec
  have hb := B.bytes
  have hr := B.returns
  have hts := atoms_spec (ws := wqX9_isAtEnd) B.pre
  have hown : s.vm.findClass RX9 = some m.cls := findClass_of_methodNamed B.named
  have hlocks := B.notSynchronized
  have w_0 := hts (Cond.fieldLink RX9 7 "CraneLimiterModel" "s" "[I") (List.mem_cons_of_mem _ b_93)
  have i_X9 : ∀ w ∈ u_ws RX9 TX9 13, w ∈ wqX9_isAtEnd := fun w h => List.mem_cons_of_mem _ (bX9 w h)
  have hS : va_S aF s.heap s.heap [] := va_S.rf
  have hP : va_P (dC, dI) vwCl [(q0, .inr (9, [.ref q1, .ref q2, .int svc, .ref q3, .int tl, .int cde, .int mm, .int mr, .ref q4, .int ati, .int ors, .ref q5, .ref q6])), (q1, .inl (cyI, 246, .inl zs)), (q2, .inl (cyI, 984, .inl zv)), (q3, .inl (cyI, 80, .inl zt)), (q4, .inl (cyI, 5, .inl zp)), (q5, .inl (cyI, 40, .inl zm)), (q6, .inl (cyI, 40, .inl zk))] s.heap := hP
  have hl := lv_entry ([.ref q0, .int mo] : List Value) (n := 2) (Nat.le_of_ble_eq_true rfl)
  rw [lg_entry_eq]
  generalize (lg_sl ([.ref q0, .int mo] : List Value) ++ List.replicate (2 - (lg_sl ([.ref q0, .int mo] : List Value)).length) Slot.unset).toArray = ls at hl ⊢
  have hl : lv_has ls 2 [(0, .ref q0), (1, .int mo)] := hl
  have hE : m_isAtEnd zs mo = m_isAtEnd zs mo := rfl
  refine lv_iload_n hx hb dX9_isAtEnd_0 rfl (lv_at hl 1 rfl) ?_
  by_cases c_1 : mo = 0
  ·
    have hE := hE.trans (if_pos c_1)
    refine lv_tableIn (tgt := 40) (off := 39) hx hb dX9_isAtEnd_1 (by rw [c_1]; decide) (by rw [c_1]; decide) (by rw [c_1]; rfl) (by decide) ?_
    refine lv_aload_n hx hb dX9_isAtEnd_40 rfl (lv_at hl 0 rfl) ?_
    refine va_get (D := (dC, dI)) (ci := 9) (v := .ref q1) (C := RX9) (T := TX9) (N := 13) hx hb hts i_X9 hown hK hP 0 rfl rfl 0 (by decide) w_0 (fun _ h9 => h9) rfl dX9_isAtEnd_41 ?_
    refine lv_iconst (v := 4) hx hb dX9_isAtEnd_44 (by decide) ?_
    refine ra_ld hx hb hK hP 1 0 rfl rfl (j := 4) (rfl : (4 : Int32) = nI 4) (by omega) (by omega) dX9_isAtEnd_45 ?_
    refine lv_iconst (v := 4) hx hb dX9_isAtEnd_46 (by decide) ?_
    have J60 : ∀ (ls : Array Slot) (hl : lv_has ls 2 [(0, .ref q0)]) (hE : (m_isAtEnd zs mo) = m_isAtEnd_j60 zs), W p l e (headSpec wqX9_isAtEnd ({ frames := 4, cells := 0, slots := 0, locals := 83 } : Room)).room s m ([.ref q0, .int mo] : List Value).toArray below meth c s.heap [] 0 0 (MQ below (vp_Si (fun r => r = (m_isAtEnd zs mo) ∧ (r = 0 ∨ r = 1))) ([.ref q0, .int mo] : List Value).toArray s 0 0 aF) (F0 m 60 ls []) := by
      intro ls hl hE
      refine lv_aload_n hx hb dX9_isAtEnd_60 rfl (lv_at hl 0 rfl) ?_
      refine va_get (D := (dC, dI)) (ci := 9) (v := .ref q1) (C := RX9) (T := TX9) (N := 13) hx hb hts i_X9 hown hK hP 0 rfl rfl 0 (by decide) w_0 (fun _ h9 => h9) rfl dX9_isAtEnd_61 ?_
      refine lv_iconst (v := 3) hx hb dX9_isAtEnd_64 (by decide) ?_
      refine ra_ld hx hb hK hP 1 0 rfl rfl (j := 3) (rfl : (3 : Int32) = nI 3) (by omega) (by omega) dX9_isAtEnd_65 ?_
      refine lv_aload_n hx hb dX9_isAtEnd_66 rfl (lv_at hl 0 rfl) ?_
      refine vp_callSi (W.runV (As := []) (rest := [.int (zs 3)]) ⟨hx, hb, hml, hown, hts⟩ (c_X9_height l dC dI cyI q0 q1 q2 q3 q4 q5 q6 svc tl cde mm mr ati ors zs zv zt zp zm zk) (cwV 0 hts (gBV b_396 b_397 b_398 b_5 b_399) rfl rfl rfl (by decide +kernel) ⟨Nat.le_of_ble_eq_true rfl, Nat.le_of_ble_eq_true rfl⟩) (pre_v eM_ok he hS hP hK 0 rfl rfl rfl) rfl rfl hl.1 rfl (lv_room (Nat.le_of_ble_eq_true rfl)) dX9_isAtEnd_67 ⟨Nat.zero_le _, Nat.zero_le _⟩) (fun r_3 hr_3 => ?_)
      have hE := hE.trans (spLet_eq hr_3)
      refine lv_sipush (v := 200) hx hb dX9_isAtEnd_70 (by decide) ?_
      refine lv_isub hx hb dX9_isAtEnd_73 ?_
      refine lv_icmp_ne (tgt := 81) hx hb dX9_isAtEnd_74 (by decide) (fun c_4 => ?_) (fun c_4 => ?_)
      ·
        have hE := hE.trans (if_neg c_4)
        refine lv_iconst (v := 0) hx hb dX9_isAtEnd_81 (by decide) ?_
        exact W.zret (v := (0 : Int32)) hx hb hr rfl (fun t ht hW => ⟨_, rfl, ⟨hE.symm, (by decide)⟩, ht⟩) (fun q h => by cases h) dX9_isAtEnd_82
      ·
        have hE := hE.trans (if_pos c_4)
        refine lv_iconst (v := 1) hx hb dX9_isAtEnd_77 (by decide) ?_
        refine lv_goto (tgt := 82) hx hb dX9_isAtEnd_78 (by decide) ?_
        exact W.zret (v := (1 : Int32)) hx hb hr rfl (fun t ht hW => ⟨_, rfl, ⟨hE.symm, (by decide)⟩, ht⟩) (fun q h => by cases h) dX9_isAtEnd_82
    refine lv_icmp_eq (tgt := 60) hx hb dX9_isAtEnd_47 (by decide) (fun c_2 => ?_) (fun c_2 => ?_)
    ·
      have hE := hE.trans (if_pos c_2)
      exact J60 ls (lv_sub hl [0] rfl) hE
    ·
      have hE := hE.trans (if_neg c_2)
      refine lv_aload_n hx hb dX9_isAtEnd_50 rfl (lv_at hl 0 rfl) ?_
      refine va_get (D := (dC, dI)) (ci := 9) (v := .ref q1) (C := RX9) (T := TX9) (N := 13) hx hb hts i_X9 hown hK hP 0 rfl rfl 0 (by decide) w_0 (fun _ h9 => h9) rfl dX9_isAtEnd_51 ?_
      refine lv_bipush (v := 6) hx hb dX9_isAtEnd_54 (by decide) ?_
      refine ra_ld hx hb hK hP 1 0 rfl rfl (j := 6) (rfl : (6 : Int32) = nI 6) (by omega) (by omega) dX9_isAtEnd_56 ?_
      refine lv_if_ne (tgt := 81) hx hb dX9_isAtEnd_57 (by decide) (fun c_5 => ?_) (fun c_5 => ?_)
      ·
        have hE := hE.trans (if_neg c_5)
        refine lv_iconst (v := 0) hx hb dX9_isAtEnd_81 (by decide) ?_
        exact W.zret (v := (0 : Int32)) hx hb hr rfl (fun t ht hW => ⟨_, rfl, ⟨hE.symm, (by decide)⟩, ht⟩) (fun q h => by cases h) dX9_isAtEnd_82
      ·
        have hE := hE.trans (if_pos c_5)
        exact J60 ls (lv_sub hl [0] rfl) hE
  ·
    have hE := hE.trans (if_neg c_1)
    by_cases c_6 : mo = 1
    ·
      have hE := hE.trans (if_pos c_6)
      refine lv_tableIn (tgt := 83) (off := 82) hx hb dX9_isAtEnd_1 (by rw [c_6]; decide) (by rw [c_6]; decide) (by rw [c_6]; rfl) (by decide) ?_
      refine lv_aload_n hx hb dX9_isAtEnd_83 rfl (lv_at hl 0 rfl) ?_
      refine va_get (D := (dC, dI)) (ci := 9) (v := .ref q1) (C := RX9) (T := TX9) (N := 13) hx hb hts i_X9 hown hK hP 0 rfl rfl 0 (by decide) w_0 (fun _ h9 => h9) rfl dX9_isAtEnd_84 ?_
      refine lv_iconst (v := 3) hx hb dX9_isAtEnd_87 (by decide) ?_
      refine ra_ld hx hb hK hP 1 0 rfl rfl (j := 3) (rfl : (3 : Int32) = nI 3) (by omega) (by omega) dX9_isAtEnd_88 ?_
      refine lv_if_ne (tgt := 105) hx hb dX9_isAtEnd_89 (by decide) (fun c_7 => ?_) (fun c_7 => ?_)
      ·
        have hE := hE.trans (if_neg c_7)
        refine lv_iconst (v := 0) hx hb dX9_isAtEnd_105 (by decide) ?_
        exact W.zret (v := (0 : Int32)) hx hb hr rfl (fun t ht hW => ⟨_, rfl, ⟨hE.symm, (by decide)⟩, ht⟩) (fun q h => by cases h) dX9_isAtEnd_106
      ·
        have hE := hE.trans (if_pos c_7)
        refine lv_aload_n hx hb dX9_isAtEnd_92 rfl (lv_at hl 0 rfl) ?_
        refine va_get (D := (dC, dI)) (ci := 9) (v := .ref q1) (C := RX9) (T := TX9) (N := 13) hx hb hts i_X9 hown hK hP 0 rfl rfl 0 (by decide) w_0 (fun _ h9 => h9) rfl dX9_isAtEnd_93 ?_
        refine lv_iconst (v := 4) hx hb dX9_isAtEnd_96 (by decide) ?_
        refine ra_ld hx hb hK hP 1 0 rfl rfl (j := 4) (rfl : (4 : Int32) = nI 4) (by omega) (by omega) dX9_isAtEnd_97 ?_
        refine lv_if_ne (tgt := 105) hx hb dX9_isAtEnd_98 (by decide) (fun c_8 => ?_) (fun c_8 => ?_)
        ·
          have hE := hE.trans (if_neg c_8)
          refine lv_iconst (v := 0) hx hb dX9_isAtEnd_105 (by decide) ?_
          exact W.zret (v := (0 : Int32)) hx hb hr rfl (fun t ht hW => ⟨_, rfl, ⟨hE.symm, (by decide)⟩, ht⟩) (fun q h => by cases h) dX9_isAtEnd_106
        ·
          have hE := hE.trans (if_pos c_8)
          refine lv_iconst (v := 1) hx hb dX9_isAtEnd_101 (by decide) ?_
          refine lv_goto (tgt := 106) hx hb dX9_isAtEnd_102 (by decide) ?_
          exact W.zret (v := (1 : Int32)) hx hb hr rfl (fun t ht hW => ⟨_, rfl, ⟨hE.symm, (by decide)⟩, ht⟩) (fun q h => by cases h) dX9_isAtEnd_106
    ·
      have hE := hE.trans (if_neg c_6)
      by_cases c_9 : mo = 2
      ·
        have hE := hE.trans (if_pos c_9)
        refine lv_tableIn (tgt := 107) (off := 106) hx hb dX9_isAtEnd_1 (by rw [c_9]; decide) (by rw [c_9]; decide) (by rw [c_9]; rfl) (by decide) ?_
        refine lv_aload_n hx hb dX9_isAtEnd_107 rfl (lv_at hl 0 rfl) ?_
        refine va_get (D := (dC, dI)) (ci := 9) (v := .ref q1) (C := RX9) (T := TX9) (N := 13) hx hb hts i_X9 hown hK hP 0 rfl rfl 0 (by decide) w_0 (fun _ h9 => h9) rfl dX9_isAtEnd_108 ?_
        refine lv_iconst (v := 1) hx hb dX9_isAtEnd_111 (by decide) ?_
        refine ra_ld hx hb hK hP 1 0 rfl rfl (j := 1) (rfl : (1 : Int32) = nI 1) (by omega) (by omega) dX9_isAtEnd_112 ?_
        refine lv_sipush (v := 850) hx hb dX9_isAtEnd_113 (by decide) ?_
        refine lv_icmp_ne (tgt := 123) hx hb dX9_isAtEnd_116 (by decide) (fun c_10 => ?_) (fun c_10 => ?_)
        ·
          have hE := hE.trans (if_neg c_10)
          refine lv_iconst (v := 0) hx hb dX9_isAtEnd_123 (by decide) ?_
          exact W.zret (v := (0 : Int32)) hx hb hr rfl (fun t ht hW => ⟨_, rfl, ⟨hE.symm, (by decide)⟩, ht⟩) (fun q h => by cases h) dX9_isAtEnd_124
        ·
          have hE := hE.trans (if_pos c_10)
          refine lv_iconst (v := 1) hx hb dX9_isAtEnd_119 (by decide) ?_
          refine lv_goto (tgt := 124) hx hb dX9_isAtEnd_120 (by decide) ?_
          exact W.zret (v := (1 : Int32)) hx hb hr rfl (fun t ht hW => ⟨_, rfl, ⟨hE.symm, (by decide)⟩, ht⟩) (fun q h => by cases h) dX9_isAtEnd_124
      ·
        have hE := hE.trans (if_neg c_9)
        by_cases c_11 : mo = 3
        ·
          have hE := hE.trans (if_pos c_11)
          refine lv_tableIn (tgt := 125) (off := 124) hx hb dX9_isAtEnd_1 (by rw [c_11]; decide) (by rw [c_11]; decide) (by rw [c_11]; rfl) (by decide) ?_
          refine lv_aload_n hx hb dX9_isAtEnd_125 rfl (lv_at hl 0 rfl) ?_
          refine va_get (D := (dC, dI)) (ci := 9) (v := .ref q1) (C := RX9) (T := TX9) (N := 13) hx hb hts i_X9 hown hK hP 0 rfl rfl 0 (by decide) w_0 (fun _ h9 => h9) rfl dX9_isAtEnd_126 ?_
          refine lv_iconst (v := 1) hx hb dX9_isAtEnd_129 (by decide) ?_
          refine ra_ld hx hb hK hP 1 0 rfl rfl (j := 1) (rfl : (1 : Int32) = nI 1) (by omega) (by omega) dX9_isAtEnd_130 ?_
          refine lv_if_ne (tgt := 138) hx hb dX9_isAtEnd_131 (by decide) (fun c_12 => ?_) (fun c_12 => ?_)
          ·
            have hE := hE.trans (if_neg c_12)
            refine lv_iconst (v := 0) hx hb dX9_isAtEnd_138 (by decide) ?_
            exact W.zret (v := (0 : Int32)) hx hb hr rfl (fun t ht hW => ⟨_, rfl, ⟨hE.symm, (by decide)⟩, ht⟩) (fun q h => by cases h) dX9_isAtEnd_139
          ·
            have hE := hE.trans (if_pos c_12)
            refine lv_iconst (v := 1) hx hb dX9_isAtEnd_134 (by decide) ?_
            refine lv_goto (tgt := 139) hx hb dX9_isAtEnd_135 (by decide) ?_
            exact W.zret (v := (1 : Int32)) hx hb hr rfl (fun t ht hW => ⟨_, rfl, ⟨hE.symm, (by decide)⟩, ht⟩) (fun q h => by cases h) dX9_isAtEnd_139
        ·
          have hE := hE.trans (if_neg c_11)
          by_cases c_13 : mo = 4
          ·
            have hE := hE.trans (if_pos c_13)
            refine lv_tableIn (tgt := 140) (off := 139) hx hb dX9_isAtEnd_1 (by rw [c_13]; decide) (by rw [c_13]; decide) (by rw [c_13]; rfl) (by decide) ?_
            refine lv_aload_n hx hb dX9_isAtEnd_140 rfl (lv_at hl 0 rfl) ?_
            refine va_get (D := (dC, dI)) (ci := 9) (v := .ref q1) (C := RX9) (T := TX9) (N := 13) hx hb hts i_X9 hown hK hP 0 rfl rfl 0 (by decide) w_0 (fun _ h9 => h9) rfl dX9_isAtEnd_141 ?_
            refine lv_iconst (v := 0) hx hb dX9_isAtEnd_144 (by decide) ?_
            refine ra_ld hx hb hK hP 1 0 rfl rfl (j := 0) (rfl : (0 : Int32) = nI 0) (by omega) (by omega) dX9_isAtEnd_145 ?_
            refine lv_sipush (v := 6000) hx hb dX9_isAtEnd_146 (by decide) ?_
            refine lv_icmp_ne (tgt := 156) hx hb dX9_isAtEnd_149 (by decide) (fun c_14 => ?_) (fun c_14 => ?_)
            ·
              have hE := hE.trans (if_neg c_14)
              refine lv_iconst (v := 0) hx hb dX9_isAtEnd_156 (by decide) ?_
              exact W.zret (v := (0 : Int32)) hx hb hr rfl (fun t ht hW => ⟨_, rfl, ⟨hE.symm, (by decide)⟩, ht⟩) (fun q h => by cases h) dX9_isAtEnd_157
            ·
              have hE := hE.trans (if_pos c_14)
              refine lv_iconst (v := 1) hx hb dX9_isAtEnd_152 (by decide) ?_
              refine lv_goto (tgt := 157) hx hb dX9_isAtEnd_153 (by decide) ?_
              exact W.zret (v := (1 : Int32)) hx hb hr rfl (fun t ht hW => ⟨_, rfl, ⟨hE.symm, (by decide)⟩, ht⟩) (fun q h => by cases h) dX9_isAtEnd_157
          ·
            have hE := hE.trans (if_neg c_13)
            by_cases c_15 : mo = 5
            ·
              have hE := hE.trans (if_pos c_15)
              refine lv_tableIn (tgt := 158) (off := 157) hx hb dX9_isAtEnd_1 (by rw [c_15]; decide) (by rw [c_15]; decide) (by rw [c_15]; rfl) (by decide) ?_
              refine lv_aload_n hx hb dX9_isAtEnd_158 rfl (lv_at hl 0 rfl) ?_
              refine va_get (D := (dC, dI)) (ci := 9) (v := .ref q1) (C := RX9) (T := TX9) (N := 13) hx hb hts i_X9 hown hK hP 0 rfl rfl 0 (by decide) w_0 (fun _ h9 => h9) rfl dX9_isAtEnd_159 ?_
              refine lv_iconst (v := 0) hx hb dX9_isAtEnd_162 (by decide) ?_
              refine ra_ld hx hb hK hP 1 0 rfl rfl (j := 0) (rfl : (0 : Int32) = nI 0) (by omega) (by omega) dX9_isAtEnd_163 ?_
              refine lv_sipush (v := 1000) hx hb dX9_isAtEnd_164 (by decide) ?_
              refine lv_icmp_ne (tgt := 174) hx hb dX9_isAtEnd_167 (by decide) (fun c_16 => ?_) (fun c_16 => ?_)
              ·
                have hE := hE.trans (if_neg c_16)
                refine lv_iconst (v := 0) hx hb dX9_isAtEnd_174 (by decide) ?_
                exact W.zret (v := (0 : Int32)) hx hb hr rfl (fun t ht hW => ⟨_, rfl, ⟨hE.symm, (by decide)⟩, ht⟩) (fun q h => by cases h) dX9_isAtEnd_175
              ·
                have hE := hE.trans (if_pos c_16)
                refine lv_iconst (v := 1) hx hb dX9_isAtEnd_170 (by decide) ?_
                refine lv_goto (tgt := 175) hx hb dX9_isAtEnd_171 (by decide) ?_
                exact W.zret (v := (1 : Int32)) hx hb hr rfl (fun t ht hW => ⟨_, rfl, ⟨hE.symm, (by decide)⟩, ht⟩) (fun q h => by cases h) dX9_isAtEnd_175
            ·
              have hE := hE.trans (if_neg c_15)
              refine lv_tableOut (tgt := 176) hx hb dX9_isAtEnd_1 (by
                  have n_c_1 : ¬ (mo).toInt = 0 := lv_neT c_1 rfl
                  have n_c_6 : ¬ (mo).toInt = 1 := lv_neT c_6 rfl
                  have n_c_9 : ¬ (mo).toInt = 2 := lv_neT c_9 rfl
                  have n_c_11 : ¬ (mo).toInt = 3 := lv_neT c_11 rfl
                  have n_c_13 : ¬ (mo).toInt = 4 := lv_neT c_13 rfl
                  have n_c_15 : ¬ (mo).toInt = 5 := lv_neT c_15 rfl
                  omega) (by decide) ?_
              refine lv_iconst (v := 0) hx hb dX9_isAtEnd_176 (by decide) ?_
              exact W.zret (v := (0 : Int32)) hx hb hr rfl (fun t ht hW => ⟨_, rfl, ⟨hE.symm, (by decide)⟩, ht⟩) (fun q h => by cases h) dX9_isAtEnd_177

