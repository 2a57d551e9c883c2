def m_setOutrigger (svc : Int32) (zs : Nat → Int32) (zv : Nat → Int32) (og : Int32) (ex : Int32) : Int32 × Int32 × Int32 × (Nat → Int32) × (Nat → Int32) :=
  spLet (m_in og (0 : Int32) (3 : Int32)) (fun r_1 => if r_1 = 0 then (spLet (m_fails (1 : Int32)) (fun u_10 => ((u_10.1), svc, (u_10.2), zs, zv))) else (spLet (m_in ex (0 : Int32) (2 : Int32)) (fun r_3 => if r_3 = 0 then (spLet (m_fails (2 : Int32)) (fun u_5 => ((u_5.1), svc, (u_5.2), zs, zv))) else (spLet (m_change svc zs zv (43 + og.toNatClampNeg) ex) (fun u_8 => ((u_8.1), (u_8.2.1), (0 : Int32), (u_8.2.2.1), (u_8.2.2.2)))))))
set_option maxHeartbeats 1000000 in
set_option maxRecDepth 100000 in
theorem c_X9_setOutrigger (l : Launch) (dC : Nat → ClassId) (dI : Nat → Nat → Nat) (cyI : ClassId) (sz : Nat) (q0 : Nat) (q1 : Nat) (q2 : Nat) (q3 : Nat) (q4 : Nat) (q5 : Nat) (q6 : Nat) (svc : Int32) (tl : Int32) (cde : Int32) (mm : Int32) (mr : Int32) (ati : Int32) (ors : Int32) (zs : Nat → Int32) (zv : Nat → Int32) (zt : Nat → Int32) (zp : Nat → Int32) (zm : Nat → Int32) (zk : Nat → Int32) (og : Int32) (ex : Int32) (hsv : svc = nI svc.toNatClampNeg) (hs4 : svc.toNatClampNeg ≤ 4) (hG : mG zs) : Met l yX9_setOutrigger wqX9_setOutrigger ({ frames := 2, cells := 0, slots := 0, locals := 44 } : Room) (va_Pc [.ref q0, .int og, .int ex] (pC (dC, dI) [(q0, .inr (9, [.ref q1, .ref q2, .int svc, .ref q3, .int tl, .int cde, .int mm, .int mr, .ref q4, .int ati, .int ors, .ref q5, .ref q6])), (q1, .inl (cyI, 246, .inl zs)), (q2, .inl (cyI, 984, .inl zv)), (q3, .inl (cyI, 80, .inl zt)), (q4, .inl (cyI, 5, .inl zp)), (q5, .inl (cyI, 40, .inl zm)), (q6, .inl (cyI, 40, .inl zk))] [(cyI, .int)] eM sz)) (va_Qi (fun (r : Int32) (u : Int32 × Int32 × Int32 × (Nat → Int32) × (Nat → Int32)) => u = (m_setOutrigger svc zs zv og ex) ∧ r = u.1) (fun (u : Int32 × Int32 × Int32 × (Nat → Int32) × (Nat → Int32)) t => va_P (dC, dI) vwCl [(q0, .inr (9, [.ref q1, .ref q2, .int (u.2.1), .ref q3, .int tl, .int (u.2.2.1), .int mm, .int mr, .ref q4, .int ati, .int ors, .ref q5, .ref q6])), (q1, .inl (cyI, 246, .inl (u.2.2.2.1))), (q2, .inl (cyI, 984, .inl (u.2.2.2.2))), (q3, .inl (cyI, 80, .inl zt)), (q4, .inl (cyI, 5, .inl zp)), (q5, .inl (cyI, 40, .inl zm)), (q6, .inl (cyI, 40, .inl zk))] t.heap ∧ va_D (va_A [(q0, .inr (9, [.ref q1, .ref q2, .int svc, .ref q3, .int tl, .int cde, .int mm, .int mr, .ref q4, .int ati, .int ors, .ref q5, .ref q6])), (q1, .inl (cyI, 246, .inl zs)), (q2, .inl (cyI, 984, .inl zv)), (q3, .inl (cyI, 80, .inl zt)), (q4, .inl (cyI, 5, .inl zp)), (q5, .inl (cyI, 40, .inl zm)), (q6, .inl (cyI, 40, .inl zk))] sz) [(q0, .inr (9, [.ref q1, .ref q2, .int (u.2.1), .ref q3, .int tl, .int (u.2.2.1), .int mm, .int mr, .ref q4, .int ati, .int ors, .ref q5, .ref q6])), (q1, .inl (cyI, 246, .inl (u.2.2.2.1))), (q2, .inl (cyI, 984, .inl (u.2.2.2.2))), (q3, .inl (cyI, 80, .inl zt)), (q4, .inl (cyI, 5, .inl zp)), (q5, .inl (cyI, 40, .inl zm)), (q6, .inl (cyI, 40, .inl zk))]) (va_A [(q0, .inr (9, [.ref q1, .ref q2, .int svc, .ref q3, .int tl, .int cde, .int mm, .int mr, .ref q4, .int ati, .int ors, .ref q5, .ref q6])), (q1, .inl (cyI, 246, .inl zs)), (q2, .inl (cyI, 984, .inl zv)), (q3, .inl (cyI, 80, .inl zt)), (q4, .inl (cyI, 5, .inl zp)), (q5, .inl (cyI, 40, .inl zm)), (q6, .inl (cyI, 40, .inl zk))] sz)) 0 0 (va_A [(q0, .inr (9, [.ref q1, .ref q2, .int svc, .ref q3, .int tl, .int cde, .int mm, .int mr, .ref q4, .int ati, .int ors, .ref q5, .ref q6])), (q1, .inl (cyI, 246, .inl zs)), (q2, .inl (cyI, 984, .inl zv)), (q3, .inl (cyI, 80, .inl zt)), (q4, .inl (cyI, 5, .inl zp)), (q5, .inl (cyI, 40, .inl zm)), (q6, .inl (cyI, 40, .inl zk))] sz) := by
  refine Met.ofW (cc := cX9_setOutrigger) (maxL := 3) (ret := (some .int)) (by decide) rfl ?_
  intro p e s m args below meth c s₁ B hml hv
  obtain ⟨rfl, hsz, hP, hK, hD0, he⟩ := hv
  have hx := B.exec
  have hb := B.bytes
  have hr := B.returns
  have hts := atoms_spec (ws := wqX9_setOutrigger) B.pre
  have hown : s.vm.findClass RX9 = some m.cls := findClass_of_methodNamed B.named
  have hlocks := B.notSynchronized
  have w_0 := hts (Cond.fieldLink RX9 28 "CraneLimiterModel" "code" "I") (List.mem_cons_of_mem _ b_181)
  have i_X9 : ∀ w ∈ u_ws RX9 TX9 13, w ∈ wqX9_setOutrigger := fun w h => List.mem_cons_of_mem _ (bX9 w h)
  subst hsz
  have hD := hD0.self (sz := s.heap.size)
  generalize hAe : va_A [(q0, .inr (9, [.ref q1, .ref q2, .int svc, .ref q3, .int tl, .int cde, .int mm, .int mr, .ref q4, .int ati, .int ors, .ref q5, .ref q6])), (q1, .inl (cyI, 246, .inl zs)), (q2, .inl (cyI, 984, .inl zv)), (q3, .inl (cyI, 80, .inl zt)), (q4, .inl (cyI, 5, .inl zp)), (q5, .inl (cyI, 40, .inl zm)), (q6, .inl (cyI, 40, .inl zk))] s.heap.size = A at hD he ⊢
  have hA : ∀ q : Nat, s.heap.size ≤ q → A q := fun q h => by rw [← hAe]; exact Or.inr h
  have hS : va_S A s.heap s.heap [] := va_S.rf
  have hP : va_P (dC, dI) vwCl [(q0, .inr (9, [.ref q1, .ref q2, .int svc, .ref q3, .int tl, .int cde, .int mm, .int mr, .ref q4, .int ati, .int ors, .ref q5, .ref q6])), (q1, .inl (cyI, 246, .inl zs)), (q2, .inl (cyI, 984, .inl zv)), (q3, .inl (cyI, 80, .inl zt)), (q4, .inl (cyI, 5, .inl zp)), (q5, .inl (cyI, 40, .inl zm)), (q6, .inl (cyI, 40, .inl zk))] s.heap := hP
  have hl := lv_entry ([.ref q0, .int og, .int ex] : List Value) (n := 3) (Nat.le_of_ble_eq_true rfl)
  rw [lg_entry_eq]
  generalize (lg_sl ([.ref q0, .int og, .int ex] : List Value) ++ List.replicate (3 - (lg_sl ([.ref q0, .int og, .int ex] : List Value)).length) Slot.unset).toArray = ls at hl ⊢
  have hl : lv_has ls 3 [(0, .ref q0), (1, .int og), (2, .int ex)] := hl
  have hE : m_setOutrigger svc zs zv og ex = m_setOutrigger svc zs zv og ex := rfl
  refine lv_aload_n hx hb dX9_setOutrigger_0 rfl (lv_at hl 0 rfl) ?_
  refine lv_iconst (v := 0) hx hb dX9_setOutrigger_1 (by decide) ?_
  refine va_put (D := (dC, dI)) (ci := 9) (v := .int (0 : Int32)) (ty := .int) (C := RX9) (T := TX9) (N := 13) hx hb hts i_X9 tyX9 tyX9_ok nmX9 hown hK hP hD hS 0 rfl rfl 5 (by decide) w_0 (fun _ h9 => h9) rfl (by decide +kernel) (rfl) (rfl) (Nat.le_of_ble_eq_true rfl) dX9_setOutrigger_2 (fun H locs hP hD hS => ?_)
  have hP : va_P (dC, dI) vwCl [(q0, .inr (9, [.ref q1, .ref q2, .int svc, .ref q3, .int tl, .int (0 : Int32), .int mm, .int mr, .ref q4, .int ati, .int ors, .ref q5, .ref q6])), (q1, .inl (cyI, 246, .inl zs)), (q2, .inl (cyI, 984, .inl zv)), (q3, .inl (cyI, 80, .inl zt)), (q4, .inl (cyI, 5, .inl zp)), (q5, .inl (cyI, 40, .inl zm)), (q6, .inl (cyI, 40, .inl zk))] H := hP
  have hD : va_D A [(q0, .inr (9, [.ref q1, .ref q2, .int svc, .ref q3, .int tl, .int (0 : Int32), .int mm, .int mr, .ref q4, .int ati, .int ors, .ref q5, .ref q6])), (q1, .inl (cyI, 246, .inl zs)), (q2, .inl (cyI, 984, .inl zv)), (q3, .inl (cyI, 80, .inl zt)), (q4, .inl (cyI, 5, .inl zp)), (q5, .inl (cyI, 40, .inl zm)), (q6, .inl (cyI, 40, .inl zk))] := hD
  refine lv_iload_n hx hb dX9_setOutrigger_5 rfl (lv_at hl 1 rfl) ?_
  refine lv_iconst (v := 0) hx hb dX9_setOutrigger_6 (by decide) ?_
  refine lv_iconst (v := 3) hx hb dX9_setOutrigger_7 (by decide) ?_
  refine vp_callSi (W.runS (As := [.int og, .int (0 : Int32), .int (3 : Int32)]) (rest := []) ⟨hx, hb, hml, hown, hts⟩ (c_X9_in l dC dI cyI og (0 : Int32) (3 : Int32)) (va_cwS 3 hts (gBS b_182 b_183 b_5 b_184) rfl rfl rfl (by decide +kernel) ⟨Nat.le_of_ble_eq_true rfl, Nat.le_of_ble_eq_true rfl⟩) (pre_s eM_ok he hS (hP.sub (ws' := []) [] rfl) (hK.sub (tys' := []) [] rfl)) rfl rfl hl.1 rfl (lv_room (Nat.le_of_ble_eq_true rfl)) dX9_setOutrigger_8 ⟨Nat.zero_le _, Nat.zero_le _⟩) (fun r_1 hr_1 => ?_)
  obtain ⟨hr_1, hbr_1⟩ := hr_1
  have hE := hE.trans (spLet_eq hr_1)
  refine lv_if_ne (tgt := 20) hx hb dX9_setOutrigger_11 (by decide) (fun c_2 => ?_) (fun c_2 => ?_)
  ·
    have hE := hE.trans (if_neg c_2)
    have ho := in_n (n := 3) (by decide) hr_1 (by assumption)
    have ho2 := ho.2
    refine lv_iload_n hx hb dX9_setOutrigger_20 rfl (lv_at hl 2 rfl) ?_
    refine lv_iconst (v := 0) hx hb dX9_setOutrigger_21 (by decide) ?_
    refine lv_iconst (v := 2) hx hb dX9_setOutrigger_22 (by decide) ?_
    refine vp_callSi (W.runS (As := [.int ex, .int (0 : Int32), .int (2 : Int32)]) (rest := []) ⟨hx, hb, hml, hown, hts⟩ (c_X9_in l dC dI cyI ex (0 : Int32) (2 : Int32)) (va_cwS 3 hts (gBS b_182 b_183 b_5 b_184) rfl rfl rfl (by decide +kernel) ⟨Nat.le_of_ble_eq_true rfl, Nat.le_of_ble_eq_true rfl⟩) (pre_s eM_ok he hS (hP.sub (ws' := []) [] rfl) (hK.sub (tys' := []) [] rfl)) rfl rfl hl.1 rfl (lv_room (Nat.le_of_ble_eq_true rfl)) dX9_setOutrigger_23 ⟨Nat.zero_le _, Nat.zero_le _⟩) (fun r_3 hr_3 => ?_)
    obtain ⟨hr_3, hbr_3⟩ := hr_3
    have hE := hE.trans (spLet_eq hr_3)
    refine lv_if_eq (tgt := 41) hx hb dX9_setOutrigger_26 (by decide) (fun c_4 => ?_) (fun c_4 => ?_)
    ·
      have hE := hE.trans (if_pos c_4)
      refine lv_aload_n hx hb dX9_setOutrigger_41 rfl (lv_at hl 0 rfl) ?_
      refine lv_iconst (v := 2) hx hb dX9_setOutrigger_42 (by decide) ?_
      refine mj_i (wr := []) (va_runV (As := [.int (2 : Int32)]) (rest := []) ⟨hx, hb, hml, hown, hts⟩ (c_X9_fails l dC dI cyI H.size q0 q1 q2 q3 q4 q5 q6 svc tl (0 : Int32) mm mr ati ors zs zv zt zp zm zk (2 : Int32)) (cwV 1 hts (gBV b_185 b_186 b_187 b_5 b_188) rfl rfl rfl (by decide +kernel) ⟨Nat.le_of_ble_eq_true rfl, Nat.le_of_ble_eq_true rfl⟩) (prm_v eM_ok he hS hP hD hK (va_free (wc := [(q0, .inr (9, [.ref q1, .ref q2, .int svc, .ref q3, .int tl, .int (0 : Int32), .int mm, .int mr, .ref q4, .int ati, .int ors, .ref q5, .ref q6])), (q1, .inl (cyI, 246, .inl zs)), (q2, .inl (cyI, 984, .inl zv)), (q3, .inl (cyI, 80, .inl zt)), (q4, .inl (cyI, 5, .inl zp)), (q5, .inl (cyI, 40, .inl zm)), (q6, .inl (cyI, 40, .inl zk))]) hD hS hA [0, 1, 2, 3, 4, 5, 6] rfl) 0 rfl rfl rfl) rfl rfl hl.1 rfl (lv_room (Nat.le_of_ble_eq_true rfl)) dX9_setOutrigger_43 ⟨Nat.le_of_ble_eq_true rfl, Nat.le_of_ble_eq_true rfl⟩) hP hD hS hA [0, 1, 2, 3, 4, 5, 6] [] rfl rfl (by decide) (by decide) (fun r_6 u_5 H locs hw hP hD hS => ?_)
      obtain ⟨hu_5, rfl⟩ := hw
      have hE := hE.trans (spLet_eq hu_5)
      have hP : va_P (dC, dI) vwCl [(q0, .inr (9, [.ref q1, .ref q2, .int svc, .ref q3, .int tl, .int (u_5.2), .int mm, .int mr, .ref q4, .int ati, .int ors, .ref q5, .ref q6])), (q1, .inl (cyI, 246, .inl zs)), (q2, .inl (cyI, 984, .inl zv)), (q3, .inl (cyI, 80, .inl zt)), (q4, .inl (cyI, 5, .inl zp)), (q5, .inl (cyI, 40, .inl zm)), (q6, .inl (cyI, 40, .inl zk))] H := hP
      have hD : va_D A [(q0, .inr (9, [.ref q1, .ref q2, .int svc, .ref q3, .int tl, .int (u_5.2), .int mm, .int mr, .ref q4, .int ati, .int ors, .ref q5, .ref q6])), (q1, .inl (cyI, 246, .inl zs)), (q2, .inl (cyI, 984, .inl zv)), (q3, .inl (cyI, 80, .inl zt)), (q4, .inl (cyI, 5, .inl zp)), (q5, .inl (cyI, 40, .inl zm)), (q6, .inl (cyI, 40, .inl zk))] := hD
      exact W.iret (v := (u_5.1)) hx hb hr (fun t h9 hW => ⟨⟨(u_5.1), (((u_5.1), svc, (u_5.2), zs, zv) : Int32 × Int32 × Int32 × (Nat → Int32) × (Nat → Int32)), rfl, ⟨hE.symm, rfl⟩, by rw [h9]; exact hP, hD⟩, hS.F h9⟩) hS.2.2 dX9_setOutrigger_46
    ·
      have hE := hE.trans (if_neg c_4)
      refine lv_aload_n hx hb dX9_setOutrigger_29 rfl (lv_at hl 0 rfl) ?_
      refine lv_bipush (v := 43) hx hb dX9_setOutrigger_30 (by decide) ?_
      refine lv_iload_n hx hb dX9_setOutrigger_32 rfl (lv_at hl 1 rfl) ?_
      refine lv_iadd hx hb dX9_setOutrigger_33 ?_
      refine lv_topi (fun y_7 ey_7 => ?_)
      obtain rfl : y_7 = nI (43 + og.toNatClampNeg) := ey_7.trans (nadd (rfl : (43 : Int32) = nI 43) ho.1)
      refine lv_iload_n hx hb dX9_setOutrigger_34 rfl (lv_at hl 2 rfl) ?_
      refine mj_i (wr := []) (va_runV (As := [.int (nI (43 + og.toNatClampNeg)), .int ex]) (rest := []) ⟨hx, hb, hml, hown, hts⟩ (c_X9_change l dC dI cyI H.size q0 q1 q2 q3 q4 q5 q6 svc tl (0 : Int32) mm mr ati ors zs zv zt zp zm zk (43 + og.toNatClampNeg) ex hsv hs4 (by omega)) (cwV 2 hts (gBV b_189 b_190 b_191 b_5 b_192) rfl rfl rfl (by decide +kernel) ⟨Nat.le_of_ble_eq_true rfl, Nat.le_of_ble_eq_true rfl⟩) (prm_v eM_ok he hS hP hD hK (va_free (wc := [(q0, .inr (9, [.ref q1, .ref q2, .int svc, .ref q3, .int tl, .int (0 : Int32), .int mm, .int mr, .ref q4, .int ati, .int ors, .ref q5, .ref q6])), (q1, .inl (cyI, 246, .inl zs)), (q2, .inl (cyI, 984, .inl zv)), (q3, .inl (cyI, 80, .inl zt)), (q4, .inl (cyI, 5, .inl zp)), (q5, .inl (cyI, 40, .inl zm)), (q6, .inl (cyI, 40, .inl zk))]) hD hS hA [0, 1, 2, 3, 4, 5, 6] rfl) 0 rfl rfl rfl) rfl rfl hl.1 rfl (lv_room (Nat.le_of_ble_eq_true rfl)) dX9_setOutrigger_35 ⟨Nat.le_of_ble_eq_true rfl, Nat.le_of_ble_eq_true rfl⟩) hP hD hS hA [0, 1, 2, 3, 4, 5, 6] [] rfl rfl (by decide) (by decide) (fun r_9 u_8 H locs hw hP hD hS => ?_)
      obtain ⟨hu_8, rfl⟩ := hw
      have hE := hE.trans (spLet_eq hu_8)
      have hP : va_P (dC, dI) vwCl [(q0, .inr (9, [.ref q1, .ref q2, .int (u_8.2.1), .ref q3, .int tl, .int (0 : Int32), .int mm, .int mr, .ref q4, .int ati, .int ors, .ref q5, .ref q6])), (q1, .inl (cyI, 246, .inl (u_8.2.2.1))), (q2, .inl (cyI, 984, .inl (u_8.2.2.2))), (q3, .inl (cyI, 80, .inl zt)), (q4, .inl (cyI, 5, .inl zp)), (q5, .inl (cyI, 40, .inl zm)), (q6, .inl (cyI, 40, .inl zk))] H := hP
      have hD : va_D A [(q0, .inr (9, [.ref q1, .ref q2, .int (u_8.2.1), .ref q3, .int tl, .int (0 : Int32), .int mm, .int mr, .ref q4, .int ati, .int ors, .ref q5, .ref q6])), (q1, .inl (cyI, 246, .inl (u_8.2.2.1))), (q2, .inl (cyI, 984, .inl (u_8.2.2.2))), (q3, .inl (cyI, 80, .inl zt)), (q4, .inl (cyI, 5, .inl zp)), (q5, .inl (cyI, 40, .inl zm)), (q6, .inl (cyI, 40, .inl zk))] := hD
      refine lv_goto (tgt := 46) hx hb dX9_setOutrigger_38 (by decide) ?_
      exact W.iret (v := (u_8.1)) hx hb hr (fun t h9 hW => ⟨⟨(u_8.1), (((u_8.1), (u_8.2.1), (0 : Int32), (u_8.2.2.1), (u_8.2.2.2)) : Int32 × Int32 × Int32 × (Nat → Int32) × (Nat → Int32)), rfl, ⟨hE.symm, rfl⟩, by rw [h9]; exact hP, hD⟩, hS.F h9⟩) hS.2.2 dX9_setOutrigger_46
  ·
    have hE := hE.trans (if_pos c_2)
    refine lv_aload_n hx hb dX9_setOutrigger_14 rfl (lv_at hl 0 rfl) ?_
    refine lv_iconst (v := 1) hx hb dX9_setOutrigger_15 (by decide) ?_
    refine mj_i (wr := []) (va_runV (As := [.int (1 : Int32)]) (rest := []) ⟨hx, hb, hml, hown, hts⟩ (c_X9_fails l dC dI cyI H.size q0 q1 q2 q3 q4 q5 q6 svc tl (0 : Int32) mm mr ati ors zs zv zt zp zm zk (1 : Int32)) (cwV 1 hts (gBV b_185 b_186 b_187 b_5 b_188) rfl rfl rfl (by decide +kernel) ⟨Nat.le_of_ble_eq_true rfl, Nat.le_of_ble_eq_true rfl⟩) (prm_v eM_ok he hS hP hD hK (va_free (wc := [(q0, .inr (9, [.ref q1, .ref q2, .int svc, .ref q3, .int tl, .int (0 : Int32), .int mm, .int mr, .ref q4, .int ati, .int ors, .ref q5, .ref q6])), (q1, .inl (cyI, 246, .inl zs)), (q2, .inl (cyI, 984, .inl zv)), (q3, .inl (cyI, 80, .inl zt)), (q4, .inl (cyI, 5, .inl zp)), (q5, .inl (cyI, 40, .inl zm)), (q6, .inl (cyI, 40, .inl zk))]) hD hS hA [0, 1, 2, 3, 4, 5, 6] rfl) 0 rfl rfl rfl) rfl rfl hl.1 rfl (lv_room (Nat.le_of_ble_eq_true rfl)) dX9_setOutrigger_16 ⟨Nat.le_of_ble_eq_true rfl, Nat.le_of_ble_eq_true rfl⟩) hP hD hS hA [0, 1, 2, 3, 4, 5, 6] [] rfl rfl (by decide) (by decide) (fun r_11 u_10 H locs hw hP hD hS => ?_)
    obtain ⟨hu_10, rfl⟩ := hw
    have hE := hE.trans (spLet_eq hu_10)
    have hP : va_P (dC, dI) vwCl [(q0, .inr (9, [.ref q1, .ref q2, .int svc, .ref q3, .int tl, .int (u_10.2), .int mm, .int mr, .ref q4, .int ati, .int ors, .ref q5, .ref q6])), (q1, .inl (cyI, 246, .inl zs)), (q2, .inl (cyI, 984, .inl zv)), (q3, .inl (cyI, 80, .inl zt)), (q4, .inl (cyI, 5, .inl zp)), (q5, .inl (cyI, 40, .inl zm)), (q6, .inl (cyI, 40, .inl zk))] H := hP
    have hD : va_D A [(q0, .inr (9, [.ref q1, .ref q2, .int svc, .ref q3, .int tl, .int (u_10.2), .int mm, .int mr, .ref q4, .int ati, .int ors, .ref q5, .ref q6])), (q1, .inl (cyI, 246, .inl zs)), (q2, .inl (cyI, 984, .inl zv)), (q3, .inl (cyI, 80, .inl zt)), (q4, .inl (cyI, 5, .inl zp)), (q5, .inl (cyI, 40, .inl zm)), (q6, .inl (cyI, 40, .inl zk))] := hD
    exact W.iret (v := (u_10.1)) hx hb hr (fun t h9 hW => ⟨⟨(u_10.1), (((u_10.1), svc, (u_10.2), zs, zv) : Int32 × Int32 × Int32 × (Nat → Int32) × (Nat → Int32)), rfl, ⟨hE.symm, rfl⟩, by rw [h9]; exact hP, hD⟩, hS.F h9⟩) hS.2.2 dX9_setOutrigger_19
def m_setOnWheels_j17 (svc : Int32) (zs : Nat → Int32) (zv : Nat → Int32) (t0_17 : Int32) : Int32 × Int32 × Int32 × (Nat → Int32) × (Nat → Int32) :=
  spLet (m_change svc zs zv 10 t0_17) (fun u_2 => if (u_2.1) = (1 : Int32) then (((1 : Int32), (u_2.2.1), (0 : Int32), (u_2.2.2.1), (u_2.2.2.2))) else (((0 : Int32), (u_2.2.1), (0 : Int32), (u_2.2.2.1), (u_2.2.2.2))))
def m_setOnWheels (svc : Int32) (zs : Nat → Int32) (zv : Nat → Int32) (wh : Int32) : Int32 × Int32 × Int32 × (Nat → Int32) × (Nat → Int32) :=
  if wh = 0 then (m_setOnWheels_j17 svc zs zv (0 : Int32)) else (m_setOnWheels_j17 svc zs zv (1 : Int32))
set_option maxHeartbeats 1000000 in
set_option maxRecDepth 100000 in
theorem c_X9_setOnWheels (l : Launch) (dC : Nat → ClassId) (dI : Nat → Nat → Nat) (cyI : ClassId) (sz : Nat) (q0 : Nat) (q1 : Nat) (q2 : Nat) (q3 : Nat) (q4 : Nat) (q5 : Nat) (q6 : Nat) (svc : Int32) (tl : Int32) (cde : Int32) (mm : Int32) (mr : Int32) (ati : Int32) (ors : Int32) (zs : Nat → Int32) (zv : Nat → Int32) (zt : Nat → Int32) (zp : Nat → Int32) (zm : Nat → Int32) (zk : Nat → Int32) (wh : Int32) (hsv : svc = nI svc.toNatClampNeg) (hs4 : svc.toNatClampNeg ≤ 4) (hG : mG zs) : Met l yX9_setOnWheels wqX9_setOnWheels ({ frames := 2, cells := 0, slots := 0, locals := 44 } : Room) (va_Pc [.ref q0, .int wh] (pC (dC, dI) [(q0, .inr (9, [.ref q1, .ref q2, .int svc, .ref q3, .int tl, .int cde, .int mm, .int mr, .ref q4, .int ati, .int ors, .ref q5, .ref q6])), (q1, .inl (cyI, 246, .inl zs)), (q2, .inl (cyI, 984, .inl zv)), (q3, .inl (cyI, 80, .inl zt)), (q4, .inl (cyI, 5, .inl zp)), (q5, .inl (cyI, 40, .inl zm)), (q6, .inl (cyI, 40, .inl zk))] [(cyI, .int)] eM sz)) (va_Qi (fun (r : Int32) (u : Int32 × Int32 × Int32 × (Nat → Int32) × (Nat → Int32)) => u = (m_setOnWheels svc zs zv wh) ∧ r = u.1 ∧ (r = 0 ∨ r = 1)) (fun (u : Int32 × Int32 × Int32 × (Nat → Int32) × (Nat → Int32)) t => va_P (dC, dI) vwCl [(q0, .inr (9, [.ref q1, .ref q2, .int (u.2.1), .ref q3, .int tl, .int (u.2.2.1), .int mm, .int mr, .ref q4, .int ati, .int ors, .ref q5, .ref q6])), (q1, .inl (cyI, 246, .inl (u.2.2.2.1))), (q2, .inl (cyI, 984, .inl (u.2.2.2.2))), (q3, .inl (cyI, 80, .inl zt)), (q4, .inl (cyI, 5, .inl zp)), (q5, .inl (cyI, 40, .inl zm)), (q6, .inl (cyI, 40, .inl zk))] t.heap ∧ va_D (va_A [(q0, .inr (9, [.ref q1, .ref q2, .int svc, .ref q3, .int tl, .int cde, .int mm, .int mr, .ref q4, .int ati, .int ors, .ref q5, .ref q6])), (q1, .inl (cyI, 246, .inl zs)), (q2, .inl (cyI, 984, .inl zv)), (q3, .inl (cyI, 80, .inl zt)), (q4, .inl (cyI, 5, .inl zp)), (q5, .inl (cyI, 40, .inl zm)), (q6, .inl (cyI, 40, .inl zk))] sz) [(q0, .inr (9, [.ref q1, .ref q2, .int (u.2.1), .ref q3, .int tl, .int (u.2.2.1), .int mm, .int mr, .ref q4, .int ati, .int ors, .ref q5, .ref q6])), (q1, .inl (cyI, 246, .inl (u.2.2.2.1))), (q2, .inl (cyI, 984, .inl (u.2.2.2.2))), (q3, .inl (cyI, 80, .inl zt)), (q4, .inl (cyI, 5, .inl zp)), (q5, .inl (cyI, 40, .inl zm)), (q6, .inl (cyI, 40, .inl zk))]) (va_A [(q0, .inr (9, [.ref q1, .ref q2, .int svc, .ref q3, .int tl, .int cde, .int mm, .int mr, .ref q4, .int ati, .int ors, .ref q5, .ref q6])), (q1, .inl (cyI, 246, .inl zs)), (q2, .inl (cyI, 984, .inl zv)), (q3, .inl (cyI, 80, .inl zt)), (q4, .inl (cyI, 5, .inl zp)), (q5, .inl (cyI, 40, .inl zm)), (q6, .inl (cyI, 40, .inl zk))] sz)) 0 0 (va_A [(q0, .inr (9, [.ref q1, .ref q2, .int svc, .ref q3, .int tl, .int cde, .int mm, .int mr, .ref q4, .int ati, .int ors, .ref q5, .ref q6])), (q1, .inl (cyI, 246, .inl zs)), (q2, .inl (cyI, 984, .inl zv)), (q3, .inl (cyI, 80, .inl zt)), (q4, .inl (cyI, 5, .inl zp)), (q5, .inl (cyI, 40, .inl zm)), (q6, .inl (cyI, 40, .inl zk))] sz) := by
  refine Met.ofW (cc := cX9_setOnWheels) (maxL := 2) (ret := (some .boolean)) (by decide) rfl ?_
  intro p e s m args below meth c s₁ B hml hv
  obtain ⟨rfl, hsz, hP, hK, hD0, he⟩ := hv
  have hx := B.exec
  have hb := B.bytes
  have hr := B.returns
  have hts := atoms_spec (ws := wqX9_setOnWheels) B.pre
  have hown : s.vm.findClass RX9 = some m.cls := findClass_of_methodNamed B.named
  have hlocks := B.notSynchronized
  have w_0 := hts (Cond.fieldLink RX9 28 "CraneLimiterModel" "code" "I") (List.mem_cons_of_mem _ b_181)
  have i_X9 : ∀ w ∈ u_ws RX9 TX9 13, w ∈ wqX9_setOnWheels := fun w h => List.mem_cons_of_mem _ (bX9 w h)
  subst hsz
  have hD := hD0.self (sz := s.heap.size)
  generalize hAe : va_A [(q0, .inr (9, [.ref q1, .ref q2, .int svc, .ref q3, .int tl, .int cde, .int mm, .int mr, .ref q4, .int ati, .int ors, .ref q5, .ref q6])), (q1, .inl (cyI, 246, .inl zs)), (q2, .inl (cyI, 984, .inl zv)), (q3, .inl (cyI, 80, .inl zt)), (q4, .inl (cyI, 5, .inl zp)), (q5, .inl (cyI, 40, .inl zm)), (q6, .inl (cyI, 40, .inl zk))] s.heap.size = A at hD he ⊢
  have hA : ∀ q : Nat, s.heap.size ≤ q → A q := fun q h => by rw [← hAe]; exact Or.inr h
  have hS : va_S A s.heap s.heap [] := va_S.rf
  have hP : va_P (dC, dI) vwCl [(q0, .inr (9, [.ref q1, .ref q2, .int svc, .ref q3, .int tl, .int cde, .int mm, .int mr, .ref q4, .int ati, .int ors, .ref q5, .ref q6])), (q1, .inl (cyI, 246, .inl zs)), (q2, .inl (cyI, 984, .inl zv)), (q3, .inl (cyI, 80, .inl zt)), (q4, .inl (cyI, 5, .inl zp)), (q5, .inl (cyI, 40, .inl zm)), (q6, .inl (cyI, 40, .inl zk))] s.heap := hP
  have hl := lv_entry ([.ref q0, .int wh] : List Value) (n := 2) (Nat.le_of_ble_eq_true rfl)
  rw [lg_entry_eq]
  generalize (lg_sl ([.ref q0, .int wh] : List Value) ++ List.replicate (2 - (lg_sl ([.ref q0, .int wh] : List Value)).length) Slot.unset).toArray = ls at hl ⊢
  have hl : lv_has ls 2 [(0, .ref q0), (1, .int wh)] := hl
  have hE : m_setOnWheels svc zs zv wh = m_setOnWheels svc zs zv wh := rfl
  refine lv_aload_n hx hb dX9_setOnWheels_0 rfl (lv_at hl 0 rfl) ?_
  refine lv_iconst (v := 0) hx hb dX9_setOnWheels_1 (by decide) ?_
  refine va_put (D := (dC, dI)) (ci := 9) (v := .int (0 : Int32)) (ty := .int) (C := RX9) (T := TX9) (N := 13) hx hb hts i_X9 tyX9 tyX9_ok nmX9 hown hK hP hD hS 0 rfl rfl 5 (by decide) w_0 (fun _ h9 => h9) rfl (by decide +kernel) (rfl) (rfl) (Nat.le_of_ble_eq_true rfl) dX9_setOnWheels_2 (fun H locs hP hD hS => ?_)
  have hP : va_P (dC, dI) vwCl [(q0, .inr (9, [.ref q1, .ref q2, .int svc, .ref q3, .int tl, .int (0 : Int32), .int mm, .int mr, .ref q4, .int ati, .int ors, .ref q5, .ref q6])), (q1, .inl (cyI, 246, .inl zs)), (q2, .inl (cyI, 984, .inl zv)), (q3, .inl (cyI, 80, .inl zt)), (q4, .inl (cyI, 5, .inl zp)), (q5, .inl (cyI, 40, .inl zm)), (q6, .inl (cyI, 40, .inl zk))] H := hP
  have hD : va_D A [(q0, .inr (9, [.ref q1, .ref q2, .int svc, .ref q3, .int tl, .int (0 : Int32), .int mm, .int mr, .ref q4, .int ati, .int ors, .ref q5, .ref q6])), (q1, .inl (cyI, 246, .inl zs)), (q2, .inl (cyI, 984, .inl zv)), (q3, .inl (cyI, 80, .inl zt)), (q4, .inl (cyI, 5, .inl zp)), (q5, .inl (cyI, 40, .inl zm)), (q6, .inl (cyI, 40, .inl zk))] := hD
  refine lv_aload_n hx hb dX9_setOnWheels_5 rfl (lv_at hl 0 rfl) ?_
  refine lv_bipush (v := 10) hx hb dX9_setOnWheels_6 (by decide) ?_
  refine lv_iload_n hx hb dX9_setOnWheels_8 rfl (lv_at hl 1 rfl) ?_
  have J17 : ∀ (t0_17 : Int32) (ls : Array Slot) (hl : lv_has ls 2 []) (hE : (m_setOnWheels svc zs zv wh) = m_setOnWheels_j17 svc zs zv t0_17), W p l e (headSpec wqX9_setOnWheels ({ frames := 2, cells := 0, slots := 0, locals := 44 } : Room)).room s m ([.ref q0, .int wh] : List Value).toArray below meth c H locs 0 0 (MQ below (va_Qi (fun (r : Int32) (u : Int32 × Int32 × Int32 × (Nat → Int32) × (Nat → Int32)) => u = (m_setOnWheels svc zs zv wh) ∧ r = u.1 ∧ (r = 0 ∨ r = 1)) (fun (u : Int32 × Int32 × Int32 × (Nat → Int32) × (Nat → Int32)) t => va_P (dC, dI) vwCl [(q0, .inr (9, [.ref q1, .ref q2, .int (u.2.1), .ref q3, .int tl, .int (u.2.2.1), .int mm, .int mr, .ref q4, .int ati, .int ors, .ref q5, .ref q6])), (q1, .inl (cyI, 246, .inl (u.2.2.2.1))), (q2, .inl (cyI, 984, .inl (u.2.2.2.2))), (q3, .inl (cyI, 80, .inl zt)), (q4, .inl (cyI, 5, .inl zp)), (q5, .inl (cyI, 40, .inl zm)), (q6, .inl (cyI, 40, .inl zk))] t.heap ∧ va_D A [(q0, .inr (9, [.ref q1, .ref q2, .int (u.2.1), .ref q3, .int tl, .int (u.2.2.1), .int mm, .int mr, .ref q4, .int ati, .int ors, .ref q5, .ref q6])), (q1, .inl (cyI, 246, .inl (u.2.2.2.1))), (q2, .inl (cyI, 984, .inl (u.2.2.2.2))), (q3, .inl (cyI, 80, .inl zt)), (q4, .inl (cyI, 5, .inl zp)), (q5, .inl (cyI, 40, .inl zm)), (q6, .inl (cyI, 40, .inl zk))]) A) ([.ref q0, .int wh] : List Value).toArray s 0 0 A) (F0 m 17 ls [.int t0_17, .int (10 : Int32), .ref q0]) := by
    intro t0_17 ls hl hE
    refine mj_i (wr := []) (va_runV (As := [.int (10 : Int32), .int t0_17]) (rest := []) ⟨hx, hb, hml, hown, hts⟩ (c_X9_change l dC dI cyI H.size q0 q1 q2 q3 q4 q5 q6 svc tl (0 : Int32) mm mr ati ors zs zv zt zp zm zk 10 t0_17 hsv hs4 (by omega)) (cwV 2 hts (gBV b_189 b_190 b_191 b_5 b_192) rfl rfl rfl (by decide +kernel) ⟨Nat.le_of_ble_eq_true rfl, Nat.le_of_ble_eq_true rfl⟩) (prm_v eM_ok he hS hP hD hK (va_free (wc := [(q0, .inr (9, [.ref q1, .ref q2, .int svc, .ref q3, .int tl, .int (0 : Int32), .int mm, .int mr, .ref q4, .int ati, .int ors, .ref q5, .ref q6])), (q1, .inl (cyI, 246, .inl zs)), (q2, .inl (cyI, 984, .inl zv)), (q3, .inl (cyI, 80, .inl zt)), (q4, .inl (cyI, 5, .inl zp)), (q5, .inl (cyI, 40, .inl zm)), (q6, .inl (cyI, 40, .inl zk))]) hD hS hA [0, 1, 2, 3, 4, 5, 6] rfl) 0 rfl rfl rfl) rfl rfl hl.1 rfl (lv_room (Nat.le_of_ble_eq_true rfl)) dX9_setOnWheels_17 ⟨Nat.le_of_ble_eq_true rfl, Nat.le_of_ble_eq_true rfl⟩) hP hD hS hA [0, 1, 2, 3, 4, 5, 6] [] rfl rfl (by decide) (by decide) (fun r_3 u_2 H locs hw hP hD hS => ?_)
    obtain ⟨hu_2, rfl⟩ := hw
    have hE := hE.trans (spLet_eq hu_2)
    have hP : va_P (dC, dI) vwCl [(q0, .inr (9, [.ref q1, .ref q2, .int (u_2.2.1), .ref q3, .int tl, .int (0 : Int32), .int mm, .int mr, .ref q4, .int ati, .int ors, .ref q5, .ref q6])), (q1, .inl (cyI, 246, .inl (u_2.2.2.1))), (q2, .inl (cyI, 984, .inl (u_2.2.2.2))), (q3, .inl (cyI, 80, .inl zt)), (q4, .inl (cyI, 5, .inl zp)), (q5, .inl (cyI, 40, .inl zm)), (q6, .inl (cyI, 40, .inl zk))] H := hP
    have hD : va_D A [(q0, .inr (9, [.ref q1, .ref q2, .int (u_2.2.1), .ref q3, .int tl, .int (0 : Int32), .int mm, .int mr, .ref q4, .int ati, .int ors, .ref q5, .ref q6])), (q1, .inl (cyI, 246, .inl (u_2.2.2.1))), (q2, .inl (cyI, 984, .inl (u_2.2.2.2))), (q3, .inl (cyI, 80, .inl zt)), (q4, .inl (cyI, 5, .inl zp)), (q5, .inl (cyI, 40, .inl zm)), (q6, .inl (cyI, 40, .inl zk))] := hD
    refine lv_iconst (v := 1) hx hb dX9_setOnWheels_20 (by decide) ?_
    refine lv_icmp_ne (tgt := 28) hx hb dX9_setOnWheels_21 (by decide) (fun c_4 => ?_) (fun c_4 => ?_)
    ·
      have hE := hE.trans (if_neg c_4)
      refine lv_iconst (v := 0) hx hb dX9_setOnWheels_28 (by decide) ?_
      exact W.zret (v := (0 : Int32)) hx hb hr rfl (fun t h9 hW => ⟨⟨(0 : Int32), (((0 : Int32), (u_2.2.1), (0 : Int32), (u_2.2.2.1), (u_2.2.2.2)) : Int32 × Int32 × Int32 × (Nat → Int32) × (Nat → Int32)), rfl, ⟨hE.symm, rfl, (by decide)⟩, by rw [h9]; exact hP, hD⟩, hS.F h9⟩) hS.2.2 dX9_setOnWheels_29
    ·
      have hE := hE.trans (if_pos c_4)
      refine lv_iconst (v := 1) hx hb dX9_setOnWheels_24 (by decide) ?_
      refine lv_goto (tgt := 29) hx hb dX9_setOnWheels_25 (by decide) ?_
      exact W.zret (v := (1 : Int32)) hx hb hr rfl (fun t h9 hW => ⟨⟨(1 : Int32), (((1 : Int32), (u_2.2.1), (0 : Int32), (u_2.2.2.1), (u_2.2.2.2)) : Int32 × Int32 × Int32 × (Nat → Int32) × (Nat → Int32)), rfl, ⟨hE.symm, rfl, (by decide)⟩, by rw [h9]; exact hP, hD⟩, hS.F h9⟩) hS.2.2 dX9_setOnWheels_29
  refine lv_if_eq (tgt := 16) hx hb dX9_setOnWheels_9 (by decide) (fun c_1 => ?_) (fun c_1 => ?_)
  ·
    have hE := hE.trans (if_pos c_1)
    refine lv_iconst (v := 0) hx hb dX9_setOnWheels_16 (by decide) ?_
    exact J17 (0 : Int32) ls (lv_sub hl [] rfl) hE
  ·
    have hE := hE.trans (if_neg c_1)
    refine lv_iconst (v := 1) hx hb dX9_setOnWheels_12 (by decide) ?_
    refine lv_goto (tgt := 17) hx hb dX9_setOnWheels_13 (by decide) ?_
    exact J17 (1 : Int32) ls (lv_sub hl [] rfl) hE
def m_isPlace (ta : Int32) (ro : Int32) (co : Int32) : Int32 :=
  spLet (m_in ta (0 : Int32) (3 : Int32)) (fun r_1 => if r_1 = 0 then (0 : Int32) else (spLet (m_in ro (0 : Int32) (3 : Int32)) (fun r_3 => if r_3 = 0 then (0 : Int32) else (spLet (m_in co (0 : Int32) (5 : Int32)) (fun r_5 => if r_5 = 0 then (0 : Int32) else (1 : Int32))))))
set_option maxHeartbeats 1000000 in
set_option maxRecDepth 100000 in
theorem c_X9_isPlace (l : Launch) (dC : Nat → ClassId) (dI : Nat → Nat → Nat) (cyI : ClassId) (ta : Int32) (ro : Int32) (co : Int32) : Met l yX9_isPlace wqX9_isPlace ({ frames := 1, cells := 0, slots := 0, locals := 22 } : Room) (va_Pc [.int ta, .int ro, .int co] (pB (dC, dI) [] [] eM)) (vp_Si (fun r => r = (m_isPlace ta ro co) ∧ (r = 0 ∨ r = 1))) 0 0 aF := by
  refine Met.ofW (cc := cX9_isPlace) (maxL := 3) (ret := (some .boolean)) (by decide) rfl ?_
  intro p e s m args below meth c s₁ B hml hv
  obtain ⟨rfl, hP, hK, he⟩ := hv
  have hx := B.exec
  have hb := B.bytes
  have hr := B.returns
  have hts := atoms_spec (ws := wqX9_isPlace) B.pre
  have hown : s.vm.findClass RX9 = some m.cls := findClass_of_methodNamed B.named
  have hlocks := B.notSynchronized
  have hS : va_S aF s.heap s.heap [] := va_S.rf
  have hP : va_P (dC, dI) vwCl [] s.heap := hP
  have hl := lv_entry ([.int ta, .int ro, .int co] : List Value) (n := 3) (Nat.le_of_ble_eq_true rfl)
  rw [lg_entry_eq]
  generalize (lg_sl ([.int ta, .int ro, .int co] : List Value) ++ List.replicate (3 - (lg_sl ([.int ta, .int ro, .int co] : List Value)).length) Slot.unset).toArray = ls at hl ⊢
  have hl : lv_has ls 3 [(0, .int ta), (1, .int ro), (2, .int co)] := hl
  have hE : m_isPlace ta ro co = m_isPlace ta ro co := rfl
  refine lv_iload_n hx hb dX9_isPlace_0 rfl (lv_at hl 0 rfl) ?_
  refine lv_iconst (v := 0) hx hb dX9_isPlace_1 (by decide) ?_
  refine lv_iconst (v := 3) hx hb dX9_isPlace_2 (by decide) ?_
  refine vp_callSi (W.runS (As := [.int ta, .int (0 : Int32), .int (3 : Int32)]) (rest := []) ⟨hx, hb, hml, hown, hts⟩ (c_X9_in l dC dI cyI ta (0 : Int32) (3 : Int32)) (va_cwS 3 hts (gBS b_182 b_183 b_5 b_184) rfl rfl rfl (by decide +kernel) ⟨Nat.le_of_ble_eq_true rfl, Nat.le_of_ble_eq_true rfl⟩) (pre_s eM_ok he hS hP hK) rfl rfl hl.1 rfl (lv_room (Nat.le_of_ble_eq_true rfl)) dX9_isPlace_3 ⟨Nat.zero_le _, Nat.zero_le _⟩) (fun r_1 hr_1 => ?_)
  obtain ⟨hr_1, hbr_1⟩ := hr_1
  have hE := hE.trans (spLet_eq hr_1)
  refine lv_if_eq (tgt := 31) hx hb dX9_isPlace_6 (by decide) (fun c_2 => ?_) (fun c_2 => ?_)
  ·
    have hE := hE.trans (if_pos c_2)
    refine lv_iconst (v := 0) hx hb dX9_isPlace_31 (by decide) ?_
    exact W.zret (v := (0 : Int32)) hx hb hr rfl (fun t ht hW => ⟨_, rfl, ⟨hE.symm, (by decide)⟩, ht⟩) (fun q h => by cases h) dX9_isPlace_32
  ·
    have hE := hE.trans (if_neg c_2)
    refine lv_iload_n hx hb dX9_isPlace_9 rfl (lv_at hl 1 rfl) ?_
    refine lv_iconst (v := 0) hx hb dX9_isPlace_10 (by decide) ?_
    refine lv_iconst (v := 3) hx hb dX9_isPlace_11 (by decide) ?_
    refine vp_callSi (W.runS (As := [.int ro, .int (0 : Int32), .int (3 : Int32)]) (rest := []) ⟨hx, hb, hml, hown, hts⟩ (c_X9_in l dC dI cyI ro (0 : Int32) (3 : Int32)) (va_cwS 3 hts (gBS b_182 b_183 b_5 b_184) rfl rfl rfl (by decide +kernel) ⟨Nat.le_of_ble_eq_true rfl, Nat.le_of_ble_eq_true rfl⟩) (pre_s eM_ok he hS hP hK) rfl rfl hl.1 rfl (lv_room (Nat.le_of_ble_eq_true rfl)) dX9_isPlace_12 ⟨Nat.zero_le _, Nat.zero_le _⟩) (fun r_3 hr_3 => ?_)
    obtain ⟨hr_3, hbr_3⟩ := hr_3
    have hE := hE.trans (spLet_eq hr_3)
    refine lv_if_eq (tgt := 31) hx hb dX9_isPlace_15 (by decide) (fun c_4 => ?_) (fun c_4 => ?_)
    ·
      have hE := hE.trans (if_pos c_4)
      refine lv_iconst (v := 0) hx hb dX9_isPlace_31 (by decide) ?_
      exact W.zret (v := (0 : Int32)) hx hb hr rfl (fun t ht hW => ⟨_, rfl, ⟨hE.symm, (by decide)⟩, ht⟩) (fun q h => by cases h) dX9_isPlace_32
    ·
      have hE := hE.trans (if_neg c_4)
      refine lv_iload_n hx hb dX9_isPlace_18 rfl (lv_at hl 2 rfl) ?_
      refine lv_iconst (v := 0) hx hb dX9_isPlace_19 (by decide) ?_
      refine lv_iconst (v := 5) hx hb dX9_isPlace_20 (by decide) ?_
      refine vp_callSi (W.runS (As := [.int co, .int (0 : Int32), .int (5 : Int32)]) (rest := []) ⟨hx, hb, hml, hown, hts⟩ (c_X9_in l dC dI cyI co (0 : Int32) (5 : Int32)) (va_cwS 3 hts (gBS b_182 b_183 b_5 b_184) rfl rfl rfl (by decide +kernel) ⟨Nat.le_of_ble_eq_true rfl, Nat.le_of_ble_eq_true rfl⟩) (pre_s eM_ok he hS hP hK) rfl rfl hl.1 rfl (lv_room (Nat.le_of_ble_eq_true rfl)) dX9_isPlace_21 ⟨Nat.zero_le _, Nat.zero_le _⟩) (fun r_5 hr_5 => ?_)
      obtain ⟨hr_5, hbr_5⟩ := hr_5
      have hE := hE.trans (spLet_eq hr_5)
      refine lv_if_eq (tgt := 31) hx hb dX9_isPlace_24 (by decide) (fun c_6 => ?_) (fun c_6 => ?_)
      ·
        have hE := hE.trans (if_pos c_6)
        refine lv_iconst (v := 0) hx hb dX9_isPlace_31 (by decide) ?_
        exact W.zret (v := (0 : Int32)) hx hb hr rfl (fun t ht hW => ⟨_, rfl, ⟨hE.symm, (by decide)⟩, ht⟩) (fun q h => by cases h) dX9_isPlace_32
      ·
        have hE := hE.trans (if_neg c_6)
        refine lv_iconst (v := 1) hx hb dX9_isPlace_27 (by decide) ?_
        refine lv_goto (tgt := 32) hx hb dX9_isPlace_28 (by decide) ?_
        exact W.zret (v := (1 : Int32)) hx hb hr rfl (fun t ht hW => ⟨_, rfl, ⟨hE.symm, (by decide)⟩, ht⟩) (fun q h => by cases h) dX9_isPlace_32

