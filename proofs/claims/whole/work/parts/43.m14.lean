def m_readsOrder_j131 (ors : Int32) (zm : Nat → Int32) (zk : Nat → Int32) (x_10 : Int32) (u_12 : Int32 × Int32) (t0_131 : Int32) : Int32 × Int32 × Int32 × (Nat → Int32) × (Nat → Int32) :=
  spLet (upd zm (ors.toNatClampNeg) t0_131) (fun f_17 => spLet (upd zk (ors.toNatClampNeg) x_10) (fun f_18 => ((1 : Int32), (nI ((u_12.2).toNatClampNeg + 1)), (nI (ors.toNatClampNeg + 1)), f_17, f_18)))
def m_readsOrder_j81 (tl : Int32) (ors : Int32) (zt : Nat → Int32) (zm : Nat → Int32) (zk : Nat → Int32) (v2_81 : Int32) (w0_9_81 : Int32) : Int32 × Int32 × Int32 × (Nat → Int32) × (Nat → Int32) :=
  spLet (m_number tl w0_9_81 zt) (fun u_8 => spLet ((u_8.1)) (fun x_10 => if x_10 = 0 then (((0 : Int32), (u_8.2), ors, zm, zk)) else (spLet (m_sign tl (u_8.2) zt) (fun u_12 => if (u_12.1) = (59 : Int32) then (if v2_81 = (-1 : Int32) then (m_readsOrder_j131 ors zm zk x_10 u_12 (0 : Int32)) else (m_readsOrder_j131 ors zm zk x_10 u_12 ((1 : Int32) <<< (v2_81 &&& 31)))) else (((0 : Int32), (u_12.2), ors, zm, zk))))))
def m_readsOrder_j69 (tl : Int32) (ors : Int32) (zt : Nat → Int32) (zm : Nat → Int32) (zk : Nat → Int32) (r_4 : Int32) (u_20 : Int32 × Int32) (t0_69 : Int32) : Int32 × Int32 × Int32 × (Nat → Int32) × (Nat → Int32) :=
  spLet ((r_4 + t0_69)) (fun x_25 => m_readsOrder_j81 tl ors zt zm zk x_25 (nI ((u_20.2).toNatClampNeg + 1)))
def m_readsOrder_j57 (tl : Int32) (ors : Int32) (zt : Nat → Int32) (zm : Nat → Int32) (zk : Nat → Int32) (r_4 : Int32) (u_20 : Int32 × Int32) (x_22 : Int32) : Int32 × Int32 × Int32 × (Nat → Int32) × (Nat → Int32) :=
  if x_22 = (45 : Int32) then (m_readsOrder_j69 tl ors zt zm zk r_4 u_20 (1 : Int32)) else (m_readsOrder_j69 tl ors zt zm zk r_4 u_20 (0 : Int32))
def m_readsOrder_j23 (tl : Int32) (ors : Int32) (zt : Nat → Int32) (zm : Nat → Int32) (zk : Nat → Int32) (u_1 : Int32 × Int32) (r_4 : Int32) : Int32 × Int32 × Int32 × (Nat → Int32) × (Nat → Int32) :=
  if r_4 = (-1 : Int32) then (m_readsOrder_j81 tl ors zt zm zk r_4 (nI ((u_1.2).toNatClampNeg + 1))) else (spLet (m_sign tl (nI ((u_1.2).toNatClampNeg + 1)) zt) (fun u_20 => spLet ((u_20.1)) (fun x_22 => if x_22 = (43 : Int32) then (m_readsOrder_j57 tl ors zt zm zk r_4 u_20 x_22) else (if x_22 = (45 : Int32) then (m_readsOrder_j57 tl ors zt zm zk r_4 u_20 x_22) else (((0 : Int32), (u_20.2), ors, zm, zk))))))
def m_readsOrder (tl : Int32) (ati : Int32) (ors : Int32) (zt : Nat → Int32) (zm : Nat → Int32) (zk : Nat → Int32) : Int32 × Int32 × Int32 × (Nat → Int32) × (Nat → Int32) :=
  spLet (m_sign tl ati zt) (fun u_1 => spLet ((u_1.1)) (fun x_3 => spLet (m_firstMotion x_3) (fun r_4 => if r_4 = (-1 : Int32) then (if x_3 = (119 : Int32) then (m_readsOrder_j23 tl ors zt zm zk u_1 r_4) else (((0 : Int32), (u_1.2), ors, zm, zk))) else (m_readsOrder_j23 tl ors zt zm zk u_1 r_4))))
set_option maxHeartbeats 1000000 in
set_option maxRecDepth 100000 in
theorem c_X9_readsOrder (l : Launch) (dC : Nat → ClassId) (dI : Nat → Nat → Nat) (cyI : ClassId) (sz : Nat) (q0 : Nat) (q1 : Nat) (q2 : Nat) (q3 : Nat) (q4 : Nat) (q5 : Nat) (q6 : Nat) (svc : Int32) (tl : Int32) (cde : Int32) (mm : Int32) (mr : Int32) (ati : Int32) (ors : Int32) (zs : Nat → Int32) (zv : Nat → Int32) (zt : Nat → Int32) (zp : Nat → Int32) (zm : Nat → Int32) (zk : Nat → Int32) (htl : tl = nI tl.toNatClampNeg) (ht80 : tl.toNatClampNeg ≤ 80) (hat : ati = nI ati.toNatClampNeg) (ha80 : ati.toNatClampNeg ≤ 80) (hor : ors = nI ors.toNatClampNeg) (h3 : 3 * ors.toNatClampNeg ≤ ati.toNatClampNeg) : Met l yX9_readsOrder wqX9_readsOrder ({ frames := 3, cells := 0, slots := 0, locals := 62 } : Room) (va_Pc [.ref q0] (pC (dC, dI) [(q0, .inr (9, [.ref q1, .ref q2, .int svc, .ref q3, .int tl, .int cde, .int mm, .int mr, .ref q4, .int ati, .int ors, .ref q5, .ref q6])), (q1, .inl (cyI, 246, .inl zs)), (q2, .inl (cyI, 984, .inl zv)), (q3, .inl (cyI, 80, .inl zt)), (q4, .inl (cyI, 5, .inl zp)), (q5, .inl (cyI, 40, .inl zm)), (q6, .inl (cyI, 40, .inl zk))] [(cyI, .int)] eM sz)) (va_Qi (fun (r : Int32) (u : Int32 × Int32 × Int32 × (Nat → Int32) × (Nat → Int32)) => u = (m_readsOrder tl ati ors zt zm zk) ∧ r = u.1 ∧ (r = 0 ∨ r = 1)) (fun (u : Int32 × Int32 × Int32 × (Nat → Int32) × (Nat → Int32)) t => va_P (dC, dI) vwCl [(q0, .inr (9, [.ref q1, .ref q2, .int svc, .ref q3, .int tl, .int cde, .int mm, .int mr, .ref q4, .int (u.2.1), .int (u.2.2.1), .ref q5, .ref q6])), (q1, .inl (cyI, 246, .inl zs)), (q2, .inl (cyI, 984, .inl zv)), (q3, .inl (cyI, 80, .inl zt)), (q4, .inl (cyI, 5, .inl zp)), (q5, .inl (cyI, 40, .inl (u.2.2.2.1))), (q6, .inl (cyI, 40, .inl (u.2.2.2.2)))] t.heap ∧ va_D (va_A [(q0, .inr (9, [.ref q1, .ref q2, .int svc, .ref q3, .int tl, .int cde, .int mm, .int mr, .ref q4, .int ati, .int ors, .ref q5, .ref q6])), (q1, .inl (cyI, 246, .inl zs)), (q2, .inl (cyI, 984, .inl zv)), (q3, .inl (cyI, 80, .inl zt)), (q4, .inl (cyI, 5, .inl zp)), (q5, .inl (cyI, 40, .inl zm)), (q6, .inl (cyI, 40, .inl zk))] sz) [(q0, .inr (9, [.ref q1, .ref q2, .int svc, .ref q3, .int tl, .int cde, .int mm, .int mr, .ref q4, .int (u.2.1), .int (u.2.2.1), .ref q5, .ref q6])), (q1, .inl (cyI, 246, .inl zs)), (q2, .inl (cyI, 984, .inl zv)), (q3, .inl (cyI, 80, .inl zt)), (q4, .inl (cyI, 5, .inl zp)), (q5, .inl (cyI, 40, .inl (u.2.2.2.1))), (q6, .inl (cyI, 40, .inl (u.2.2.2.2)))]) (va_A [(q0, .inr (9, [.ref q1, .ref q2, .int svc, .ref q3, .int tl, .int cde, .int mm, .int mr, .ref q4, .int ati, .int ors, .ref q5, .ref q6])), (q1, .inl (cyI, 246, .inl zs)), (q2, .inl (cyI, 984, .inl zv)), (q3, .inl (cyI, 80, .inl zt)), (q4, .inl (cyI, 5, .inl zp)), (q5, .inl (cyI, 40, .inl zm)), (q6, .inl (cyI, 40, .inl zk))] sz)) 0 0 (va_A [(q0, .inr (9, [.ref q1, .ref q2, .int svc, .ref q3, .int tl, .int cde, .int mm, .int mr, .ref q4, .int ati, .int ors, .ref q5, .ref q6])), (q1, .inl (cyI, 246, .inl zs)), (q2, .inl (cyI, 984, .inl zv)), (q3, .inl (cyI, 80, .inl zt)), (q4, .inl (cyI, 5, .inl zp)), (q5, .inl (cyI, 40, .inl zm)), (q6, .inl (cyI, 40, .inl zk))] sz) := by
  refine Met.ofW (cc := cX9_readsOrder) (maxL := 4) (ret := (some .boolean)) (by decide) rfl ?_
  intro p e s m args below meth c s₁ B hml hv
  obtain ⟨rfl, hsz, hP, hK, hD0, he⟩ := hv
  have hx := B.exec
  have hb := B.bytes
  have hr := B.returns
  have hts := atoms_spec (ws := wqX9_readsOrder) B.pre
  have hown : s.vm.findClass RX9 = some m.cls := findClass_of_methodNamed B.named
  have hlocks := B.notSynchronized
  have w_0 := hts (Cond.fieldLink RX9 218 "CraneLimiterModel" "at" "I") (List.mem_cons_of_mem _ b_979)
  have w_1 := hts (Cond.fieldLink RX9 22 "CraneLimiterModel" "orderMotions" "[I") (List.mem_cons_of_mem _ b_97)
  have w_2 := hts (Cond.fieldLink RX9 233 "CraneLimiterModel" "orders" "I") (List.mem_cons_of_mem _ b_980)
  have w_3 := hts (Cond.fieldLink RX9 25 "CraneLimiterModel" "orderTicks" "[I") (List.mem_cons_of_mem _ b_98)
  have i_X9 : ∀ w ∈ u_ws RX9 TX9 13, w ∈ wqX9_readsOrder := fun w h => List.mem_cons_of_mem _ (bX9 w h)
  subst hsz
  have hD := hD0.self (sz := s.heap.size)
  generalize hAe : va_A [(q0, .inr (9, [.ref q1, .ref q2, .int svc, .ref q3, .int tl, .int cde, .int mm, .int mr, .ref q4, .int ati, .int ors, .ref q5, .ref q6])), (q1, .inl (cyI, 246, .inl zs)), (q2, .inl (cyI, 984, .inl zv)), (q3, .inl (cyI, 80, .inl zt)), (q4, .inl (cyI, 5, .inl zp)), (q5, .inl (cyI, 40, .inl zm)), (q6, .inl (cyI, 40, .inl zk))] s.heap.size = A at hD he ⊢
  have hA : ∀ q : Nat, s.heap.size ≤ q → A q := fun q h => by rw [← hAe]; exact Or.inr h
  have hS : va_S A s.heap s.heap [] := va_S.rf
  have hP : va_P (dC, dI) vwCl [(q0, .inr (9, [.ref q1, .ref q2, .int svc, .ref q3, .int tl, .int cde, .int mm, .int mr, .ref q4, .int ati, .int ors, .ref q5, .ref q6])), (q1, .inl (cyI, 246, .inl zs)), (q2, .inl (cyI, 984, .inl zv)), (q3, .inl (cyI, 80, .inl zt)), (q4, .inl (cyI, 5, .inl zp)), (q5, .inl (cyI, 40, .inl zm)), (q6, .inl (cyI, 40, .inl zk))] s.heap := hP
  have hl := lv_entry ([.ref q0] : List Value) (n := 4) (Nat.le_of_ble_eq_true rfl)
  rw [lg_entry_eq]
  generalize (lg_sl ([.ref q0] : List Value) ++ List.replicate (4 - (lg_sl ([.ref q0] : List Value)).length) Slot.unset).toArray = ls at hl ⊢
  have hl : lv_has ls 4 [(0, .ref q0)] := hl
  have hE : m_readsOrder tl ati ors zt zm zk = m_readsOrder tl ati ors zt zm zk := rfl
  refine lv_aload_n hx hb dX9_readsOrder_0 rfl (lv_at hl 0 rfl) ?_
  refine mj_i (wr := []) (va_runV (As := []) (rest := []) ⟨hx, hb, hml, hown, hts⟩ (c_X9_sign l dC dI cyI s.heap.size q0 q1 q2 q3 q4 q5 q6 svc tl cde mm mr ati ors zs zv zt zp zm zk htl ht80 hat ha80) (cwV 0 hts (gBV b_985 b_986 b_987 b_5 b_988) rfl rfl rfl (by decide +kernel) ⟨Nat.le_of_ble_eq_true rfl, Nat.le_of_ble_eq_true rfl⟩) (prm_v eM_ok he hS hP hD hK (va_free (wc := [(q0, .inr (9, [.ref q1, .ref q2, .int svc, .ref q3, .int tl, .int cde, .int mm, .int mr, .ref q4, .int ati, .int ors, .ref q5, .ref q6])), (q1, .inl (cyI, 246, .inl zs)), (q2, .inl (cyI, 984, .inl zv)), (q3, .inl (cyI, 80, .inl zt)), (q4, .inl (cyI, 5, .inl zp)), (q5, .inl (cyI, 40, .inl zm)), (q6, .inl (cyI, 40, .inl zk))]) hD hS hA [0, 1, 2, 3, 4, 5, 6] rfl) 0 rfl rfl rfl) rfl rfl hl.1 rfl (lv_room (Nat.le_of_ble_eq_true rfl)) dX9_readsOrder_1 ⟨Nat.le_of_ble_eq_true rfl, Nat.le_of_ble_eq_true rfl⟩) hP hD hS hA [0, 1, 2, 3, 4, 5, 6] [] rfl rfl (by decide) (by decide) (fun r_2 u_1 H locs hw hP hD hS => ?_)
  obtain ⟨hu_1, rfl⟩ := hw
  have hE := hE.trans (spLet_eq hu_1)
  have hP : va_P (dC, dI) vwCl [(q0, .inr (9, [.ref q1, .ref q2, .int svc, .ref q3, .int tl, .int cde, .int mm, .int mr, .ref q4, .int (u_1.2), .int ors, .ref q5, .ref q6])), (q1, .inl (cyI, 246, .inl zs)), (q2, .inl (cyI, 984, .inl zv)), (q3, .inl (cyI, 80, .inl zt)), (q4, .inl (cyI, 5, .inl zp)), (q5, .inl (cyI, 40, .inl zm)), (q6, .inl (cyI, 40, .inl zk))] H := hP
  have hD : va_D A [(q0, .inr (9, [.ref q1, .ref q2, .int svc, .ref q3, .int tl, .int cde, .int mm, .int mr, .ref q4, .int (u_1.2), .int ors, .ref q5, .ref q6])), (q1, .inl (cyI, 246, .inl zs)), (q2, .inl (cyI, 984, .inl zv)), (q3, .inl (cyI, 80, .inl zt)), (q4, .inl (cyI, 5, .inl zp)), (q5, .inl (cyI, 40, .inl zm)), (q6, .inl (cyI, 40, .inl zk))] := hD
  have hs1 := sign_q hu_1 ht80 hat ha80
  refine lv_topi (fun x_3 ex_3 => ?_)
  have hE := hE.trans (spLet_eq ex_3)
  refine lv_istore_n (lv' := [(1, .int x_3), (0, .ref q0)]) hx hb dX9_readsOrder_4 rfl hl (by decide) rfl (fun ls hl => ?_)
  refine lv_iload_n hx hb dX9_readsOrder_5 rfl (lv_at hl 0 rfl) ?_
  refine vp_callSi (W.runS (As := [.int x_3]) (rest := []) ⟨hx, hb, hml, hown, hts⟩ (c_X9_firstMotion l dC dI cyI x_3) (va_cwS 1 hts (gBS b_997 b_998 b_5 b_999) rfl rfl rfl (by decide +kernel) ⟨Nat.le_of_ble_eq_true rfl, Nat.le_of_ble_eq_true rfl⟩) (pre_s eM_ok he hS (hP.sub (ws' := []) [] rfl) (hK.sub (tys' := []) [] rfl)) rfl rfl hl.1 rfl (lv_room (Nat.le_of_ble_eq_true rfl)) dX9_readsOrder_6 ⟨Nat.zero_le _, Nat.zero_le _⟩) (fun r_4 hr_4 => ?_)
  have hE := hE.trans (spLet_eq hr_4)
  refine lv_istore_n (lv' := [(2, .int r_4), (1, .int x_3), (0, .ref q0)]) hx hb dX9_readsOrder_9 rfl hl (by decide) rfl (fun ls hl => ?_)
  refine lv_iload_n hx hb dX9_readsOrder_10 rfl (lv_at hl 0 rfl) ?_
  refine lv_iconst (v := -1) hx hb dX9_readsOrder_11 (by decide) ?_
  have J23 : ∀ (hi : (u_1.2).toNatClampNeg < tl.toNatClampNeg) (ls : Array Slot) (hl : lv_has ls 4 [(0, .ref q0), (2, .int r_4)]) (hE : (m_readsOrder tl ati ors zt zm zk) = m_readsOrder_j23 tl ors zt zm zk u_1 r_4), W p l e (headSpec wqX9_readsOrder ({ frames := 3, cells := 0, slots := 0, locals := 62 } : Room)).room s m ([.ref q0] : List Value).toArray below meth c H locs 0 0 (MQ below (va_Qi (fun (r : Int32) (u : Int32 × Int32 × Int32 × (Nat → Int32) × (Nat → Int32)) => u = (m_readsOrder tl ati ors zt zm zk) ∧ r = u.1 ∧ (r = 0 ∨ r = 1)) (fun (u : Int32 × Int32 × Int32 × (Nat → Int32) × (Nat → Int32)) t => va_P (dC, dI) vwCl [(q0, .inr (9, [.ref q1, .ref q2, .int svc, .ref q3, .int tl, .int cde, .int mm, .int mr, .ref q4, .int (u.2.1), .int (u.2.2.1), .ref q5, .ref q6])), (q1, .inl (cyI, 246, .inl zs)), (q2, .inl (cyI, 984, .inl zv)), (q3, .inl (cyI, 80, .inl zt)), (q4, .inl (cyI, 5, .inl zp)), (q5, .inl (cyI, 40, .inl (u.2.2.2.1))), (q6, .inl (cyI, 40, .inl (u.2.2.2.2)))] t.heap ∧ va_D A [(q0, .inr (9, [.ref q1, .ref q2, .int svc, .ref q3, .int tl, .int cde, .int mm, .int mr, .ref q4, .int (u.2.1), .int (u.2.2.1), .ref q5, .ref q6])), (q1, .inl (cyI, 246, .inl zs)), (q2, .inl (cyI, 984, .inl zv)), (q3, .inl (cyI, 80, .inl zt)), (q4, .inl (cyI, 5, .inl zp)), (q5, .inl (cyI, 40, .inl (u.2.2.2.1))), (q6, .inl (cyI, 40, .inl (u.2.2.2.2)))]) A) ([.ref q0] : List Value).toArray s 0 0 A) (F0 m 23 ls []) := by
    intro hi ls hl hE
    refine lv_aload_n hx hb dX9_readsOrder_23 rfl (lv_at hl 0 rfl) ?_
    refine lv_dup hx hb dX9_readsOrder_24 rfl ?_
    refine va_get (D := (dC, dI)) (ci := 9) (v := .int (u_1.2)) (C := RX9) (T := TX9) (N := 13) hx hb hts i_X9 hown hK hP 0 rfl rfl 9 (by decide) w_0 (fun _ h9 => h9) rfl dX9_readsOrder_25 ?_
    refine lv_iconst (v := 1) hx hb dX9_readsOrder_28 (by decide) ?_
    refine lv_iadd hx hb dX9_readsOrder_29 ?_
    refine lv_topi (fun y_6 ey_6 => ?_)
    obtain rfl : y_6 = nI ((u_1.2).toNatClampNeg + 1) := ey_6.trans (nadd hs1.2.1.1 (rfl : (1 : Int32) = nI 1))
    refine va_put (D := (dC, dI)) (ci := 9) (v := .int (nI ((u_1.2).toNatClampNeg + 1))) (ty := .int) (C := RX9) (T := TX9) (N := 13) hx hb hts i_X9 tyX9 tyX9_ok nmX9 hown hK hP hD hS 0 rfl rfl 9 (by decide) w_0 (fun _ h9 => h9) rfl (by decide +kernel) (rfl) (rfl) (Nat.le_of_ble_eq_true rfl) dX9_readsOrder_30 (fun H locs hP hD hS => ?_)
    have hP : va_P (dC, dI) vwCl [(q0, .inr (9, [.ref q1, .ref q2, .int svc, .ref q3, .int tl, .int cde, .int mm, .int mr, .ref q4, .int (nI ((u_1.2).toNatClampNeg + 1)), .int ors, .ref q5, .ref q6])), (q1, .inl (cyI, 246, .inl zs)), (q2, .inl (cyI, 984, .inl zv)), (q3, .inl (cyI, 80, .inl zt)), (q4, .inl (cyI, 5, .inl zp)), (q5, .inl (cyI, 40, .inl zm)), (q6, .inl (cyI, 40, .inl zk))] H := hP
    have hD : va_D A [(q0, .inr (9, [.ref q1, .ref q2, .int svc, .ref q3, .int tl, .int cde, .int mm, .int mr, .ref q4, .int (nI ((u_1.2).toNatClampNeg + 1)), .int ors, .ref q5, .ref q6])), (q1, .inl (cyI, 246, .inl zs)), (q2, .inl (cyI, 984, .inl zv)), (q3, .inl (cyI, 80, .inl zt)), (q4, .inl (cyI, 5, .inl zp)), (q5, .inl (cyI, 40, .inl zm)), (q6, .inl (cyI, 40, .inl zk))] := hD
    have hg1 := aG.inc (a := (u_1.2).toNatClampNeg) (by omega)
    refine lv_iload_n hx hb dX9_readsOrder_33 rfl (lv_at hl 1 rfl) ?_
    refine lv_iconst (v := -1) hx hb dX9_readsOrder_34 (by decide) ?_
    have J81 : ∀ (v2_81 : Int32) (w0_9_81 : Int32) (hi : aG w0_9_81 ∧ ati.toNatClampNeg + 1 ≤ (w0_9_81).toNatClampNeg) (H : Heap) (locs : List Loc) (hP : va_P (dC, dI) vwCl [(q0, .inr (9, [.ref q1, .ref q2, .int svc, .ref q3, .int tl, .int cde, .int mm, .int mr, .ref q4, .int w0_9_81, .int ors, .ref q5, .ref q6])), (q1, .inl (cyI, 246, .inl zs)), (q2, .inl (cyI, 984, .inl zv)), (q3, .inl (cyI, 80, .inl zt)), (q4, .inl (cyI, 5, .inl zp)), (q5, .inl (cyI, 40, .inl zm)), (q6, .inl (cyI, 40, .inl zk))] H) (hD : va_D A [(q0, .inr (9, [.ref q1, .ref q2, .int svc, .ref q3, .int tl, .int cde, .int mm, .int mr, .ref q4, .int w0_9_81, .int ors, .ref q5, .ref q6])), (q1, .inl (cyI, 246, .inl zs)), (q2, .inl (cyI, 984, .inl zv)), (q3, .inl (cyI, 80, .inl zt)), (q4, .inl (cyI, 5, .inl zp)), (q5, .inl (cyI, 40, .inl zm)), (q6, .inl (cyI, 40, .inl zk))]) (hS : va_S A s.heap H locs) (ls : Array Slot) (hl : lv_has ls 4 [(0, .ref q0), (2, .int v2_81)]) (hE : (m_readsOrder tl ati ors zt zm zk) = m_readsOrder_j81 tl ors zt zm zk v2_81 w0_9_81), W p l e (headSpec wqX9_readsOrder ({ frames := 3, cells := 0, slots := 0, locals := 62 } : Room)).room s m ([.ref q0] : List Value).toArray below meth c H locs 0 0 (MQ below (va_Qi (fun (r : Int32) (u : Int32 × Int32 × Int32 × (Nat → Int32) × (Nat → Int32)) => u = (m_readsOrder tl ati ors zt zm zk) ∧ r = u.1 ∧ (r = 0 ∨ r = 1)) (fun (u : Int32 × Int32 × Int32 × (Nat → Int32) × (Nat → Int32)) t => va_P (dC, dI) vwCl [(q0, .inr (9, [.ref q1, .ref q2, .int svc, .ref q3, .int tl, .int cde, .int mm, .int mr, .ref q4, .int (u.2.1), .int (u.2.2.1), .ref q5, .ref q6])), (q1, .inl (cyI, 246, .inl zs)), (q2, .inl (cyI, 984, .inl zv)), (q3, .inl (cyI, 80, .inl zt)), (q4, .inl (cyI, 5, .inl zp)), (q5, .inl (cyI, 40, .inl (u.2.2.2.1))), (q6, .inl (cyI, 40, .inl (u.2.2.2.2)))] t.heap ∧ va_D A [(q0, .inr (9, [.ref q1, .ref q2, .int svc, .ref q3, .int tl, .int cde, .int mm, .int mr, .ref q4, .int (u.2.1), .int (u.2.2.1), .ref q5, .ref q6])), (q1, .inl (cyI, 246, .inl zs)), (q2, .inl (cyI, 984, .inl zv)), (q3, .inl (cyI, 80, .inl zt)), (q4, .inl (cyI, 5, .inl zp)), (q5, .inl (cyI, 40, .inl (u.2.2.2.1))), (q6, .inl (cyI, 40, .inl (u.2.2.2.2)))]) A) ([.ref q0] : List Value).toArray s 0 0 A) (F0 m 81 ls []) := by
      intro v2_81 w0_9_81 hi H locs hP hD hS ls hl hE
      refine lv_aload_n hx hb dX9_readsOrder_81 rfl (lv_at hl 0 rfl) ?_
      refine mj_i (wr := []) (va_runV (As := []) (rest := []) ⟨hx, hb, hml, hown, hts⟩ (c_X9_number l dC dI cyI H.size q0 q1 q2 q3 q4 q5 q6 svc tl cde mm mr w0_9_81 ors zs zv zt zp zm zk htl ht80 hi.1.1 hi.1.2) (cwV 0 hts (gBV b_1000 b_1001 b_1002 b_5 b_1003) rfl rfl rfl (by decide +kernel) ⟨Nat.le_of_ble_eq_true rfl, Nat.le_of_ble_eq_true rfl⟩) (prm_v eM_ok he hS hP hD hK (va_free (wc := [(q0, .inr (9, [.ref q1, .ref q2, .int svc, .ref q3, .int tl, .int cde, .int mm, .int mr, .ref q4, .int w0_9_81, .int ors, .ref q5, .ref q6])), (q1, .inl (cyI, 246, .inl zs)), (q2, .inl (cyI, 984, .inl zv)), (q3, .inl (cyI, 80, .inl zt)), (q4, .inl (cyI, 5, .inl zp)), (q5, .inl (cyI, 40, .inl zm)), (q6, .inl (cyI, 40, .inl zk))]) hD hS hA [0, 1, 2, 3, 4, 5, 6] rfl) 0 rfl rfl rfl) rfl rfl hl.1 rfl (lv_room (Nat.le_of_ble_eq_true rfl)) dX9_readsOrder_82 ⟨Nat.le_of_ble_eq_true rfl, Nat.le_of_ble_eq_true rfl⟩) hP hD hS hA [0, 1, 2, 3, 4, 5, 6] [] rfl rfl (by decide) (by decide) (fun r_9 u_8 H locs hw hP hD hS => ?_)
      obtain ⟨hu_8, rfl⟩ := hw
      have hE := hE.trans (spLet_eq hu_8)
      have hP : va_P (dC, dI) vwCl [(q0, .inr (9, [.ref q1, .ref q2, .int svc, .ref q3, .int tl, .int cde, .int mm, .int mr, .ref q4, .int (u_8.2), .int ors, .ref q5, .ref q6])), (q1, .inl (cyI, 246, .inl zs)), (q2, .inl (cyI, 984, .inl zv)), (q3, .inl (cyI, 80, .inl zt)), (q4, .inl (cyI, 5, .inl zp)), (q5, .inl (cyI, 40, .inl zm)), (q6, .inl (cyI, 40, .inl zk))] H := hP
      have hD : va_D A [(q0, .inr (9, [.ref q1, .ref q2, .int svc, .ref q3, .int tl, .int cde, .int mm, .int mr, .ref q4, .int (u_8.2), .int ors, .ref q5, .ref q6])), (q1, .inl (cyI, 246, .inl zs)), (q2, .inl (cyI, 984, .inl zv)), (q3, .inl (cyI, 80, .inl zt)), (q4, .inl (cyI, 5, .inl zp)), (q5, .inl (cyI, 40, .inl zm)), (q6, .inl (cyI, 40, .inl zk))] := hD
      have hs3 := number_q hu_8 ht80 hi.1.1 hi.1.2
      refine lv_topi (fun x_10 ex_10 => ?_)
      have hE := hE.trans (spLet_eq ex_10)
      refine lv_istore_n (lv' := [(3, .int x_10), (0, .ref q0), (2, .int v2_81)]) hx hb dX9_readsOrder_85 rfl hl (by decide) rfl (fun ls hl => ?_)
      refine lv_iload_n hx hb dX9_readsOrder_86 rfl (lv_at hl 0 rfl) ?_
      refine lv_if_eq (tgt := 99) hx hb dX9_readsOrder_87 (by decide) (fun c_11 => ?_) (fun c_11 => ?_)
      ·
        have hE := hE.trans (if_pos c_11)
        refine lv_iconst (v := 0) hx hb dX9_readsOrder_99 (by decide) ?_
        exact W.zret (v := (0 : Int32)) hx hb hr rfl (fun t h9 hW => ⟨⟨(0 : Int32), (((0 : Int32), (u_8.2), ors, zm, zk) : Int32 × Int32 × Int32 × (Nat → Int32) × (Nat → Int32)), rfl, ⟨hE.symm, rfl, (by decide)⟩, by rw [h9]; exact hP, hD⟩, hS.F h9⟩) hS.2.2 dX9_readsOrder_100
      ·
        have hE := hE.trans (if_neg c_11)
        refine lv_aload_n hx hb dX9_readsOrder_90 rfl (lv_at hl 1 rfl) ?_
        refine mj_i (wr := []) (va_runV (As := []) (rest := []) ⟨hx, hb, hml, hown, hts⟩ (c_X9_sign l dC dI cyI H.size q0 q1 q2 q3 q4 q5 q6 svc tl cde mm mr (u_8.2) ors zs zv zt zp zm zk htl ht80 hs3.1.1 hs3.1.2) (cwV 0 hts (gBV b_985 b_986 b_987 b_5 b_988) rfl rfl rfl (by decide +kernel) ⟨Nat.le_of_ble_eq_true rfl, Nat.le_of_ble_eq_true rfl⟩) (prm_v eM_ok he hS hP hD hK (va_free (wc := [(q0, .inr (9, [.ref q1, .ref q2, .int svc, .ref q3, .int tl, .int cde, .int mm, .int mr, .ref q4, .int (u_8.2), .int ors, .ref q5, .ref q6])), (q1, .inl (cyI, 246, .inl zs)), (q2, .inl (cyI, 984, .inl zv)), (q3, .inl (cyI, 80, .inl zt)), (q4, .inl (cyI, 5, .inl zp)), (q5, .inl (cyI, 40, .inl zm)), (q6, .inl (cyI, 40, .inl zk))]) hD hS hA [0, 1, 2, 3, 4, 5, 6] rfl) 0 rfl rfl rfl) rfl rfl hl.1 rfl (lv_room (Nat.le_of_ble_eq_true rfl)) dX9_readsOrder_91 ⟨Nat.le_of_ble_eq_true rfl, Nat.le_of_ble_eq_true rfl⟩) hP hD hS hA [0, 1, 2, 3, 4, 5, 6] [] rfl rfl (by decide) (by decide) (fun r_13 u_12 H locs hw hP hD hS => ?_)
        obtain ⟨hu_12, rfl⟩ := hw
        have hE := hE.trans (spLet_eq hu_12)
        have hP : va_P (dC, dI) vwCl [(q0, .inr (9, [.ref q1, .ref q2, .int svc, .ref q3, .int tl, .int cde, .int mm, .int mr, .ref q4, .int (u_12.2), .int ors, .ref q5, .ref q6])), (q1, .inl (cyI, 246, .inl zs)), (q2, .inl (cyI, 984, .inl zv)), (q3, .inl (cyI, 80, .inl zt)), (q4, .inl (cyI, 5, .inl zp)), (q5, .inl (cyI, 40, .inl zm)), (q6, .inl (cyI, 40, .inl zk))] H := hP
        have hD : va_D A [(q0, .inr (9, [.ref q1, .ref q2, .int svc, .ref q3, .int tl, .int cde, .int mm, .int mr, .ref q4, .int (u_12.2), .int ors, .ref q5, .ref q6])), (q1, .inl (cyI, 246, .inl zs)), (q2, .inl (cyI, 984, .inl zv)), (q3, .inl (cyI, 80, .inl zt)), (q4, .inl (cyI, 5, .inl zp)), (q5, .inl (cyI, 40, .inl zm)), (q6, .inl (cyI, 40, .inl zk))] := hD
        have hs4 := sign_q hu_12 ht80 hs3.1.1 hs3.1.2
        refine lv_bipush (v := 59) hx hb dX9_readsOrder_94 (by decide) ?_
        refine lv_icmp_eq (tgt := 101) hx hb dX9_readsOrder_96 (by decide) (fun c_14 => ?_) (fun c_14 => ?_)
        ·
          have hE := hE.trans (if_pos c_14)
          have l4 := ro_c (k := 59) (by decide) hs4.1 rfl (by assumption)
          refine lv_aload_n hx hb dX9_readsOrder_101 rfl (lv_at hl 1 rfl) ?_
          refine lv_dup hx hb dX9_readsOrder_102 rfl ?_
          refine va_get (D := (dC, dI)) (ci := 9) (v := .int (u_12.2)) (C := RX9) (T := TX9) (N := 13) hx hb hts i_X9 hown hK hP 0 rfl rfl 9 (by decide) w_0 (fun _ h9 => h9) rfl dX9_readsOrder_103 ?_
          refine lv_iconst (v := 1) hx hb dX9_readsOrder_106 (by decide) ?_
          refine lv_iadd hx hb dX9_readsOrder_107 ?_
          refine lv_topi (fun y_15 ey_15 => ?_)
          obtain rfl : y_15 = nI ((u_12.2).toNatClampNeg + 1) := ey_15.trans (nadd hs4.2.1.1 (rfl : (1 : Int32) = nI 1))
          refine va_put (D := (dC, dI)) (ci := 9) (v := .int (nI ((u_12.2).toNatClampNeg + 1))) (ty := .int) (C := RX9) (T := TX9) (N := 13) hx hb hts i_X9 tyX9 tyX9_ok nmX9 hown hK hP hD hS 0 rfl rfl 9 (by decide) w_0 (fun _ h9 => h9) rfl (by decide +kernel) (rfl) (rfl) (Nat.le_of_ble_eq_true rfl) dX9_readsOrder_108 (fun H locs hP hD hS => ?_)
          have hP : va_P (dC, dI) vwCl [(q0, .inr (9, [.ref q1, .ref q2, .int svc, .ref q3, .int tl, .int cde, .int mm, .int mr, .ref q4, .int (nI ((u_12.2).toNatClampNeg + 1)), .int ors, .ref q5, .ref q6])), (q1, .inl (cyI, 246, .inl zs)), (q2, .inl (cyI, 984, .inl zv)), (q3, .inl (cyI, 80, .inl zt)), (q4, .inl (cyI, 5, .inl zp)), (q5, .inl (cyI, 40, .inl zm)), (q6, .inl (cyI, 40, .inl zk))] H := hP
          have hD : va_D A [(q0, .inr (9, [.ref q1, .ref q2, .int svc, .ref q3, .int tl, .int cde, .int mm, .int mr, .ref q4, .int (nI ((u_12.2).toNatClampNeg + 1)), .int ors, .ref q5, .ref q6])), (q1, .inl (cyI, 246, .inl zs)), (q2, .inl (cyI, 984, .inl zv)), (q3, .inl (cyI, 80, .inl zt)), (q4, .inl (cyI, 5, .inl zp)), (q5, .inl (cyI, 40, .inl zm)), (q6, .inl (cyI, 40, .inl zk))] := hD
          refine lv_aload_n hx hb dX9_readsOrder_111 rfl (lv_at hl 1 rfl) ?_
          refine va_get (D := (dC, dI)) (ci := 9) (v := .ref q5) (C := RX9) (T := TX9) (N := 13) hx hb hts i_X9 hown hK hP 0 rfl rfl 11 (by decide) w_1 (fun _ h9 => h9) rfl dX9_readsOrder_112 ?_
          refine lv_aload_n hx hb dX9_readsOrder_115 rfl (lv_at hl 1 rfl) ?_
          refine va_get (D := (dC, dI)) (ci := 9) (v := .int ors) (C := RX9) (T := TX9) (N := 13) hx hb hts i_X9 hown hK hP 0 rfl rfl 10 (by decide) w_2 (fun _ h9 => h9) rfl dX9_readsOrder_116 ?_
          refine lv_iload_n hx hb dX9_readsOrder_119 rfl (lv_at hl 2 rfl) ?_
          refine lv_iconst (v := -1) hx hb dX9_readsOrder_120 (by decide) ?_
          have J131 : ∀ (t0_131 : Int32) (ls : Array Slot) (hl : lv_has ls 4 [(0, .ref q0), (3, .int x_10)]) (hE : (m_readsOrder tl ati ors zt zm zk) = m_readsOrder_j131 ors zm zk x_10 u_12 t0_131), W p l e (headSpec wqX9_readsOrder ({ frames := 3, cells := 0, slots := 0, locals := 62 } : Room)).room s m ([.ref q0] : List Value).toArray below meth c H locs 0 0 (MQ below (va_Qi (fun (r : Int32) (u : Int32 × Int32 × Int32 × (Nat → Int32) × (Nat → Int32)) => u = (m_readsOrder tl ati ors zt zm zk) ∧ r = u.1 ∧ (r = 0 ∨ r = 1)) (fun (u : Int32 × Int32 × Int32 × (Nat → Int32) × (Nat → Int32)) t => va_P (dC, dI) vwCl [(q0, .inr (9, [.ref q1, .ref q2, .int svc, .ref q3, .int tl, .int cde, .int mm, .int mr, .ref q4, .int (u.2.1), .int (u.2.2.1), .ref q5, .ref q6])), (q1, .inl (cyI, 246, .inl zs)), (q2, .inl (cyI, 984, .inl zv)), (q3, .inl (cyI, 80, .inl zt)), (q4, .inl (cyI, 5, .inl zp)), (q5, .inl (cyI, 40, .inl (u.2.2.2.1))), (q6, .inl (cyI, 40, .inl (u.2.2.2.2)))] t.heap ∧ va_D A [(q0, .inr (9, [.ref q1, .ref q2, .int svc, .ref q3, .int tl, .int cde, .int mm, .int mr, .ref q4, .int (u.2.1), .int (u.2.2.1), .ref q5, .ref q6])), (q1, .inl (cyI, 246, .inl zs)), (q2, .inl (cyI, 984, .inl zv)), (q3, .inl (cyI, 80, .inl zt)), (q4, .inl (cyI, 5, .inl zp)), (q5, .inl (cyI, 40, .inl (u.2.2.2.1))), (q6, .inl (cyI, 40, .inl (u.2.2.2.2)))]) A) ([.ref q0] : List Value).toArray s 0 0 A) (F0 m 131 ls [.int t0_131, .int ors, .ref q5]) := by
            intro t0_131 ls hl hE
            refine ra_st hx hb hK hP hD hS 5 0 rfl rfl (j := ors.toNatClampNeg) hor (by omega) (by omega) dX9_readsOrder_131 (fun H locs hP hD hS => ?_)
            have hP : va_P (dC, dI) vwCl [(q0, .inr (9, [.ref q1, .ref q2, .int svc, .ref q3, .int tl, .int cde, .int mm, .int mr, .ref q4, .int (nI ((u_12.2).toNatClampNeg + 1)), .int ors, .ref q5, .ref q6])), (q1, .inl (cyI, 246, .inl zs)), (q2, .inl (cyI, 984, .inl zv)), (q3, .inl (cyI, 80, .inl zt)), (q4, .inl (cyI, 5, .inl zp)), (q5, .inl (cyI, 40, .inl (upd zm (ors.toNatClampNeg) t0_131))), (q6, .inl (cyI, 40, .inl zk))] H := hP
            have hD : va_D A [(q0, .inr (9, [.ref q1, .ref q2, .int svc, .ref q3, .int tl, .int cde, .int mm, .int mr, .ref q4, .int (nI ((u_12.2).toNatClampNeg + 1)), .int ors, .ref q5, .ref q6])), (q1, .inl (cyI, 246, .inl zs)), (q2, .inl (cyI, 984, .inl zv)), (q3, .inl (cyI, 80, .inl zt)), (q4, .inl (cyI, 5, .inl zp)), (q5, .inl (cyI, 40, .inl (upd zm (ors.toNatClampNeg) t0_131))), (q6, .inl (cyI, 40, .inl zk))] := hD
            obtain ⟨f_17, ef_17⟩ : ∃ y : Nat → Int32, y = upd zm (ors.toNatClampNeg) t0_131 := ⟨_, rfl⟩
            rw [← ef_17] at hP hD
            have hE := hE.trans (spLet_eq ef_17)
            refine lv_aload_n hx hb dX9_readsOrder_132 rfl (lv_at hl 0 rfl) ?_
            refine va_get (D := (dC, dI)) (ci := 9) (v := .ref q6) (C := RX9) (T := TX9) (N := 13) hx hb hts i_X9 hown hK hP 0 rfl rfl 12 (by decide) w_3 (fun _ h9 => h9) rfl dX9_readsOrder_133 ?_
            refine lv_aload_n hx hb dX9_readsOrder_136 rfl (lv_at hl 0 rfl) ?_
            refine va_get (D := (dC, dI)) (ci := 9) (v := .int ors) (C := RX9) (T := TX9) (N := 13) hx hb hts i_X9 hown hK hP 0 rfl rfl 10 (by decide) w_2 (fun _ h9 => h9) rfl dX9_readsOrder_137 ?_
            refine lv_iload_n hx hb dX9_readsOrder_140 rfl (lv_at hl 1 rfl) ?_
            refine ra_st hx hb hK hP hD hS 6 0 rfl rfl (j := ors.toNatClampNeg) hor (by omega) (by omega) dX9_readsOrder_141 (fun H locs hP hD hS => ?_)
            have hP : va_P (dC, dI) vwCl [(q0, .inr (9, [.ref q1, .ref q2, .int svc, .ref q3, .int tl, .int cde, .int mm, .int mr, .ref q4, .int (nI ((u_12.2).toNatClampNeg + 1)), .int ors, .ref q5, .ref q6])), (q1, .inl (cyI, 246, .inl zs)), (q2, .inl (cyI, 984, .inl zv)), (q3, .inl (cyI, 80, .inl zt)), (q4, .inl (cyI, 5, .inl zp)), (q5, .inl (cyI, 40, .inl f_17)), (q6, .inl (cyI, 40, .inl (upd zk (ors.toNatClampNeg) x_10)))] H := hP
            have hD : va_D A [(q0, .inr (9, [.ref q1, .ref q2, .int svc, .ref q3, .int tl, .int cde, .int mm, .int mr, .ref q4, .int (nI ((u_12.2).toNatClampNeg + 1)), .int ors, .ref q5, .ref q6])), (q1, .inl (cyI, 246, .inl zs)), (q2, .inl (cyI, 984, .inl zv)), (q3, .inl (cyI, 80, .inl zt)), (q4, .inl (cyI, 5, .inl zp)), (q5, .inl (cyI, 40, .inl f_17)), (q6, .inl (cyI, 40, .inl (upd zk (ors.toNatClampNeg) x_10)))] := hD
            obtain ⟨f_18, ef_18⟩ : ∃ y : Nat → Int32, y = upd zk (ors.toNatClampNeg) x_10 := ⟨_, rfl⟩
            rw [← ef_18] at hP hD
            have hE := hE.trans (spLet_eq ef_18)
            refine lv_aload_n hx hb dX9_readsOrder_142 rfl (lv_at hl 0 rfl) ?_
            refine lv_dup hx hb dX9_readsOrder_143 rfl ?_
            refine va_get (D := (dC, dI)) (ci := 9) (v := .int ors) (C := RX9) (T := TX9) (N := 13) hx hb hts i_X9 hown hK hP 0 rfl rfl 10 (by decide) w_2 (fun _ h9 => h9) rfl dX9_readsOrder_144 ?_
            refine lv_iconst (v := 1) hx hb dX9_readsOrder_147 (by decide) ?_
            refine lv_iadd hx hb dX9_readsOrder_148 ?_
            refine lv_topi (fun y_19 ey_19 => ?_)
            obtain rfl : y_19 = nI (ors.toNatClampNeg + 1) := ey_19.trans (nadd hor (rfl : (1 : Int32) = nI 1))
            refine va_put (D := (dC, dI)) (ci := 9) (v := .int (nI (ors.toNatClampNeg + 1))) (ty := .int) (C := RX9) (T := TX9) (N := 13) hx hb hts i_X9 tyX9 tyX9_ok nmX9 hown hK hP hD hS 0 rfl rfl 10 (by decide) w_2 (fun _ h9 => h9) rfl (by decide +kernel) (rfl) (rfl) (Nat.le_of_ble_eq_true rfl) dX9_readsOrder_149 (fun H locs hP hD hS => ?_)
            have hP : va_P (dC, dI) vwCl [(q0, .inr (9, [.ref q1, .ref q2, .int svc, .ref q3, .int tl, .int cde, .int mm, .int mr, .ref q4, .int (nI ((u_12.2).toNatClampNeg + 1)), .int (nI (ors.toNatClampNeg + 1)), .ref q5, .ref q6])), (q1, .inl (cyI, 246, .inl zs)), (q2, .inl (cyI, 984, .inl zv)), (q3, .inl (cyI, 80, .inl zt)), (q4, .inl (cyI, 5, .inl zp)), (q5, .inl (cyI, 40, .inl f_17)), (q6, .inl (cyI, 40, .inl f_18))] H := hP
            have hD : va_D A [(q0, .inr (9, [.ref q1, .ref q2, .int svc, .ref q3, .int tl, .int cde, .int mm, .int mr, .ref q4, .int (nI ((u_12.2).toNatClampNeg + 1)), .int (nI (ors.toNatClampNeg + 1)), .ref q5, .ref q6])), (q1, .inl (cyI, 246, .inl zs)), (q2, .inl (cyI, 984, .inl zv)), (q3, .inl (cyI, 80, .inl zt)), (q4, .inl (cyI, 5, .inl zp)), (q5, .inl (cyI, 40, .inl f_17)), (q6, .inl (cyI, 40, .inl f_18))] := hD
            refine lv_iconst (v := 1) hx hb dX9_readsOrder_152 (by decide) ?_
            exact W.zret (v := (1 : Int32)) hx hb hr rfl (fun t h9 hW => ⟨⟨(1 : Int32), (((1 : Int32), (nI ((u_12.2).toNatClampNeg + 1)), (nI (ors.toNatClampNeg + 1)), f_17, f_18) : Int32 × Int32 × Int32 × (Nat → Int32) × (Nat → Int32)), rfl, ⟨hE.symm, rfl, (by decide)⟩, by rw [h9]; exact hP, hD⟩, hS.F h9⟩) hS.2.2 dX9_readsOrder_153
          refine lv_icmp_ne (tgt := 128) hx hb dX9_readsOrder_121 (by decide) (fun c_16 => ?_) (fun c_16 => ?_)
          ·
            have hE := hE.trans (if_neg c_16)
            refine lv_iconst (v := 1) hx hb dX9_readsOrder_128 (by decide) ?_
            refine lv_iload_n hx hb dX9_readsOrder_129 rfl (lv_at hl 2 rfl) ?_
            refine lv_ishl hx hb dX9_readsOrder_130 ?_
            exact J131 ((1 : Int32) <<< (v2_81 &&& 31)) ls (lv_sub hl [1, 0] rfl) hE
          ·
            have hE := hE.trans (if_pos c_16)
            refine lv_iconst (v := 0) hx hb dX9_readsOrder_124 (by decide) ?_
            refine lv_goto (tgt := 131) hx hb dX9_readsOrder_125 (by decide) ?_
            exact J131 (0 : Int32) ls (lv_sub hl [1, 0] rfl) hE
        ·
          have hE := hE.trans (if_neg c_14)
          refine lv_iconst (v := 0) hx hb dX9_readsOrder_99 (by decide) ?_
          exact W.zret (v := (0 : Int32)) hx hb hr rfl (fun t h9 hW => ⟨⟨(0 : Int32), (((0 : Int32), (u_12.2), ors, zm, zk) : Int32 × Int32 × Int32 × (Nat → Int32) × (Nat → Int32)), rfl, ⟨hE.symm, rfl, (by decide)⟩, by rw [h9]; exact hP, hD⟩, hS.F h9⟩) hS.2.2 dX9_readsOrder_100
    refine lv_icmp_eq (tgt := 81) hx hb dX9_readsOrder_35 (by decide) (fun c_7 => ?_) (fun c_7 => ?_)
    ·
      have hE := hE.trans (if_pos c_7)
      exact J81 r_4 (nI ((u_1.2).toNatClampNeg + 1)) ⟨hg1.1, by have := hs1.2.2; have := hg1.2; omega⟩ _ _ hP hD hS ls (lv_sub hl [0, 1] rfl) hE
    ·
      have hE := hE.trans (if_neg c_7)
      refine lv_aload_n hx hb dX9_readsOrder_38 rfl (lv_at hl 0 rfl) ?_
      refine mj_i (wr := []) (va_runV (As := []) (rest := []) ⟨hx, hb, hml, hown, hts⟩ (c_X9_sign l dC dI cyI H.size q0 q1 q2 q3 q4 q5 q6 svc tl cde mm mr (nI ((u_1.2).toNatClampNeg + 1)) ors zs zv zt zp zm zk htl ht80 hg1.1.1 hg1.1.2) (cwV 0 hts (gBV b_985 b_986 b_987 b_5 b_988) rfl rfl rfl (by decide +kernel) ⟨Nat.le_of_ble_eq_true rfl, Nat.le_of_ble_eq_true rfl⟩) (prm_v eM_ok he hS hP hD hK (va_free (wc := [(q0, .inr (9, [.ref q1, .ref q2, .int svc, .ref q3, .int tl, .int cde, .int mm, .int mr, .ref q4, .int (nI ((u_1.2).toNatClampNeg + 1)), .int ors, .ref q5, .ref q6])), (q1, .inl (cyI, 246, .inl zs)), (q2, .inl (cyI, 984, .inl zv)), (q3, .inl (cyI, 80, .inl zt)), (q4, .inl (cyI, 5, .inl zp)), (q5, .inl (cyI, 40, .inl zm)), (q6, .inl (cyI, 40, .inl zk))]) hD hS hA [0, 1, 2, 3, 4, 5, 6] rfl) 0 rfl rfl rfl) rfl rfl hl.1 rfl (lv_room (Nat.le_of_ble_eq_true rfl)) dX9_readsOrder_39 ⟨Nat.le_of_ble_eq_true rfl, Nat.le_of_ble_eq_true rfl⟩) hP hD hS hA [0, 1, 2, 3, 4, 5, 6] [] rfl rfl (by decide) (by decide) (fun r_21 u_20 H locs hw hP hD hS => ?_)
      obtain ⟨hu_20, rfl⟩ := hw
      have hE := hE.trans (spLet_eq hu_20)
      have hP : va_P (dC, dI) vwCl [(q0, .inr (9, [.ref q1, .ref q2, .int svc, .ref q3, .int tl, .int cde, .int mm, .int mr, .ref q4, .int (u_20.2), .int ors, .ref q5, .ref q6])), (q1, .inl (cyI, 246, .inl zs)), (q2, .inl (cyI, 984, .inl zv)), (q3, .inl (cyI, 80, .inl zt)), (q4, .inl (cyI, 5, .inl zp)), (q5, .inl (cyI, 40, .inl zm)), (q6, .inl (cyI, 40, .inl zk))] H := hP
      have hD : va_D A [(q0, .inr (9, [.ref q1, .ref q2, .int svc, .ref q3, .int tl, .int cde, .int mm, .int mr, .ref q4, .int (u_20.2), .int ors, .ref q5, .ref q6])), (q1, .inl (cyI, 246, .inl zs)), (q2, .inl (cyI, 984, .inl zv)), (q3, .inl (cyI, 80, .inl zt)), (q4, .inl (cyI, 5, .inl zp)), (q5, .inl (cyI, 40, .inl zm)), (q6, .inl (cyI, 40, .inl zk))] := hD
      have hs2 := sign_q hu_20 ht80 hg1.1.1 hg1.1.2
      refine lv_topi (fun x_22 ex_22 => ?_)
      have hE := hE.trans (spLet_eq ex_22)
      refine lv_istore_n (lv' := [(3, .int x_22), (0, .ref q0), (2, .int r_4)]) hx hb dX9_readsOrder_42 rfl hl (by decide) rfl (fun ls hl => ?_)
      refine lv_iload_n hx hb dX9_readsOrder_43 rfl (lv_at hl 0 rfl) ?_
      refine lv_bipush (v := 43) hx hb dX9_readsOrder_44 (by decide) ?_
      have J57 : ∀ (hi : (u_20.2).toNatClampNeg < tl.toNatClampNeg) (ls : Array Slot) (hl : lv_has ls 4 [(0, .ref q0), (2, .int r_4), (3, .int x_22)]) (hE : (m_readsOrder tl ati ors zt zm zk) = m_readsOrder_j57 tl ors zt zm zk r_4 u_20 x_22), W p l e (headSpec wqX9_readsOrder ({ frames := 3, cells := 0, slots := 0, locals := 62 } : Room)).room s m ([.ref q0] : List Value).toArray below meth c H locs 0 0 (MQ below (va_Qi (fun (r : Int32) (u : Int32 × Int32 × Int32 × (Nat → Int32) × (Nat → Int32)) => u = (m_readsOrder tl ati ors zt zm zk) ∧ r = u.1 ∧ (r = 0 ∨ r = 1)) (fun (u : Int32 × Int32 × Int32 × (Nat → Int32) × (Nat → Int32)) t => va_P (dC, dI) vwCl [(q0, .inr (9, [.ref q1, .ref q2, .int svc, .ref q3, .int tl, .int cde, .int mm, .int mr, .ref q4, .int (u.2.1), .int (u.2.2.1), .ref q5, .ref q6])), (q1, .inl (cyI, 246, .inl zs)), (q2, .inl (cyI, 984, .inl zv)), (q3, .inl (cyI, 80, .inl zt)), (q4, .inl (cyI, 5, .inl zp)), (q5, .inl (cyI, 40, .inl (u.2.2.2.1))), (q6, .inl (cyI, 40, .inl (u.2.2.2.2)))] t.heap ∧ va_D A [(q0, .inr (9, [.ref q1, .ref q2, .int svc, .ref q3, .int tl, .int cde, .int mm, .int mr, .ref q4, .int (u.2.1), .int (u.2.2.1), .ref q5, .ref q6])), (q1, .inl (cyI, 246, .inl zs)), (q2, .inl (cyI, 984, .inl zv)), (q3, .inl (cyI, 80, .inl zt)), (q4, .inl (cyI, 5, .inl zp)), (q5, .inl (cyI, 40, .inl (u.2.2.2.1))), (q6, .inl (cyI, 40, .inl (u.2.2.2.2)))]) A) ([.ref q0] : List Value).toArray s 0 0 A) (F0 m 57 ls []) := by
        intro hi ls hl hE
        refine lv_iload_n hx hb dX9_readsOrder_57 rfl (lv_at hl 1 rfl) ?_
        refine lv_iload_n hx hb dX9_readsOrder_58 rfl (lv_at hl 2 rfl) ?_
        refine lv_bipush (v := 45) hx hb dX9_readsOrder_59 (by decide) ?_
        have J69 : ∀ (t0_69 : Int32) (ls : Array Slot) (hl : lv_has ls 4 [(0, .ref q0)]) (hE : (m_readsOrder tl ati ors zt zm zk) = m_readsOrder_j69 tl ors zt zm zk r_4 u_20 t0_69), W p l e (headSpec wqX9_readsOrder ({ frames := 3, cells := 0, slots := 0, locals := 62 } : Room)).room s m ([.ref q0] : List Value).toArray below meth c H locs 0 0 (MQ below (va_Qi (fun (r : Int32) (u : Int32 × Int32 × Int32 × (Nat → Int32) × (Nat → Int32)) => u = (m_readsOrder tl ati ors zt zm zk) ∧ r = u.1 ∧ (r = 0 ∨ r = 1)) (fun (u : Int32 × Int32 × Int32 × (Nat → Int32) × (Nat → Int32)) t => va_P (dC, dI) vwCl [(q0, .inr (9, [.ref q1, .ref q2, .int svc, .ref q3, .int tl, .int cde, .int mm, .int mr, .ref q4, .int (u.2.1), .int (u.2.2.1), .ref q5, .ref q6])), (q1, .inl (cyI, 246, .inl zs)), (q2, .inl (cyI, 984, .inl zv)), (q3, .inl (cyI, 80, .inl zt)), (q4, .inl (cyI, 5, .inl zp)), (q5, .inl (cyI, 40, .inl (u.2.2.2.1))), (q6, .inl (cyI, 40, .inl (u.2.2.2.2)))] t.heap ∧ va_D A [(q0, .inr (9, [.ref q1, .ref q2, .int svc, .ref q3, .int tl, .int cde, .int mm, .int mr, .ref q4, .int (u.2.1), .int (u.2.2.1), .ref q5, .ref q6])), (q1, .inl (cyI, 246, .inl zs)), (q2, .inl (cyI, 984, .inl zv)), (q3, .inl (cyI, 80, .inl zt)), (q4, .inl (cyI, 5, .inl zp)), (q5, .inl (cyI, 40, .inl (u.2.2.2.1))), (q6, .inl (cyI, 40, .inl (u.2.2.2.2)))]) A) ([.ref q0] : List Value).toArray s 0 0 A) (F0 m 69 ls [.int t0_69, .int r_4]) := by
          intro t0_69 ls hl hE
          refine lv_iadd hx hb dX9_readsOrder_69 ?_
          refine lv_topi (fun x_25 ex_25 => ?_)
          have hE := hE.trans (spLet_eq ex_25)
          refine lv_istore_n (lv' := [(2, .int x_25), (0, .ref q0)]) hx hb dX9_readsOrder_70 rfl hl (by decide) rfl (fun ls hl => ?_)
          refine lv_aload_n hx hb dX9_readsOrder_71 rfl (lv_at hl 1 rfl) ?_
          refine lv_dup hx hb dX9_readsOrder_72 rfl ?_
          refine va_get (D := (dC, dI)) (ci := 9) (v := .int (u_20.2)) (C := RX9) (T := TX9) (N := 13) hx hb hts i_X9 hown hK hP 0 rfl rfl 9 (by decide) w_0 (fun _ h9 => h9) rfl dX9_readsOrder_73 ?_
          refine lv_iconst (v := 1) hx hb dX9_readsOrder_76 (by decide) ?_
          refine lv_iadd hx hb dX9_readsOrder_77 ?_
          refine lv_topi (fun y_26 ey_26 => ?_)
          obtain rfl : y_26 = nI ((u_20.2).toNatClampNeg + 1) := ey_26.trans (nadd hs2.2.1.1 (rfl : (1 : Int32) = nI 1))
          refine va_put (D := (dC, dI)) (ci := 9) (v := .int (nI ((u_20.2).toNatClampNeg + 1))) (ty := .int) (C := RX9) (T := TX9) (N := 13) hx hb hts i_X9 tyX9 tyX9_ok nmX9 hown hK hP hD hS 0 rfl rfl 9 (by decide) w_0 (fun _ h9 => h9) rfl (by decide +kernel) (rfl) (rfl) (Nat.le_of_ble_eq_true rfl) dX9_readsOrder_78 (fun H locs hP hD hS => ?_)
          have hP : va_P (dC, dI) vwCl [(q0, .inr (9, [.ref q1, .ref q2, .int svc, .ref q3, .int tl, .int cde, .int mm, .int mr, .ref q4, .int (nI ((u_20.2).toNatClampNeg + 1)), .int ors, .ref q5, .ref q6])), (q1, .inl (cyI, 246, .inl zs)), (q2, .inl (cyI, 984, .inl zv)), (q3, .inl (cyI, 80, .inl zt)), (q4, .inl (cyI, 5, .inl zp)), (q5, .inl (cyI, 40, .inl zm)), (q6, .inl (cyI, 40, .inl zk))] H := hP
          have hD : va_D A [(q0, .inr (9, [.ref q1, .ref q2, .int svc, .ref q3, .int tl, .int cde, .int mm, .int mr, .ref q4, .int (nI ((u_20.2).toNatClampNeg + 1)), .int ors, .ref q5, .ref q6])), (q1, .inl (cyI, 246, .inl zs)), (q2, .inl (cyI, 984, .inl zv)), (q3, .inl (cyI, 80, .inl zt)), (q4, .inl (cyI, 5, .inl zp)), (q5, .inl (cyI, 40, .inl zm)), (q6, .inl (cyI, 40, .inl zk))] := hD
          have hg2 := aG.inc (a := (u_20.2).toNatClampNeg) (by omega)
          exact J81 x_25 (nI ((u_20.2).toNatClampNeg + 1)) ⟨hg2.1, by have := hs1.2.2; have := hg1.2; have := hs2.2.2; have := hg2.2; omega⟩ _ _ hP hD hS ls (lv_sub hl [1, 0] rfl) hE
        refine lv_icmp_ne (tgt := 68) hx hb dX9_readsOrder_61 (by decide) (fun c_24 => ?_) (fun c_24 => ?_)
        ·
          have hE := hE.trans (if_neg c_24)
          refine lv_iconst (v := 0) hx hb dX9_readsOrder_68 (by decide) ?_
          exact J69 (0 : Int32) ls (lv_sub hl [0] rfl) hE
        ·
          have hE := hE.trans (if_pos c_24)
          refine lv_iconst (v := 1) hx hb dX9_readsOrder_64 (by decide) ?_
          refine lv_goto (tgt := 69) hx hb dX9_readsOrder_65 (by decide) ?_
          exact J69 (1 : Int32) ls (lv_sub hl [0] rfl) hE
      refine lv_icmp_eq (tgt := 57) hx hb dX9_readsOrder_46 (by decide) (fun c_23 => ?_) (fun c_23 => ?_)
      ·
        have hE := hE.trans (if_pos c_23)
        exact J57 (ro_c (k := 43) (by decide) hs2.1 ex_22 (by assumption)) ls (lv_sub hl [1, 2, 0] rfl) hE
      ·
        have hE := hE.trans (if_neg c_23)
        refine lv_iload_n hx hb dX9_readsOrder_49 rfl (lv_at hl 0 rfl) ?_
        refine lv_bipush (v := 45) hx hb dX9_readsOrder_50 (by decide) ?_
        refine lv_icmp_eq (tgt := 57) hx hb dX9_readsOrder_52 (by decide) (fun c_27 => ?_) (fun c_27 => ?_)
        ·
          have hE := hE.trans (if_pos c_27)
          exact J57 (ro_c (k := 45) (by decide) hs2.1 ex_22 (by assumption)) ls (lv_sub hl [1, 2, 0] rfl) hE
        ·
          have hE := hE.trans (if_neg c_27)
          refine lv_iconst (v := 0) hx hb dX9_readsOrder_55 (by decide) ?_
          exact W.zret (v := (0 : Int32)) hx hb hr rfl (fun t h9 hW => ⟨⟨(0 : Int32), (((0 : Int32), (u_20.2), ors, zm, zk) : Int32 × Int32 × Int32 × (Nat → Int32) × (Nat → Int32)), rfl, ⟨hE.symm, rfl, (by decide)⟩, by rw [h9]; exact hP, hD⟩, hS.F h9⟩) hS.2.2 dX9_readsOrder_56
  refine lv_icmp_ne (tgt := 23) hx hb dX9_readsOrder_12 (by decide) (fun c_5 => ?_) (fun c_5 => ?_)
  ·
    have hE := hE.trans (if_neg c_5)
    exact J23 (ro_1 hs1.1 ex_3 hr_4 (by assumption)) ls (lv_sub hl [2, 0] rfl) hE
  ·
    have hE := hE.trans (if_pos c_5)
    refine lv_iload_n hx hb dX9_readsOrder_15 rfl (lv_at hl 1 rfl) ?_
    refine lv_bipush (v := 119) hx hb dX9_readsOrder_16 (by decide) ?_
    refine lv_icmp_eq (tgt := 23) hx hb dX9_readsOrder_18 (by decide) (fun c_28 => ?_) (fun c_28 => ?_)
    ·
      have hE := hE.trans (if_pos c_28)
      exact J23 (ro_c (k := 119) (by decide) hs1.1 ex_3 (by assumption)) ls (lv_sub hl [2, 0] rfl) hE
    ·
      have hE := hE.trans (if_neg c_28)
      refine lv_iconst (v := 0) hx hb dX9_readsOrder_21 (by decide) ?_
      exact W.zret (v := (0 : Int32)) hx hb hr rfl (fun t h9 hW => ⟨⟨(0 : Int32), (((0 : Int32), (u_1.2), ors, zm, zk) : Int32 × Int32 × Int32 × (Nat → Int32) × (Nat → Int32)), rfl, ⟨hE.symm, rfl, (by decide)⟩, by rw [h9]; exact hP, hD⟩, hS.F h9⟩) hS.2.2 dX9_readsOrder_22

