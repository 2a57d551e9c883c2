def m_number_j68 (tl : Int32) (zt : Nat → Int32) (v1_20 : Int32) (w0_9_20 : Int32) : Int32 × Int32 :=
  spLet (m_here tl w0_9_20 zt) (fun r_6 => spLet (m_in r_6 (48 : Int32) (57 : Int32)) (fun r_7 => if r_7 = 0 then ((v1_20, w0_9_20)) else (((0 : Int32), w0_9_20))))
def m_number_b20 (tl : Int32) (zt : Nat → Int32) (rec20 : Int32 → Nat → Int32 → (Int32 × Int32)) : Int32 → Nat → Int32 → (Int32 × Int32) :=
  fun v1_20 k2_20 w0_9_20 => if 2 ≤ k2_20 then (m_number_j68 tl zt v1_20 w0_9_20) else (spLet (m_here tl w0_9_20 zt) (fun r_9 => spLet (m_in r_9 (48 : Int32) (57 : Int32)) (fun r_10 => if r_10 = 0 then (m_number_j68 tl zt v1_20 w0_9_20) else (spLet (m_here tl w0_9_20 zt) (fun r_12 => spLet (((((10 : Int32) * v1_20) + r_12) - (48 : Int32))) (fun x_13 => rec20 x_13 (k2_20 + 1) (nI ((w0_9_20).toNatClampNeg + 1))))))))
def m_number (tl : Int32) (ati : Int32) (zt : Nat → Int32) : Int32 × Int32 :=
  spLet (m_sign tl ati zt) (fun u_1 => spLet (m_in (u_1.1) (48 : Int32) (57 : Int32)) (fun r_3 => if r_3 = 0 then (((0 : Int32), (u_1.2))) else (spIter (fun _ _ _ => default) (m_number_b20 tl zt) 3 (0 : Int32) 0 (u_1.2))))
set_option maxHeartbeats 1000000 in
set_option maxRecDepth 100000 in
theorem c_X9_number (l : Launch) (dC : Nat → ClassId) (dI : Nat → Nat → Nat) (cyI : ClassId) (sz : Nat) (q0 : Nat) (q1 : Nat) (q2 : Nat) (q3 : Nat) (q4 : Nat) (q5 : Nat) (q6 : Nat) (svc : Int32) (tl : Int32) (cde : Int32) (mm : Int32) (mr : Int32) (ati : Int32) (ors : Int32) (zs : Nat → Int32) (zv : Nat → Int32) (zt : Nat → Int32) (zp : Nat → Int32) (zm : Nat → Int32) (zk : Nat → Int32) (htl : tl = nI tl.toNatClampNeg) (ht80 : tl.toNatClampNeg ≤ 80) (hat : ati = nI ati.toNatClampNeg) (ha80 : ati.toNatClampNeg ≤ 80) : Met l yX9_number wqX9_number ({ frames := 2, cells := 0, slots := 0, locals := 40 } : Room) (va_Pc [.ref q0] (pC (dC, dI) [(q0, .inr (9, [.ref q1, .ref q2, .int svc, .ref q3, .int tl, .int cde, .int mm, .int mr, .ref q4, .int ati, .int ors, .ref q5, .ref q6])), (q1, .inl (cyI, 246, .inl zs)), (q2, .inl (cyI, 984, .inl zv)), (q3, .inl (cyI, 80, .inl zt)), (q4, .inl (cyI, 5, .inl zp)), (q5, .inl (cyI, 40, .inl zm)), (q6, .inl (cyI, 40, .inl zk))] [(cyI, .int)] eM sz)) (va_Qi (fun (r : Int32) (u : Int32 × Int32) => u = (m_number tl ati zt) ∧ r = u.1) (fun (u : Int32 × Int32) t => va_P (dC, dI) vwCl [(q0, .inr (9, [.ref q1, .ref q2, .int svc, .ref q3, .int tl, .int cde, .int mm, .int mr, .ref q4, .int (u.2), .int ors, .ref q5, .ref q6])), (q1, .inl (cyI, 246, .inl zs)), (q2, .inl (cyI, 984, .inl zv)), (q3, .inl (cyI, 80, .inl zt)), (q4, .inl (cyI, 5, .inl zp)), (q5, .inl (cyI, 40, .inl zm)), (q6, .inl (cyI, 40, .inl zk))] t.heap ∧ va_D (va_A [(q0, .inr (9, [.ref q1, .ref q2, .int svc, .ref q3, .int tl, .int cde, .int mm, .int mr, .ref q4, .int ati, .int ors, .ref q5, .ref q6])), (q1, .inl (cyI, 246, .inl zs)), (q2, .inl (cyI, 984, .inl zv)), (q3, .inl (cyI, 80, .inl zt)), (q4, .inl (cyI, 5, .inl zp)), (q5, .inl (cyI, 40, .inl zm)), (q6, .inl (cyI, 40, .inl zk))] sz) [(q0, .inr (9, [.ref q1, .ref q2, .int svc, .ref q3, .int tl, .int cde, .int mm, .int mr, .ref q4, .int (u.2), .int ors, .ref q5, .ref q6])), (q1, .inl (cyI, 246, .inl zs)), (q2, .inl (cyI, 984, .inl zv)), (q3, .inl (cyI, 80, .inl zt)), (q4, .inl (cyI, 5, .inl zp)), (q5, .inl (cyI, 40, .inl zm)), (q6, .inl (cyI, 40, .inl zk))]) (va_A [(q0, .inr (9, [.ref q1, .ref q2, .int svc, .ref q3, .int tl, .int cde, .int mm, .int mr, .ref q4, .int ati, .int ors, .ref q5, .ref q6])), (q1, .inl (cyI, 246, .inl zs)), (q2, .inl (cyI, 984, .inl zv)), (q3, .inl (cyI, 80, .inl zt)), (q4, .inl (cyI, 5, .inl zp)), (q5, .inl (cyI, 40, .inl zm)), (q6, .inl (cyI, 40, .inl zk))] sz)) 0 0 (va_A [(q0, .inr (9, [.ref q1, .ref q2, .int svc, .ref q3, .int tl, .int cde, .int mm, .int mr, .ref q4, .int ati, .int ors, .ref q5, .ref q6])), (q1, .inl (cyI, 246, .inl zs)), (q2, .inl (cyI, 984, .inl zv)), (q3, .inl (cyI, 80, .inl zt)), (q4, .inl (cyI, 5, .inl zp)), (q5, .inl (cyI, 40, .inl zm)), (q6, .inl (cyI, 40, .inl zk))] sz) := by
  refine Met.ofW (cc := cX9_number) (maxL := 3) (ret := (some .int)) (by decide) rfl ?_
  intro p e s m args below meth c s₁ B hml hv
  obtain ⟨rfl, hsz, hP, hK, hD0, he⟩ := hv
  have hx := B.exec
  have hb := B.bytes
  have hr := B.returns
  have hts := atoms_spec (ws := wqX9_number) B.pre
  have hown : s.vm.findClass RX9 = some m.cls := findClass_of_methodNamed B.named
  have hlocks := B.notSynchronized
  have w_0 := hts (Cond.fieldLink RX9 218 "CraneLimiterModel" "at" "I") (List.mem_cons_of_mem _ b_979)
  have i_X9 : ∀ w ∈ u_ws RX9 TX9 13, w ∈ wqX9_number := fun w h => List.mem_cons_of_mem _ (bX9 w h)
  subst hsz
  have hD := hD0.self (sz := s.heap.size)
  generalize hAe : va_A [(q0, .inr (9, [.ref q1, .ref q2, .int svc, .ref q3, .int tl, .int cde, .int mm, .int mr, .ref q4, .int ati, .int ors, .ref q5, .ref q6])), (q1, .inl (cyI, 246, .inl zs)), (q2, .inl (cyI, 984, .inl zv)), (q3, .inl (cyI, 80, .inl zt)), (q4, .inl (cyI, 5, .inl zp)), (q5, .inl (cyI, 40, .inl zm)), (q6, .inl (cyI, 40, .inl zk))] s.heap.size = A at hD he ⊢
  have hA : ∀ q : Nat, s.heap.size ≤ q → A q := fun q h => by rw [← hAe]; exact Or.inr h
  have hS : va_S A s.heap s.heap [] := va_S.rf
  have hP : va_P (dC, dI) vwCl [(q0, .inr (9, [.ref q1, .ref q2, .int svc, .ref q3, .int tl, .int cde, .int mm, .int mr, .ref q4, .int ati, .int ors, .ref q5, .ref q6])), (q1, .inl (cyI, 246, .inl zs)), (q2, .inl (cyI, 984, .inl zv)), (q3, .inl (cyI, 80, .inl zt)), (q4, .inl (cyI, 5, .inl zp)), (q5, .inl (cyI, 40, .inl zm)), (q6, .inl (cyI, 40, .inl zk))] s.heap := hP
  have hl := lv_entry ([.ref q0] : List Value) (n := 3) (Nat.le_of_ble_eq_true rfl)
  rw [lg_entry_eq]
  generalize (lg_sl ([.ref q0] : List Value) ++ List.replicate (3 - (lg_sl ([.ref q0] : List Value)).length) Slot.unset).toArray = ls at hl ⊢
  have hl : lv_has ls 3 [(0, .ref q0)] := hl
  have hE : m_number tl ati zt = m_number tl ati zt := rfl
  refine lv_iconst (v := 0) hx hb dX9_number_0 (by decide) ?_
  refine lv_istore_n (lv' := [(1, .int (0 : Int32)), (0, .ref q0)]) hx hb dX9_number_1 rfl hl (by decide) rfl (fun ls hl => ?_)
  refine lv_aload_n hx hb dX9_number_2 rfl (lv_at hl 1 rfl) ?_
  refine mj_i (wr := []) (va_runV (As := []) (rest := []) ⟨hx, hb, hml, hown, hts⟩ (c_X9_sign l dC dI cyI s.heap.size q0 q1 q2 q3 q4 q5 q6 svc tl cde mm mr ati ors zs zv zt zp zm zk htl ht80 hat ha80) (cwV 0 hts (gBV b_985 b_986 b_987 b_5 b_988) rfl rfl rfl (by decide +kernel) ⟨Nat.le_of_ble_eq_true rfl, Nat.le_of_ble_eq_true rfl⟩) (prm_v eM_ok he hS hP hD hK (va_free (wc := [(q0, .inr (9, [.ref q1, .ref q2, .int svc, .ref q3, .int tl, .int cde, .int mm, .int mr, .ref q4, .int ati, .int ors, .ref q5, .ref q6])), (q1, .inl (cyI, 246, .inl zs)), (q2, .inl (cyI, 984, .inl zv)), (q3, .inl (cyI, 80, .inl zt)), (q4, .inl (cyI, 5, .inl zp)), (q5, .inl (cyI, 40, .inl zm)), (q6, .inl (cyI, 40, .inl zk))]) hD hS hA [0, 1, 2, 3, 4, 5, 6] rfl) 0 rfl rfl rfl) rfl rfl hl.1 rfl (lv_room (Nat.le_of_ble_eq_true rfl)) dX9_number_3 ⟨Nat.le_of_ble_eq_true rfl, Nat.le_of_ble_eq_true rfl⟩) hP hD hS hA [0, 1, 2, 3, 4, 5, 6] [] rfl rfl (by decide) (by decide) (fun r_2 u_1 H locs hw hP hD hS => ?_)
  obtain ⟨hu_1, rfl⟩ := hw
  have hE := hE.trans (spLet_eq hu_1)
  have hP : va_P (dC, dI) vwCl [(q0, .inr (9, [.ref q1, .ref q2, .int svc, .ref q3, .int tl, .int cde, .int mm, .int mr, .ref q4, .int (u_1.2), .int ors, .ref q5, .ref q6])), (q1, .inl (cyI, 246, .inl zs)), (q2, .inl (cyI, 984, .inl zv)), (q3, .inl (cyI, 80, .inl zt)), (q4, .inl (cyI, 5, .inl zp)), (q5, .inl (cyI, 40, .inl zm)), (q6, .inl (cyI, 40, .inl zk))] H := hP
  have hD : va_D A [(q0, .inr (9, [.ref q1, .ref q2, .int svc, .ref q3, .int tl, .int cde, .int mm, .int mr, .ref q4, .int (u_1.2), .int ors, .ref q5, .ref q6])), (q1, .inl (cyI, 246, .inl zs)), (q2, .inl (cyI, 984, .inl zv)), (q3, .inl (cyI, 80, .inl zt)), (q4, .inl (cyI, 5, .inl zp)), (q5, .inl (cyI, 40, .inl zm)), (q6, .inl (cyI, 40, .inl zk))] := hD
  have hs := sign_q hu_1 ht80 hat ha80
  refine lv_bipush (v := 48) hx hb dX9_number_6 (by decide) ?_
  refine lv_bipush (v := 57) hx hb dX9_number_8 (by decide) ?_
  refine vp_callSi (W.runS (As := [.int (u_1.1), .int (48 : Int32), .int (57 : Int32)]) (rest := []) ⟨hx, hb, hml, hown, hts⟩ (c_X9_in l dC dI cyI (u_1.1) (48 : Int32) (57 : Int32)) (va_cwS 3 hts (gBS b_182 b_183 b_5 b_184) rfl rfl rfl (by decide +kernel) ⟨Nat.le_of_ble_eq_true rfl, Nat.le_of_ble_eq_true rfl⟩) (pre_s eM_ok he hS (hP.sub (ws' := []) [] rfl) (hK.sub (tys' := []) [] rfl)) rfl rfl hl.1 rfl (lv_room (Nat.le_of_ble_eq_true rfl)) dX9_number_10 ⟨Nat.zero_le _, Nat.zero_le _⟩) (fun r_3 hr_3 => ?_)
  obtain ⟨hr_3, hbr_3⟩ := hr_3
  have hE := hE.trans (spLet_eq hr_3)
  refine lv_if_ne (tgt := 18) hx hb dX9_number_13 (by decide) (fun c_4 => ?_) (fun c_4 => ?_)
  ·
    have hE := hE.trans (if_neg c_4)
    refine lv_iconst (v := 0) hx hb dX9_number_18 (by decide) ?_
    refine lv_istore_n (lv' := [(2, .int (0 : Int32)), (1, .int (0 : Int32)), (0, .ref q0)]) hx hb dX9_number_19 rfl hl (by decide) rfl (fun ls hl => ?_)
    have L20 : ∀ (n20 : Nat) (v1_20 : Int32) (k2_20 : Nat) (w0_9_20 : Int32) (hi : w0_9_20 = nI (w0_9_20).toNatClampNeg ∧ (w0_9_20).toNatClampNeg ≤ 80 ∧ k2_20 ≤ 2 ∧ 2 < k2_20 + n20) (H : Heap) (locs : List Loc) (hP : va_P (dC, dI) vwCl [(q0, .inr (9, [.ref q1, .ref q2, .int svc, .ref q3, .int tl, .int cde, .int mm, .int mr, .ref q4, .int w0_9_20, .int ors, .ref q5, .ref q6])), (q1, .inl (cyI, 246, .inl zs)), (q2, .inl (cyI, 984, .inl zv)), (q3, .inl (cyI, 80, .inl zt)), (q4, .inl (cyI, 5, .inl zp)), (q5, .inl (cyI, 40, .inl zm)), (q6, .inl (cyI, 40, .inl zk))] H) (hD : va_D A [(q0, .inr (9, [.ref q1, .ref q2, .int svc, .ref q3, .int tl, .int cde, .int mm, .int mr, .ref q4, .int w0_9_20, .int ors, .ref q5, .ref q6])), (q1, .inl (cyI, 246, .inl zs)), (q2, .inl (cyI, 984, .inl zv)), (q3, .inl (cyI, 80, .inl zt)), (q4, .inl (cyI, 5, .inl zp)), (q5, .inl (cyI, 40, .inl zm)), (q6, .inl (cyI, 40, .inl zk))]) (hS : va_S A s.heap H locs) (ls : Array Slot) (hl : lv_has ls 3 [(0, .ref q0), (1, .int v1_20), (2, .int (nI k2_20))]) (hE : (m_number tl ati zt) = spIter (fun _ _ _ => default) (m_number_b20 tl zt) n20 v1_20 k2_20 w0_9_20), W p l e (headSpec wqX9_number ({ frames := 2, cells := 0, slots := 0, locals := 40 } : Room)).room s m ([.ref q0] : List Value).toArray below meth c H locs 0 0 (MQ below (va_Qi (fun (r : Int32) (u : Int32 × Int32) => u = (m_number tl ati zt) ∧ r = u.1) (fun (u : Int32 × Int32) t => va_P (dC, dI) vwCl [(q0, .inr (9, [.ref q1, .ref q2, .int svc, .ref q3, .int tl, .int cde, .int mm, .int mr, .ref q4, .int (u.2), .int ors, .ref q5, .ref q6])), (q1, .inl (cyI, 246, .inl zs)), (q2, .inl (cyI, 984, .inl zv)), (q3, .inl (cyI, 80, .inl zt)), (q4, .inl (cyI, 5, .inl zp)), (q5, .inl (cyI, 40, .inl zm)), (q6, .inl (cyI, 40, .inl zk))] t.heap ∧ va_D A [(q0, .inr (9, [.ref q1, .ref q2, .int svc, .ref q3, .int tl, .int cde, .int mm, .int mr, .ref q4, .int (u.2), .int ors, .ref q5, .ref q6])), (q1, .inl (cyI, 246, .inl zs)), (q2, .inl (cyI, 984, .inl zv)), (q3, .inl (cyI, 80, .inl zt)), (q4, .inl (cyI, 5, .inl zp)), (q5, .inl (cyI, 40, .inl zm)), (q6, .inl (cyI, 40, .inl zk))]) A) ([.ref q0] : List Value).toArray s 0 0 A) (F0 m 20 ls []) := by
      intro n20
      induction n20 with
      | zero =>
        intro v1_20 k2_20 w0_9_20 hi H locs hP hD hS ls hl hE
        exact absurd hi (by omega)
      | succ n20 ih20 =>
        intro v1_20 k2_20 w0_9_20 hi H locs hP hD hS ls hl hE
        have hE : (m_number tl ati zt) = m_number_b20 tl zt (spIter (fun _ _ _ => default) (m_number_b20 tl zt) n20) v1_20 k2_20 w0_9_20 := hE
        refine lv_iload_n hx hb dX9_number_20 rfl (lv_at hl 2 rfl) ?_
        refine lv_iconst (v := 2) hx hb dX9_number_21 (by decide) ?_
        have J68 : ∀ (ls : Array Slot) (hl : lv_has ls 3 [(0, .ref q0), (1, .int v1_20)]) (hE : (m_number tl ati zt) = m_number_j68 tl zt v1_20 w0_9_20), W p l e (headSpec wqX9_number ({ frames := 2, cells := 0, slots := 0, locals := 40 } : Room)).room s m ([.ref q0] : List Value).toArray below meth c H locs 0 0 (MQ below (va_Qi (fun (r : Int32) (u : Int32 × Int32) => u = (m_number tl ati zt) ∧ r = u.1) (fun (u : Int32 × Int32) t => va_P (dC, dI) vwCl [(q0, .inr (9, [.ref q1, .ref q2, .int svc, .ref q3, .int tl, .int cde, .int mm, .int mr, .ref q4, .int (u.2), .int ors, .ref q5, .ref q6])), (q1, .inl (cyI, 246, .inl zs)), (q2, .inl (cyI, 984, .inl zv)), (q3, .inl (cyI, 80, .inl zt)), (q4, .inl (cyI, 5, .inl zp)), (q5, .inl (cyI, 40, .inl zm)), (q6, .inl (cyI, 40, .inl zk))] t.heap ∧ va_D A [(q0, .inr (9, [.ref q1, .ref q2, .int svc, .ref q3, .int tl, .int cde, .int mm, .int mr, .ref q4, .int (u.2), .int ors, .ref q5, .ref q6])), (q1, .inl (cyI, 246, .inl zs)), (q2, .inl (cyI, 984, .inl zv)), (q3, .inl (cyI, 80, .inl zt)), (q4, .inl (cyI, 5, .inl zp)), (q5, .inl (cyI, 40, .inl zm)), (q6, .inl (cyI, 40, .inl zk))]) A) ([.ref q0] : List Value).toArray s 0 0 A) (F0 m 68 ls []) := by
          intro ls hl hE
          refine lv_aload_n hx hb dX9_number_68 rfl (lv_at hl 0 rfl) ?_
          refine vp_callSi (W.runV (As := []) (rest := []) ⟨hx, hb, hml, hown, hts⟩ (c_X9_here l dC dI cyI q0 q1 q2 q3 q4 q5 q6 svc tl cde mm mr w0_9_20 ors zs zv zt zp zm zk htl ht80 hi.1 hi.2.1) (cwV 0 hts (gBV b_989 b_990 b_991 b_5 b_992) rfl rfl rfl (by decide +kernel) ⟨Nat.le_of_ble_eq_true rfl, Nat.le_of_ble_eq_true rfl⟩) (pre_v eM_ok he hS hP hK 0 rfl rfl rfl) rfl rfl hl.1 rfl (lv_room (Nat.le_of_ble_eq_true rfl)) dX9_number_69 ⟨Nat.zero_le _, Nat.zero_le _⟩) (fun r_6 hr_6 => ?_)
          have hE := hE.trans (spLet_eq hr_6)
          refine lv_bipush (v := 48) hx hb dX9_number_72 (by decide) ?_
          refine lv_bipush (v := 57) hx hb dX9_number_74 (by decide) ?_
          refine vp_callSi (W.runS (As := [.int r_6, .int (48 : Int32), .int (57 : Int32)]) (rest := []) ⟨hx, hb, hml, hown, hts⟩ (c_X9_in l dC dI cyI r_6 (48 : Int32) (57 : Int32)) (va_cwS 3 hts (gBS b_182 b_183 b_5 b_184) rfl rfl rfl (by decide +kernel) ⟨Nat.le_of_ble_eq_true rfl, Nat.le_of_ble_eq_true rfl⟩) (pre_s eM_ok he hS (hP.sub (ws' := []) [] rfl) (hK.sub (tys' := []) [] rfl)) rfl rfl hl.1 rfl (lv_room (Nat.le_of_ble_eq_true rfl)) dX9_number_76 ⟨Nat.zero_le _, Nat.zero_le _⟩) (fun r_7 hr_7 => ?_)
          obtain ⟨hr_7, hbr_7⟩ := hr_7
          have hE := hE.trans (spLet_eq hr_7)
          refine lv_if_eq (tgt := 86) hx hb dX9_number_79 (by decide) (fun c_8 => ?_) (fun c_8 => ?_)
          ·
            have hE := hE.trans (if_pos c_8)
            refine lv_iload_n hx hb dX9_number_86 rfl (lv_at hl 1 rfl) ?_
            exact W.iret (v := v1_20) hx hb hr (fun t h9 hW => ⟨⟨v1_20, ((v1_20, w0_9_20) : Int32 × Int32), rfl, ⟨hE.symm, rfl⟩, by rw [h9]; exact hP, hD⟩, hS.F h9⟩) hS.2.2 dX9_number_87
          ·
            have hE := hE.trans (if_neg c_8)
            refine lv_iconst (v := 0) hx hb dX9_number_82 (by decide) ?_
            refine lv_goto (tgt := 87) hx hb dX9_number_83 (by decide) ?_
            exact W.iret (v := (0 : Int32)) hx hb hr (fun t h9 hW => ⟨⟨(0 : Int32), (((0 : Int32), w0_9_20) : Int32 × Int32), rfl, ⟨hE.symm, rfl⟩, by rw [h9]; exact hP, hD⟩, hS.F h9⟩) hS.2.2 dX9_number_87
        refine lv_icmp_ge (tgt := 68) hx hb dX9_number_22 (by decide) (fun c_5 => ?_) (fun c_5 => ?_)
        ·
          have c_5 : 2 ≤ k2_20 := by
            have h1 : ((nI k2_20)) = nI k2_20 := rfl
            have h2 : ((2 : Int32)) = nI 2 := rfl
            have h3 : (nI 2 ≤ nI k2_20) := by first | exact c_5 | (rw [← h1, ← h2]; exact c_5)
            exact (nI_leI (by omega) (by omega)).mp h3
          have hE := hE.trans (if_pos c_5)
          exact J68 ls (lv_sub hl [0, 1] rfl) hE
        ·
          have c_5 : ¬ 2 ≤ k2_20 := by
            have h1 : ((nI k2_20)) = nI k2_20 := rfl
            have h2 : ((2 : Int32)) = nI 2 := rfl
            have h3 : ¬ (nI 2 ≤ nI k2_20) := by first | exact c_5 | (rw [← h1, ← h2]; exact c_5)
            exact fun h => h3 ((nI_leI (by omega) (by omega)).mpr h)
          have hE := hE.trans (if_neg c_5)
          refine lv_aload_n hx hb dX9_number_25 rfl (lv_at hl 0 rfl) ?_
          refine vp_callSi (W.runV (As := []) (rest := []) ⟨hx, hb, hml, hown, hts⟩ (c_X9_here l dC dI cyI q0 q1 q2 q3 q4 q5 q6 svc tl cde mm mr w0_9_20 ors zs zv zt zp zm zk htl ht80 hi.1 hi.2.1) (cwV 0 hts (gBV b_989 b_990 b_991 b_5 b_992) rfl rfl rfl (by decide +kernel) ⟨Nat.le_of_ble_eq_true rfl, Nat.le_of_ble_eq_true rfl⟩) (pre_v eM_ok he hS hP hK 0 rfl rfl rfl) rfl rfl hl.1 rfl (lv_room (Nat.le_of_ble_eq_true rfl)) dX9_number_26 ⟨Nat.zero_le _, Nat.zero_le _⟩) (fun r_9 hr_9 => ?_)
          have hE := hE.trans (spLet_eq hr_9)
          refine lv_bipush (v := 48) hx hb dX9_number_29 (by decide) ?_
          refine lv_bipush (v := 57) hx hb dX9_number_31 (by decide) ?_
          refine vp_callSi (W.runS (As := [.int r_9, .int (48 : Int32), .int (57 : Int32)]) (rest := []) ⟨hx, hb, hml, hown, hts⟩ (c_X9_in l dC dI cyI r_9 (48 : Int32) (57 : Int32)) (va_cwS 3 hts (gBS b_182 b_183 b_5 b_184) rfl rfl rfl (by decide +kernel) ⟨Nat.le_of_ble_eq_true rfl, Nat.le_of_ble_eq_true rfl⟩) (pre_s eM_ok he hS (hP.sub (ws' := []) [] rfl) (hK.sub (tys' := []) [] rfl)) rfl rfl hl.1 rfl (lv_room (Nat.le_of_ble_eq_true rfl)) dX9_number_33 ⟨Nat.zero_le _, Nat.zero_le _⟩) (fun r_10 hr_10 => ?_)
          obtain ⟨hr_10, hbr_10⟩ := hr_10
          have hE := hE.trans (spLet_eq hr_10)
          refine lv_if_eq (tgt := 68) hx hb dX9_number_36 (by decide) (fun c_11 => ?_) (fun c_11 => ?_)
          ·
            have hE := hE.trans (if_pos c_11)
            exact J68 ls (lv_sub hl [0, 1] rfl) hE
          ·
            have hE := hE.trans (if_neg c_11)
            refine lv_bipush (v := 10) hx hb dX9_number_39 (by decide) ?_
            refine lv_iload_n hx hb dX9_number_41 rfl (lv_at hl 1 rfl) ?_
            refine lv_imul hx hb dX9_number_42 ?_
            refine lv_aload_n hx hb dX9_number_43 rfl (lv_at hl 0 rfl) ?_
            refine vp_callSi (W.runV (As := []) (rest := [.int ((10 : Int32) * v1_20)]) ⟨hx, hb, hml, hown, hts⟩ (c_X9_here l dC dI cyI q0 q1 q2 q3 q4 q5 q6 svc tl cde mm mr w0_9_20 ors zs zv zt zp zm zk htl ht80 hi.1 hi.2.1) (cwV 0 hts (gBV b_989 b_990 b_991 b_5 b_992) rfl rfl rfl (by decide +kernel) ⟨Nat.le_of_ble_eq_true rfl, Nat.le_of_ble_eq_true rfl⟩) (pre_v eM_ok he hS hP hK 0 rfl rfl rfl) rfl rfl hl.1 rfl (lv_room (Nat.le_of_ble_eq_true rfl)) dX9_number_44 ⟨Nat.zero_le _, Nat.zero_le _⟩) (fun r_12 hr_12 => ?_)
            have hE := hE.trans (spLet_eq hr_12)
            refine lv_iadd hx hb dX9_number_47 ?_
            refine lv_bipush (v := 48) hx hb dX9_number_48 (by decide) ?_
            refine lv_isub hx hb dX9_number_50 ?_
            refine lv_topi (fun x_13 ex_13 => ?_)
            have hE := hE.trans (spLet_eq ex_13)
            refine lv_istore_n (lv' := [(1, .int x_13), (0, .ref q0), (2, .int (nI k2_20))]) hx hb dX9_number_51 rfl hl (by decide) rfl (fun ls hl => ?_)
            refine lv_aload_n hx hb dX9_number_52 rfl (lv_at hl 1 rfl) ?_
            refine lv_dup hx hb dX9_number_53 rfl ?_
            refine va_get (D := (dC, dI)) (ci := 9) (v := .int w0_9_20) (C := RX9) (T := TX9) (N := 13) hx hb hts i_X9 hown hK hP 0 rfl rfl 9 (by decide) w_0 (fun _ h9 => h9) rfl dX9_number_54 ?_
            refine lv_iconst (v := 1) hx hb dX9_number_57 (by decide) ?_
            refine lv_iadd hx hb dX9_number_58 ?_
            refine lv_topi (fun y_14 ey_14 => ?_)
            obtain rfl : y_14 = nI ((w0_9_20).toNatClampNeg + 1) := ey_14.trans (nadd hi.1 (rfl : (1 : Int32) = nI 1))
            refine va_put (D := (dC, dI)) (ci := 9) (v := .int (nI ((w0_9_20).toNatClampNeg + 1))) (ty := .int) (C := RX9) (T := TX9) (N := 13) hx hb hts i_X9 tyX9 tyX9_ok nmX9 hown hK hP hD hS 0 rfl rfl 9 (by decide) w_0 (fun _ h9 => h9) rfl (by decide +kernel) (rfl) (rfl) (Nat.le_of_ble_eq_true rfl) dX9_number_59 (fun H locs hP hD hS => ?_)
            have hP : va_P (dC, dI) vwCl [(q0, .inr (9, [.ref q1, .ref q2, .int svc, .ref q3, .int tl, .int cde, .int mm, .int mr, .ref q4, .int (nI ((w0_9_20).toNatClampNeg + 1)), .int ors, .ref q5, .ref q6])), (q1, .inl (cyI, 246, .inl zs)), (q2, .inl (cyI, 984, .inl zv)), (q3, .inl (cyI, 80, .inl zt)), (q4, .inl (cyI, 5, .inl zp)), (q5, .inl (cyI, 40, .inl zm)), (q6, .inl (cyI, 40, .inl zk))] H := hP
            have hD : va_D A [(q0, .inr (9, [.ref q1, .ref q2, .int svc, .ref q3, .int tl, .int cde, .int mm, .int mr, .ref q4, .int (nI ((w0_9_20).toNatClampNeg + 1)), .int ors, .ref q5, .ref q6])), (q1, .inl (cyI, 246, .inl zs)), (q2, .inl (cyI, 984, .inl zv)), (q3, .inl (cyI, 80, .inl zt)), (q4, .inl (cyI, 5, .inl zp)), (q5, .inl (cyI, 40, .inl zm)), (q6, .inl (cyI, 40, .inl zk))] := hD
            refine lv_iinc (v := (nI (k2_20 + 1))) (lv' := [(2, .int (nI (k2_20 + 1))), (1, .int x_13), (0, .ref q0)]) hx hb dX9_number_62 hl (k := 2) rfl (show _ from (congrArg (fun z => z + Int32.ofInt 1) (rfl)).trans (ninc _ 1)) (by decide) rfl (fun ls hl => ?_)
            refine lv_goto (tgt := 20) hx hb dX9_number_65 (by decide) ?_
            exact ih20 x_13 (k2_20 + 1) (nI ((w0_9_20).toNatClampNeg + 1)) (by have l9 := nu_lt hr_9 hr_10 (by assumption); obtain ⟨g9, e9⟩ := aG.inc (a := (w0_9_20).toNatClampNeg) (by omega); exact ⟨g9.1, g9.2, by omega, by omega⟩) _ _ hP hD hS ls (lv_sub hl [2, 1, 0] rfl) hE
    exact L20 3 (0 : Int32) 0 (u_1.2) ⟨hs.2.1.1, hs.2.1.2, by omega, by omega⟩ _ _ hP hD hS ls (lv_sub hl [2, 1, 0] rfl) hE
  ·
    have hE := hE.trans (if_pos c_4)
    refine lv_iconst (v := 0) hx hb dX9_number_16 (by decide) ?_
    exact W.iret (v := (0 : Int32)) hx hb hr (fun t h9 hW => ⟨⟨(0 : Int32), (((0 : Int32), (u_1.2)) : Int32 × Int32), rfl, ⟨hE.symm, rfl⟩, by rw [h9]; exact hP, hD⟩, hS.F h9⟩) hS.2.2 dX9_number_17

