def m_keep_b51 (zs : Nat → Int32) (w0_2_49 : Int32) (rec51 : Nat → (Nat → Int32) → (Int32 × (Nat → Int32))) : Nat → (Nat → Int32) → (Int32 × (Nat → Int32)) :=
  fun k1_51 w2_a_51 => if 246 ≤ k1_51 then (((nI ((w0_2_49).toNatClampNeg + 1)), w2_a_51)) else (spLet ((zs (k1_51))) (fun x_6 => spLet (upd w2_a_51 ((246 * (w0_2_49).toNatClampNeg) + k1_51) x_6) (fun f_7 => rec51 (k1_51 + 1) f_7)))
def m_keep_j49 (zs : Nat → Int32) (w0_2_49 : Int32) (w2_a_49 : Nat → Int32) : Int32 × (Nat → Int32) :=
  spIter (fun _ _ => default) (m_keep_b51 zs w0_2_49) 247 0 w2_a_49
def m_keep_b10 (svc : Int32) (zs : Nat → Int32) (rec10 : Nat → (Nat → Int32) → (Int32 × (Nat → Int32))) : Nat → (Nat → Int32) → (Int32 × (Nat → Int32)) :=
  fun k1_10 w2_a_10 => if 738 ≤ k1_10 then (spLet ((svc - (1 : Int32))) (fun x_9 => m_keep_j49 zs x_9 w2_a_10)) else (spLet ((w2_a_10 (k1_10 + 246))) (fun x_10 => spLet (upd w2_a_10 (k1_10) x_10) (fun f_11 => rec10 (k1_10 + 1) f_11)))
def m_keep (svc : Int32) (zs : Nat → Int32) (zv : Nat → Int32) : Int32 × (Nat → Int32) :=
  if svc.toNatClampNeg = 4 then (spIter (fun _ _ => default) (m_keep_b10 svc zs) 739 0 zv) else (m_keep_j49 zs svc zv)
set_option maxHeartbeats 1000000 in
set_option maxRecDepth 100000 in
theorem c_X9_keep (l : Launch) (dC : Nat → ClassId) (dI : Nat → Nat → Nat) (cyI : ClassId) (sz : Nat) (q0 : Nat) (q1 : Nat) (q2 : Nat) (q3 : Nat) (q4 : Nat) (q5 : Nat) (q6 : Nat) (svc : Int32) (tl : Int32) (cde : Int32) (mm : Int32) (mr : Int32) (ati : Int32) (ors : Int32) (zs : Nat → Int32) (zv : Nat → Int32) (zt : Nat → Int32) (zp : Nat → Int32) (zm : Nat → Int32) (zk : Nat → Int32) (hsv : svc = nI svc.toNatClampNeg) (hs4 : svc.toNatClampNeg ≤ 4) : Met l yX9_keep wqX9_keep ({ frames := 0, cells := 0, slots := 0, locals := 0 } : Room) (va_Pc [.ref q0] (pC (dC, dI) [(q0, .inr (9, [.ref q1, .ref q2, .int svc, .ref q3, .int tl, .int cde, .int mm, .int mr, .ref q4, .int ati, .int ors, .ref q5, .ref q6])), (q1, .inl (cyI, 246, .inl zs)), (q2, .inl (cyI, 984, .inl zv)), (q3, .inl (cyI, 80, .inl zt)), (q4, .inl (cyI, 5, .inl zp)), (q5, .inl (cyI, 40, .inl zm)), (q6, .inl (cyI, 40, .inl zk))] [(cyI, .int)] eM sz)) (va_Qv (fun u : Int32 × (Nat → Int32) => u = (m_keep svc zs zv)) (fun (u : Int32 × (Nat → Int32)) t => va_P (dC, dI) vwCl [(q0, .inr (9, [.ref q1, .ref q2, .int (u.1), .ref q3, .int tl, .int cde, .int mm, .int mr, .ref q4, .int ati, .int ors, .ref q5, .ref q6])), (q1, .inl (cyI, 246, .inl zs)), (q2, .inl (cyI, 984, .inl (u.2))), (q3, .inl (cyI, 80, .inl zt)), (q4, .inl (cyI, 5, .inl zp)), (q5, .inl (cyI, 40, .inl zm)), (q6, .inl (cyI, 40, .inl zk))] t.heap ∧ va_D (va_A [(q0, .inr (9, [.ref q1, .ref q2, .int svc, .ref q3, .int tl, .int cde, .int mm, .int mr, .ref q4, .int ati, .int ors, .ref q5, .ref q6])), (q1, .inl (cyI, 246, .inl zs)), (q2, .inl (cyI, 984, .inl zv)), (q3, .inl (cyI, 80, .inl zt)), (q4, .inl (cyI, 5, .inl zp)), (q5, .inl (cyI, 40, .inl zm)), (q6, .inl (cyI, 40, .inl zk))] sz) [(q0, .inr (9, [.ref q1, .ref q2, .int (u.1), .ref q3, .int tl, .int cde, .int mm, .int mr, .ref q4, .int ati, .int ors, .ref q5, .ref q6])), (q1, .inl (cyI, 246, .inl zs)), (q2, .inl (cyI, 984, .inl (u.2))), (q3, .inl (cyI, 80, .inl zt)), (q4, .inl (cyI, 5, .inl zp)), (q5, .inl (cyI, 40, .inl zm)), (q6, .inl (cyI, 40, .inl zk))]) (va_A [(q0, .inr (9, [.ref q1, .ref q2, .int svc, .ref q3, .int tl, .int cde, .int mm, .int mr, .ref q4, .int ati, .int ors, .ref q5, .ref q6])), (q1, .inl (cyI, 246, .inl zs)), (q2, .inl (cyI, 984, .inl zv)), (q3, .inl (cyI, 80, .inl zt)), (q4, .inl (cyI, 5, .inl zp)), (q5, .inl (cyI, 40, .inl zm)), (q6, .inl (cyI, 40, .inl zk))] sz)) 0 0 (va_A [(q0, .inr (9, [.ref q1, .ref q2, .int svc, .ref q3, .int tl, .int cde, .int mm, .int mr, .ref q4, .int ati, .int ors, .ref q5, .ref q6])), (q1, .inl (cyI, 246, .inl zs)), (q2, .inl (cyI, 984, .inl zv)), (q3, .inl (cyI, 80, .inl zt)), (q4, .inl (cyI, 5, .inl zp)), (q5, .inl (cyI, 40, .inl zm)), (q6, .inl (cyI, 40, .inl zk))] sz) := by
  refine Met.ofW (cc := cX9_keep) (maxL := 2) (ret := none) (by decide) rfl ?_
  intro p e s m args below meth c s₁ B hml hv
  obtain ⟨rfl, hsz, hP, hK, hD0, he⟩ := hv
  have hx := B.exec
  have hb := B.bytes
  have hr := B.returns
  have hts := atoms_spec (ws := wqX9_keep) B.pre
  have hown : s.vm.findClass RX9 = some m.cls := findClass_of_methodNamed B.named
  have hlocks := B.notSynchronized
  have w_0 := hts (Cond.fieldLink RX9 32 "CraneLimiterModel" "savedCount" "I") (List.mem_cons_of_mem _ b_197)
  have w_1 := hts (Cond.fieldLink RX9 13 "CraneLimiterModel" "saved" "[I") (List.mem_cons_of_mem _ b_94)
  have w_2 := hts (Cond.fieldLink RX9 7 "CraneLimiterModel" "s" "[I") (List.mem_cons_of_mem _ b_93)
  have i_X9 : ∀ w ∈ u_ws RX9 TX9 13, w ∈ wqX9_keep := fun w h => List.mem_cons_of_mem _ (bX9 w h)
  subst hsz
  have hD := hD0.self (sz := s.heap.size)
  generalize hAe : va_A [(q0, .inr (9, [.ref q1, .ref q2, .int svc, .ref q3, .int tl, .int cde, .int mm, .int mr, .ref q4, .int ati, .int ors, .ref q5, .ref q6])), (q1, .inl (cyI, 246, .inl zs)), (q2, .inl (cyI, 984, .inl zv)), (q3, .inl (cyI, 80, .inl zt)), (q4, .inl (cyI, 5, .inl zp)), (q5, .inl (cyI, 40, .inl zm)), (q6, .inl (cyI, 40, .inl zk))] s.heap.size = A at hD he ⊢
  have hA : ∀ q : Nat, s.heap.size ≤ q → A q := fun q h => by rw [← hAe]; exact Or.inr h
  have hS : va_S A s.heap s.heap [] := va_S.rf
  have hP : va_P (dC, dI) vwCl [(q0, .inr (9, [.ref q1, .ref q2, .int svc, .ref q3, .int tl, .int cde, .int mm, .int mr, .ref q4, .int ati, .int ors, .ref q5, .ref q6])), (q1, .inl (cyI, 246, .inl zs)), (q2, .inl (cyI, 984, .inl zv)), (q3, .inl (cyI, 80, .inl zt)), (q4, .inl (cyI, 5, .inl zp)), (q5, .inl (cyI, 40, .inl zm)), (q6, .inl (cyI, 40, .inl zk))] s.heap := hP
  have hl := lv_entry ([.ref q0] : List Value) (n := 2) (Nat.le_of_ble_eq_true rfl)
  rw [lg_entry_eq]
  generalize (lg_sl ([.ref q0] : List Value) ++ List.replicate (2 - (lg_sl ([.ref q0] : List Value)).length) Slot.unset).toArray = ls at hl ⊢
  have hl : lv_has ls 2 [(0, .ref q0)] := hl
  have hE : m_keep svc zs zv = m_keep svc zs zv := rfl
  refine lv_aload_n hx hb dX9_keep_0 rfl (lv_at hl 0 rfl) ?_
  refine va_get (D := (dC, dI)) (ci := 9) (v := .int svc) (C := RX9) (T := TX9) (N := 13) hx hb hts i_X9 hown hK hP 0 rfl rfl 2 (by decide) w_0 (fun _ h9 => h9) rfl dX9_keep_1 ?_
  refine lv_iconst (v := 4) hx hb dX9_keep_4 (by decide) ?_
  have J49 : ∀ (w0_2_49 : Int32) (w2_a_49 : Nat → Int32) (hi : w0_2_49 = nI (w0_2_49).toNatClampNeg ∧ (w0_2_49).toNatClampNeg < 4) (H : Heap) (locs : List Loc) (hP : va_P (dC, dI) vwCl [(q0, .inr (9, [.ref q1, .ref q2, .int w0_2_49, .ref q3, .int tl, .int cde, .int mm, .int mr, .ref q4, .int ati, .int ors, .ref q5, .ref q6])), (q1, .inl (cyI, 246, .inl zs)), (q2, .inl (cyI, 984, .inl w2_a_49)), (q3, .inl (cyI, 80, .inl zt)), (q4, .inl (cyI, 5, .inl zp)), (q5, .inl (cyI, 40, .inl zm)), (q6, .inl (cyI, 40, .inl zk))] H) (hD : va_D A [(q0, .inr (9, [.ref q1, .ref q2, .int w0_2_49, .ref q3, .int tl, .int cde, .int mm, .int mr, .ref q4, .int ati, .int ors, .ref q5, .ref q6])), (q1, .inl (cyI, 246, .inl zs)), (q2, .inl (cyI, 984, .inl w2_a_49)), (q3, .inl (cyI, 80, .inl zt)), (q4, .inl (cyI, 5, .inl zp)), (q5, .inl (cyI, 40, .inl zm)), (q6, .inl (cyI, 40, .inl zk))]) (hS : va_S A s.heap H locs) (ls : Array Slot) (hl : lv_has ls 2 [(0, .ref q0)]) (hE : (m_keep svc zs zv) = m_keep_j49 zs w0_2_49 w2_a_49), W p l e (headSpec wqX9_keep ({ frames := 0, cells := 0, slots := 0, locals := 0 } : Room)).room s m ([.ref q0] : List Value).toArray below meth c H locs 0 0 (MQ below (va_Qv (fun u : Int32 × (Nat → Int32) => u = (m_keep svc zs zv)) (fun (u : Int32 × (Nat → Int32)) t => va_P (dC, dI) vwCl [(q0, .inr (9, [.ref q1, .ref q2, .int (u.1), .ref q3, .int tl, .int cde, .int mm, .int mr, .ref q4, .int ati, .int ors, .ref q5, .ref q6])), (q1, .inl (cyI, 246, .inl zs)), (q2, .inl (cyI, 984, .inl (u.2))), (q3, .inl (cyI, 80, .inl zt)), (q4, .inl (cyI, 5, .inl zp)), (q5, .inl (cyI, 40, .inl zm)), (q6, .inl (cyI, 40, .inl zk))] t.heap ∧ va_D A [(q0, .inr (9, [.ref q1, .ref q2, .int (u.1), .ref q3, .int tl, .int cde, .int mm, .int mr, .ref q4, .int ati, .int ors, .ref q5, .ref q6])), (q1, .inl (cyI, 246, .inl zs)), (q2, .inl (cyI, 984, .inl (u.2))), (q3, .inl (cyI, 80, .inl zt)), (q4, .inl (cyI, 5, .inl zp)), (q5, .inl (cyI, 40, .inl zm)), (q6, .inl (cyI, 40, .inl zk))]) A) ([.ref q0] : List Value).toArray s 0 0 A) (F0 m 49 ls []) := by
    intro w0_2_49 w2_a_49 hi H locs hP hD hS ls hl hE
    have hj := hi
    have hj2 := hi.2
    refine lv_iconst (v := 0) hx hb dX9_keep_49 (by decide) ?_
    refine lv_istore_n (lv' := [(1, .int (0 : Int32)), (0, .ref q0)]) hx hb dX9_keep_50 rfl hl (by decide) rfl (fun ls hl => ?_)
    have L51 : ∀ (n51 : Nat) (k1_51 : Nat) (w2_a_51 : Nat → Int32) (hi : k1_51 ≤ 246 ∧ 246 < k1_51 + n51) (H : Heap) (locs : List Loc) (hP : va_P (dC, dI) vwCl [(q0, .inr (9, [.ref q1, .ref q2, .int w0_2_49, .ref q3, .int tl, .int cde, .int mm, .int mr, .ref q4, .int ati, .int ors, .ref q5, .ref q6])), (q1, .inl (cyI, 246, .inl zs)), (q2, .inl (cyI, 984, .inl w2_a_51)), (q3, .inl (cyI, 80, .inl zt)), (q4, .inl (cyI, 5, .inl zp)), (q5, .inl (cyI, 40, .inl zm)), (q6, .inl (cyI, 40, .inl zk))] H) (hD : va_D A [(q0, .inr (9, [.ref q1, .ref q2, .int w0_2_49, .ref q3, .int tl, .int cde, .int mm, .int mr, .ref q4, .int ati, .int ors, .ref q5, .ref q6])), (q1, .inl (cyI, 246, .inl zs)), (q2, .inl (cyI, 984, .inl w2_a_51)), (q3, .inl (cyI, 80, .inl zt)), (q4, .inl (cyI, 5, .inl zp)), (q5, .inl (cyI, 40, .inl zm)), (q6, .inl (cyI, 40, .inl zk))]) (hS : va_S A s.heap H locs) (ls : Array Slot) (hl : lv_has ls 2 [(0, .ref q0), (1, .int (nI k1_51))]) (hE : (m_keep svc zs zv) = spIter (fun _ _ => default) (m_keep_b51 zs w0_2_49) n51 k1_51 w2_a_51), W p l e (headSpec wqX9_keep ({ frames := 0, cells := 0, slots := 0, locals := 0 } : Room)).room s m ([.ref q0] : List Value).toArray below meth c H locs 0 0 (MQ below (va_Qv (fun u : Int32 × (Nat → Int32) => u = (m_keep svc zs zv)) (fun (u : Int32 × (Nat → Int32)) t => va_P (dC, dI) vwCl [(q0, .inr (9, [.ref q1, .ref q2, .int (u.1), .ref q3, .int tl, .int cde, .int mm, .int mr, .ref q4, .int ati, .int ors, .ref q5, .ref q6])), (q1, .inl (cyI, 246, .inl zs)), (q2, .inl (cyI, 984, .inl (u.2))), (q3, .inl (cyI, 80, .inl zt)), (q4, .inl (cyI, 5, .inl zp)), (q5, .inl (cyI, 40, .inl zm)), (q6, .inl (cyI, 40, .inl zk))] t.heap ∧ va_D A [(q0, .inr (9, [.ref q1, .ref q2, .int (u.1), .ref q3, .int tl, .int cde, .int mm, .int mr, .ref q4, .int ati, .int ors, .ref q5, .ref q6])), (q1, .inl (cyI, 246, .inl zs)), (q2, .inl (cyI, 984, .inl (u.2))), (q3, .inl (cyI, 80, .inl zt)), (q4, .inl (cyI, 5, .inl zp)), (q5, .inl (cyI, 40, .inl zm)), (q6, .inl (cyI, 40, .inl zk))]) A) ([.ref q0] : List Value).toArray s 0 0 A) (F0 m 51 ls []) := by
      intro n51
      induction n51 with
      | zero =>
        intro k1_51 w2_a_51 hi H locs hP hD hS ls hl hE
        exact absurd hi (by omega)
      | succ n51 ih51 =>
        intro k1_51 w2_a_51 hi H locs hP hD hS ls hl hE
        have hE : (m_keep svc zs zv) = m_keep_b51 zs w0_2_49 (spIter (fun _ _ => default) (m_keep_b51 zs w0_2_49) n51) k1_51 w2_a_51 := hE
        refine lv_iload_n hx hb dX9_keep_51 rfl (lv_at hl 1 rfl) ?_
        refine lv_sipush (v := 246) hx hb dX9_keep_52 (by decide) ?_
        refine lv_icmp_ge (tgt := 85) hx hb dX9_keep_55 (by decide) (fun c_2 => ?_) (fun c_2 => ?_)
        ·
          have c_2 : 246 ≤ k1_51 := by
            have h1 : ((nI k1_51)) = nI k1_51 := rfl
            have h2 : ((246 : Int32)) = nI 246 := rfl
            have h3 : (nI 246 ≤ nI k1_51) := by first | exact c_2 | (rw [← h1, ← h2]; exact c_2)
            exact (nI_leI (by omega) (by omega)).mp h3
          have hE := hE.trans (if_pos c_2)
          refine lv_aload_n hx hb dX9_keep_85 rfl (lv_at hl 0 rfl) ?_
          refine lv_dup hx hb dX9_keep_86 rfl ?_
          refine va_get (D := (dC, dI)) (ci := 9) (v := .int w0_2_49) (C := RX9) (T := TX9) (N := 13) hx hb hts i_X9 hown hK hP 0 rfl rfl 2 (by decide) w_0 (fun _ h9 => h9) rfl dX9_keep_87 ?_
          refine lv_iconst (v := 1) hx hb dX9_keep_90 (by decide) ?_
          refine lv_iadd hx hb dX9_keep_91 ?_
          refine lv_topi (fun y_3 ey_3 => ?_)
          obtain rfl : y_3 = nI ((w0_2_49).toNatClampNeg + 1) := ey_3.trans (nadd hj.1 (rfl : (1 : Int32) = nI 1))
          refine va_put (D := (dC, dI)) (ci := 9) (v := .int (nI ((w0_2_49).toNatClampNeg + 1))) (ty := .int) (C := RX9) (T := TX9) (N := 13) hx hb hts i_X9 tyX9 tyX9_ok nmX9 hown hK hP hD hS 0 rfl rfl 2 (by decide) w_0 (fun _ h9 => h9) rfl (by decide +kernel) (rfl) (rfl) (Nat.le_of_ble_eq_true rfl) dX9_keep_92 (fun H locs hP hD hS => ?_)
          have hP : va_P (dC, dI) vwCl [(q0, .inr (9, [.ref q1, .ref q2, .int (nI ((w0_2_49).toNatClampNeg + 1)), .ref q3, .int tl, .int cde, .int mm, .int mr, .ref q4, .int ati, .int ors, .ref q5, .ref q6])), (q1, .inl (cyI, 246, .inl zs)), (q2, .inl (cyI, 984, .inl w2_a_51)), (q3, .inl (cyI, 80, .inl zt)), (q4, .inl (cyI, 5, .inl zp)), (q5, .inl (cyI, 40, .inl zm)), (q6, .inl (cyI, 40, .inl zk))] H := hP
          have hD : va_D A [(q0, .inr (9, [.ref q1, .ref q2, .int (nI ((w0_2_49).toNatClampNeg + 1)), .ref q3, .int tl, .int cde, .int mm, .int mr, .ref q4, .int ati, .int ors, .ref q5, .ref q6])), (q1, .inl (cyI, 246, .inl zs)), (q2, .inl (cyI, 984, .inl w2_a_51)), (q3, .inl (cyI, 80, .inl zt)), (q4, .inl (cyI, 5, .inl zp)), (q5, .inl (cyI, 40, .inl zm)), (q6, .inl (cyI, 40, .inl zk))] := hD
          exact W.vret hx hb hr (fun t h9 hW => ⟨⟨(((nI ((w0_2_49).toNatClampNeg + 1)), w2_a_51) : Int32 × (Nat → Int32)), rfl, hE.symm, by rw [h9]; exact hP, hD⟩, hS.F h9⟩) hS.2.2 dX9_keep_95
        ·
          have c_2 : ¬ 246 ≤ k1_51 := by
            have h1 : ((nI k1_51)) = nI k1_51 := rfl
            have h2 : ((246 : Int32)) = nI 246 := rfl
            have h3 : ¬ (nI 246 ≤ nI k1_51) := by first | exact c_2 | (rw [← h1, ← h2]; exact c_2)
            exact fun h => h3 ((nI_leI (by omega) (by omega)).mpr h)
          have hE := hE.trans (if_neg c_2)
          refine lv_aload_n hx hb dX9_keep_58 rfl (lv_at hl 0 rfl) ?_
          refine va_get (D := (dC, dI)) (ci := 9) (v := .ref q2) (C := RX9) (T := TX9) (N := 13) hx hb hts i_X9 hown hK hP 0 rfl rfl 1 (by decide) w_1 (fun _ h9 => h9) rfl dX9_keep_59 ?_
          refine lv_sipush (v := 246) hx hb dX9_keep_62 (by decide) ?_
          refine lv_aload_n hx hb dX9_keep_65 rfl (lv_at hl 0 rfl) ?_
          refine va_get (D := (dC, dI)) (ci := 9) (v := .int w0_2_49) (C := RX9) (T := TX9) (N := 13) hx hb hts i_X9 hown hK hP 0 rfl rfl 2 (by decide) w_0 (fun _ h9 => h9) rfl dX9_keep_66 ?_
          refine lv_imul hx hb dX9_keep_69 ?_
          refine lv_topi (fun y_4 ey_4 => ?_)
          obtain rfl : y_4 = nI (246 * (w0_2_49).toNatClampNeg) := ey_4.trans (nmul (rfl : (246 : Int32) = nI 246) hj.1)
          refine lv_iload_n hx hb dX9_keep_70 rfl (lv_at hl 1 rfl) ?_
          refine lv_iadd hx hb dX9_keep_71 ?_
          refine lv_topi (fun y_5 ey_5 => ?_)
          obtain rfl : y_5 = nI ((246 * (w0_2_49).toNatClampNeg) + k1_51) := ey_5.trans (nadd (rfl : (nI (246 * (w0_2_49).toNatClampNeg)) = nI (246 * (w0_2_49).toNatClampNeg)) (rfl : (nI k1_51) = nI k1_51))
          refine lv_aload_n hx hb dX9_keep_72 rfl (lv_at hl 0 rfl) ?_
          refine va_get (D := (dC, dI)) (ci := 9) (v := .ref q1) (C := RX9) (T := TX9) (N := 13) hx hb hts i_X9 hown hK hP 0 rfl rfl 0 (by decide) w_2 (fun _ h9 => h9) rfl dX9_keep_73 ?_
          refine lv_iload_n hx hb dX9_keep_76 rfl (lv_at hl 1 rfl) ?_
          refine ra_ld hx hb hK hP 1 0 rfl rfl (j := k1_51) (rfl : (nI k1_51) = nI k1_51) (by omega) (by omega) dX9_keep_77 ?_
          refine lv_topi (fun x_6 ex_6 => ?_)
          have hE := hE.trans (spLet_eq ex_6)
          refine ra_st hx hb hK hP hD hS 2 0 rfl rfl (j := ((246 * (w0_2_49).toNatClampNeg) + k1_51)) (rfl : (nI ((246 * (w0_2_49).toNatClampNeg) + k1_51)) = nI ((246 * (w0_2_49).toNatClampNeg) + k1_51)) (by omega) (by omega) dX9_keep_78 (fun H locs hP hD hS => ?_)
          have hP : va_P (dC, dI) vwCl [(q0, .inr (9, [.ref q1, .ref q2, .int w0_2_49, .ref q3, .int tl, .int cde, .int mm, .int mr, .ref q4, .int ati, .int ors, .ref q5, .ref q6])), (q1, .inl (cyI, 246, .inl zs)), (q2, .inl (cyI, 984, .inl (upd w2_a_51 ((246 * (w0_2_49).toNatClampNeg) + k1_51) x_6))), (q3, .inl (cyI, 80, .inl zt)), (q4, .inl (cyI, 5, .inl zp)), (q5, .inl (cyI, 40, .inl zm)), (q6, .inl (cyI, 40, .inl zk))] H := hP
          have hD : va_D A [(q0, .inr (9, [.ref q1, .ref q2, .int w0_2_49, .ref q3, .int tl, .int cde, .int mm, .int mr, .ref q4, .int ati, .int ors, .ref q5, .ref q6])), (q1, .inl (cyI, 246, .inl zs)), (q2, .inl (cyI, 984, .inl (upd w2_a_51 ((246 * (w0_2_49).toNatClampNeg) + k1_51) x_6))), (q3, .inl (cyI, 80, .inl zt)), (q4, .inl (cyI, 5, .inl zp)), (q5, .inl (cyI, 40, .inl zm)), (q6, .inl (cyI, 40, .inl zk))] := hD
          obtain ⟨f_7, ef_7⟩ : ∃ y : Nat → Int32, y = upd w2_a_51 ((246 * (w0_2_49).toNatClampNeg) + k1_51) x_6 := ⟨_, rfl⟩
          rw [← ef_7] at hP hD
          have hE := hE.trans (spLet_eq ef_7)
          refine lv_iinc (v := (nI (k1_51 + 1))) (lv' := [(1, .int (nI (k1_51 + 1))), (0, .ref q0)]) hx hb dX9_keep_79 hl (k := 1) rfl (show _ from (congrArg (fun z => z + Int32.ofInt 1) (rfl)).trans (ninc _ 1)) (by decide) rfl (fun ls hl => ?_)
          refine lv_goto (tgt := 51) hx hb dX9_keep_82 (by decide) ?_
          exact ih51 (k1_51 + 1) f_7 (by omega) _ _ hP hD hS ls (lv_sub hl [1, 0] rfl) hE
    exact L51 247 0 w2_a_49 (by omega) _ _ hP hD hS ls (lv_sub hl [1, 0] rfl) hE
  refine lv_icmp_ne (tgt := 49) hx hb dX9_keep_5 (by decide) (fun c_1 => ?_) (fun c_1 => ?_)
  ·
    have c_1 : ¬ svc.toNatClampNeg = 4 := by
      have h1 : (svc) = nI svc.toNatClampNeg := hsv
      have h2 : ((4 : Int32)) = nI 4 := rfl
      have h3 : ¬ (nI svc.toNatClampNeg = nI 4) := by first | exact c_1 | (rw [← h1, ← h2]; exact c_1)
      exact fun h => h3 ((nI_eq (by omega) (by omega)).mpr h)
    have hE := hE.trans (if_neg c_1)
    exact J49 svc zv ⟨hsv, by omega⟩ _ _ hP hD hS ls (lv_sub hl [0] rfl) hE
  ·
    have c_1 : svc.toNatClampNeg = 4 := by
      have h1 : (svc) = nI svc.toNatClampNeg := hsv
      have h2 : ((4 : Int32)) = nI 4 := rfl
      have h3 : (nI svc.toNatClampNeg = nI 4) := by first | exact c_1 | (rw [← h1, ← h2]; exact c_1)
      exact (nI_eq (by omega) (by omega)).mp h3
    have hE := hE.trans (if_pos c_1)
    refine lv_iconst (v := 0) hx hb dX9_keep_8 (by decide) ?_
    refine lv_istore_n (lv' := [(1, .int (0 : Int32)), (0, .ref q0)]) hx hb dX9_keep_9 rfl hl (by decide) rfl (fun ls hl => ?_)
    have L10 : ∀ (n10 : Nat) (k1_10 : Nat) (w2_a_10 : Nat → Int32) (hi : k1_10 ≤ 738 ∧ 738 < k1_10 + n10) (H : Heap) (locs : List Loc) (hP : va_P (dC, dI) vwCl [(q0, .inr (9, [.ref q1, .ref q2, .int svc, .ref q3, .int tl, .int cde, .int mm, .int mr, .ref q4, .int ati, .int ors, .ref q5, .ref q6])), (q1, .inl (cyI, 246, .inl zs)), (q2, .inl (cyI, 984, .inl w2_a_10)), (q3, .inl (cyI, 80, .inl zt)), (q4, .inl (cyI, 5, .inl zp)), (q5, .inl (cyI, 40, .inl zm)), (q6, .inl (cyI, 40, .inl zk))] H) (hD : va_D A [(q0, .inr (9, [.ref q1, .ref q2, .int svc, .ref q3, .int tl, .int cde, .int mm, .int mr, .ref q4, .int ati, .int ors, .ref q5, .ref q6])), (q1, .inl (cyI, 246, .inl zs)), (q2, .inl (cyI, 984, .inl w2_a_10)), (q3, .inl (cyI, 80, .inl zt)), (q4, .inl (cyI, 5, .inl zp)), (q5, .inl (cyI, 40, .inl zm)), (q6, .inl (cyI, 40, .inl zk))]) (hS : va_S A s.heap H locs) (ls : Array Slot) (hl : lv_has ls 2 [(0, .ref q0), (1, .int (nI k1_10))]) (hE : (m_keep svc zs zv) = spIter (fun _ _ => default) (m_keep_b10 svc zs) n10 k1_10 w2_a_10), W p l e (headSpec wqX9_keep ({ frames := 0, cells := 0, slots := 0, locals := 0 } : Room)).room s m ([.ref q0] : List Value).toArray below meth c H locs 0 0 (MQ below (va_Qv (fun u : Int32 × (Nat → Int32) => u = (m_keep svc zs zv)) (fun (u : Int32 × (Nat → Int32)) t => va_P (dC, dI) vwCl [(q0, .inr (9, [.ref q1, .ref q2, .int (u.1), .ref q3, .int tl, .int cde, .int mm, .int mr, .ref q4, .int ati, .int ors, .ref q5, .ref q6])), (q1, .inl (cyI, 246, .inl zs)), (q2, .inl (cyI, 984, .inl (u.2))), (q3, .inl (cyI, 80, .inl zt)), (q4, .inl (cyI, 5, .inl zp)), (q5, .inl (cyI, 40, .inl zm)), (q6, .inl (cyI, 40, .inl zk))] t.heap ∧ va_D A [(q0, .inr (9, [.ref q1, .ref q2, .int (u.1), .ref q3, .int tl, .int cde, .int mm, .int mr, .ref q4, .int ati, .int ors, .ref q5, .ref q6])), (q1, .inl (cyI, 246, .inl zs)), (q2, .inl (cyI, 984, .inl (u.2))), (q3, .inl (cyI, 80, .inl zt)), (q4, .inl (cyI, 5, .inl zp)), (q5, .inl (cyI, 40, .inl zm)), (q6, .inl (cyI, 40, .inl zk))]) A) ([.ref q0] : List Value).toArray s 0 0 A) (F0 m 10 ls []) := by
      intro n10
      induction n10 with
      | zero =>
        intro k1_10 w2_a_10 hi H locs hP hD hS ls hl hE
        exact absurd hi (by omega)
      | succ n10 ih10 =>
        intro k1_10 w2_a_10 hi H locs hP hD hS ls hl hE
        have hE : (m_keep svc zs zv) = m_keep_b10 svc zs (spIter (fun _ _ => default) (m_keep_b10 svc zs) n10) k1_10 w2_a_10 := hE
        refine lv_iload_n hx hb dX9_keep_10 rfl (lv_at hl 1 rfl) ?_
        refine lv_sipush (v := 738) hx hb dX9_keep_11 (by decide) ?_
        refine lv_icmp_ge (tgt := 39) hx hb dX9_keep_14 (by decide) (fun c_8 => ?_) (fun c_8 => ?_)
        ·
          have c_8 : 738 ≤ k1_10 := by
            have h1 : ((nI k1_10)) = nI k1_10 := rfl
            have h2 : ((738 : Int32)) = nI 738 := rfl
            have h3 : (nI 738 ≤ nI k1_10) := by first | exact c_8 | (rw [← h1, ← h2]; exact c_8)
            exact (nI_leI (by omega) (by omega)).mp h3
          have hE := hE.trans (if_pos c_8)
          refine lv_aload_n hx hb dX9_keep_39 rfl (lv_at hl 0 rfl) ?_
          refine lv_dup hx hb dX9_keep_40 rfl ?_
          refine va_get (D := (dC, dI)) (ci := 9) (v := .int svc) (C := RX9) (T := TX9) (N := 13) hx hb hts i_X9 hown hK hP 0 rfl rfl 2 (by decide) w_0 (fun _ h9 => h9) rfl dX9_keep_41 ?_
          refine lv_iconst (v := 1) hx hb dX9_keep_44 (by decide) ?_
          refine lv_isub hx hb dX9_keep_45 ?_
          refine lv_topi (fun x_9 ex_9 => ?_)
          have hE := hE.trans (spLet_eq ex_9)
          refine va_put (D := (dC, dI)) (ci := 9) (v := .int x_9) (ty := .int) (C := RX9) (T := TX9) (N := 13) hx hb hts i_X9 tyX9 tyX9_ok nmX9 hown hK hP hD hS 0 rfl rfl 2 (by decide) w_0 (fun _ h9 => h9) rfl (by decide +kernel) (rfl) (rfl) (Nat.le_of_ble_eq_true rfl) dX9_keep_46 (fun H locs hP hD hS => ?_)
          have hP : va_P (dC, dI) vwCl [(q0, .inr (9, [.ref q1, .ref q2, .int x_9, .ref q3, .int tl, .int cde, .int mm, .int mr, .ref q4, .int ati, .int ors, .ref q5, .ref q6])), (q1, .inl (cyI, 246, .inl zs)), (q2, .inl (cyI, 984, .inl w2_a_10)), (q3, .inl (cyI, 80, .inl zt)), (q4, .inl (cyI, 5, .inl zp)), (q5, .inl (cyI, 40, .inl zm)), (q6, .inl (cyI, 40, .inl zk))] H := hP
          have hD : va_D A [(q0, .inr (9, [.ref q1, .ref q2, .int x_9, .ref q3, .int tl, .int cde, .int mm, .int mr, .ref q4, .int ati, .int ors, .ref q5, .ref q6])), (q1, .inl (cyI, 246, .inl zs)), (q2, .inl (cyI, 984, .inl w2_a_10)), (q3, .inl (cyI, 80, .inl zt)), (q4, .inl (cyI, 5, .inl zp)), (q5, .inl (cyI, 40, .inl zm)), (q6, .inl (cyI, 40, .inl zk))] := hD
          exact J49 x_9 w2_a_10 (keep_j ex_9 hsv (by assumption)) _ _ hP hD hS ls (lv_sub hl [0] rfl) hE
        ·
          have c_8 : ¬ 738 ≤ k1_10 := by
            have h1 : ((nI k1_10)) = nI k1_10 := rfl
            have h2 : ((738 : Int32)) = nI 738 := rfl
            have h3 : ¬ (nI 738 ≤ nI k1_10) := by first | exact c_8 | (rw [← h1, ← h2]; exact c_8)
            exact fun h => h3 ((nI_leI (by omega) (by omega)).mpr h)
          have hE := hE.trans (if_neg c_8)
          refine lv_aload_n hx hb dX9_keep_17 rfl (lv_at hl 0 rfl) ?_
          refine va_get (D := (dC, dI)) (ci := 9) (v := .ref q2) (C := RX9) (T := TX9) (N := 13) hx hb hts i_X9 hown hK hP 0 rfl rfl 1 (by decide) w_1 (fun _ h9 => h9) rfl dX9_keep_18 ?_
          refine lv_iload_n hx hb dX9_keep_21 rfl (lv_at hl 1 rfl) ?_
          refine lv_aload_n hx hb dX9_keep_22 rfl (lv_at hl 0 rfl) ?_
          refine va_get (D := (dC, dI)) (ci := 9) (v := .ref q2) (C := RX9) (T := TX9) (N := 13) hx hb hts i_X9 hown hK hP 0 rfl rfl 1 (by decide) w_1 (fun _ h9 => h9) rfl dX9_keep_23 ?_
          refine lv_iload_n hx hb dX9_keep_26 rfl (lv_at hl 1 rfl) ?_
          refine lv_sipush (v := 246) hx hb dX9_keep_27 (by decide) ?_
          refine lv_iadd hx hb dX9_keep_30 ?_
          refine ra_ld hx hb hK hP 2 0 rfl rfl (j := (k1_10 + 246)) (nadd (rfl : (nI k1_10) = nI k1_10) (rfl : (246 : Int32) = nI 246)) (by omega) (by omega) dX9_keep_31 ?_
          refine lv_topi (fun x_10 ex_10 => ?_)
          have hE := hE.trans (spLet_eq ex_10)
          refine ra_st hx hb hK hP hD hS 2 0 rfl rfl (j := k1_10) (rfl : (nI k1_10) = nI k1_10) (by omega) (by omega) dX9_keep_32 (fun H locs hP hD hS => ?_)
          have hP : va_P (dC, dI) vwCl [(q0, .inr (9, [.ref q1, .ref q2, .int svc, .ref q3, .int tl, .int cde, .int mm, .int mr, .ref q4, .int ati, .int ors, .ref q5, .ref q6])), (q1, .inl (cyI, 246, .inl zs)), (q2, .inl (cyI, 984, .inl (upd w2_a_10 (k1_10) x_10))), (q3, .inl (cyI, 80, .inl zt)), (q4, .inl (cyI, 5, .inl zp)), (q5, .inl (cyI, 40, .inl zm)), (q6, .inl (cyI, 40, .inl zk))] H := hP
          have hD : va_D A [(q0, .inr (9, [.ref q1, .ref q2, .int svc, .ref q3, .int tl, .int cde, .int mm, .int mr, .ref q4, .int ati, .int ors, .ref q5, .ref q6])), (q1, .inl (cyI, 246, .inl zs)), (q2, .inl (cyI, 984, .inl (upd w2_a_10 (k1_10) x_10))), (q3, .inl (cyI, 80, .inl zt)), (q4, .inl (cyI, 5, .inl zp)), (q5, .inl (cyI, 40, .inl zm)), (q6, .inl (cyI, 40, .inl zk))] := hD
          obtain ⟨f_11, ef_11⟩ : ∃ y : Nat → Int32, y = upd w2_a_10 (k1_10) x_10 := ⟨_, rfl⟩
          rw [← ef_11] at hP hD
          have hE := hE.trans (spLet_eq ef_11)
          refine lv_iinc (v := (nI (k1_10 + 1))) (lv' := [(1, .int (nI (k1_10 + 1))), (0, .ref q0)]) hx hb dX9_keep_33 hl (k := 1) rfl (show _ from (congrArg (fun z => z + Int32.ofInt 1) (rfl)).trans (ninc _ 1)) (by decide) rfl (fun ls hl => ?_)
          refine lv_goto (tgt := 10) hx hb dX9_keep_36 (by decide) ?_
          exact ih10 (k1_10 + 1) f_11 (by omega) _ _ hP hD hS ls (lv_sub hl [1, 0] rfl) hE
    exact L10 739 0 zv (by omega) _ _ hP hD hS ls (lv_sub hl [1, 0] rfl) hE
def m_change (svc : Int32) (zs : Nat → Int32) (zv : Nat → Int32) (ce : Nat) (vl : Int32) : Int32 × Int32 × (Nat → Int32) × (Nat → Int32) :=
  spLet (m_keep svc zs zv) (fun u_1 => spLet ((zs (ce))) (fun x_2 => spLet (upd zs (ce) vl) (fun f_3 => (x_2, (u_1.1), f_3, (u_1.2)))))
set_option maxHeartbeats 1000000 in
set_option maxRecDepth 100000 in
theorem c_X9_change (l : Launch) (dC : Nat → ClassId) (dI : Nat → Nat → Nat) (cyI : ClassId) (sz : Nat) (q0 : Nat) (q1 : Nat) (q2 : Nat) (q3 : Nat) (q4 : Nat) (q5 : Nat) (q6 : Nat) (svc : Int32) (tl : Int32) (cde : Int32) (mm : Int32) (mr : Int32) (ati : Int32) (ors : Int32) (zs : Nat → Int32) (zv : Nat → Int32) (zt : Nat → Int32) (zp : Nat → Int32) (zm : Nat → Int32) (zk : Nat → Int32) (ce : Nat) (vl : Int32) (hsv : svc = nI svc.toNatClampNeg) (hs4 : svc.toNatClampNeg ≤ 4) (hce : ce < 246) : Met l yX9_change wqX9_change ({ frames := 1, cells := 0, slots := 0, locals := 21 } : Room) (va_Pc [.ref q0, .int (nI ce), .int vl] (pC (dC, dI) [(q0, .inr (9, [.ref q1, .ref q2, .int svc, .ref q3, .int tl, .int cde, .int mm, .int mr, .ref q4, .int ati, .int ors, .ref q5, .ref q6])), (q1, .inl (cyI, 246, .inl zs)), (q2, .inl (cyI, 984, .inl zv)), (q3, .inl (cyI, 80, .inl zt)), (q4, .inl (cyI, 5, .inl zp)), (q5, .inl (cyI, 40, .inl zm)), (q6, .inl (cyI, 40, .inl zk))] [(cyI, .int)] eM sz)) (va_Qi (fun (r : Int32) (u : Int32 × Int32 × (Nat → Int32) × (Nat → Int32)) => u = (m_change svc zs zv ce vl) ∧ r = u.1) (fun (u : Int32 × Int32 × (Nat → Int32) × (Nat → Int32)) t => va_P (dC, dI) vwCl [(q0, .inr (9, [.ref q1, .ref q2, .int (u.2.1), .ref q3, .int tl, .int cde, .int mm, .int mr, .ref q4, .int ati, .int ors, .ref q5, .ref q6])), (q1, .inl (cyI, 246, .inl (u.2.2.1))), (q2, .inl (cyI, 984, .inl (u.2.2.2))), (q3, .inl (cyI, 80, .inl zt)), (q4, .inl (cyI, 5, .inl zp)), (q5, .inl (cyI, 40, .inl zm)), (q6, .inl (cyI, 40, .inl zk))] t.heap ∧ va_D (va_A [(q0, .inr (9, [.ref q1, .ref q2, .int svc, .ref q3, .int tl, .int cde, .int mm, .int mr, .ref q4, .int ati, .int ors, .ref q5, .ref q6])), (q1, .inl (cyI, 246, .inl zs)), (q2, .inl (cyI, 984, .inl zv)), (q3, .inl (cyI, 80, .inl zt)), (q4, .inl (cyI, 5, .inl zp)), (q5, .inl (cyI, 40, .inl zm)), (q6, .inl (cyI, 40, .inl zk))] sz) [(q0, .inr (9, [.ref q1, .ref q2, .int (u.2.1), .ref q3, .int tl, .int cde, .int mm, .int mr, .ref q4, .int ati, .int ors, .ref q5, .ref q6])), (q1, .inl (cyI, 246, .inl (u.2.2.1))), (q2, .inl (cyI, 984, .inl (u.2.2.2))), (q3, .inl (cyI, 80, .inl zt)), (q4, .inl (cyI, 5, .inl zp)), (q5, .inl (cyI, 40, .inl zm)), (q6, .inl (cyI, 40, .inl zk))]) (va_A [(q0, .inr (9, [.ref q1, .ref q2, .int svc, .ref q3, .int tl, .int cde, .int mm, .int mr, .ref q4, .int ati, .int ors, .ref q5, .ref q6])), (q1, .inl (cyI, 246, .inl zs)), (q2, .inl (cyI, 984, .inl zv)), (q3, .inl (cyI, 80, .inl zt)), (q4, .inl (cyI, 5, .inl zp)), (q5, .inl (cyI, 40, .inl zm)), (q6, .inl (cyI, 40, .inl zk))] sz)) 0 0 (va_A [(q0, .inr (9, [.ref q1, .ref q2, .int svc, .ref q3, .int tl, .int cde, .int mm, .int mr, .ref q4, .int ati, .int ors, .ref q5, .ref q6])), (q1, .inl (cyI, 246, .inl zs)), (q2, .inl (cyI, 984, .inl zv)), (q3, .inl (cyI, 80, .inl zt)), (q4, .inl (cyI, 5, .inl zp)), (q5, .inl (cyI, 40, .inl zm)), (q6, .inl (cyI, 40, .inl zk))] sz) := by
  refine Met.ofW (cc := cX9_change) (maxL := 4) (ret := (some .int)) (by decide) rfl ?_
  intro p e s m args below meth c s₁ B hml hv
  obtain ⟨rfl, hsz, hP, hK, hD0, he⟩ := hv
  have hx := B.exec
  have hb := B.bytes
  have hr := B.returns
  have hts := atoms_spec (ws := wqX9_change) B.pre
  have hown : s.vm.findClass RX9 = some m.cls := findClass_of_methodNamed B.named
  have hlocks := B.notSynchronized
  have w_0 := hts (Cond.fieldLink RX9 7 "CraneLimiterModel" "s" "[I") (List.mem_cons_of_mem _ b_93)
  have i_X9 : ∀ w ∈ u_ws RX9 TX9 13, w ∈ wqX9_change := fun w h => List.mem_cons_of_mem _ (bX9 w h)
  subst hsz
  have hD := hD0.self (sz := s.heap.size)
  generalize hAe : va_A [(q0, .inr (9, [.ref q1, .ref q2, .int svc, .ref q3, .int tl, .int cde, .int mm, .int mr, .ref q4, .int ati, .int ors, .ref q5, .ref q6])), (q1, .inl (cyI, 246, .inl zs)), (q2, .inl (cyI, 984, .inl zv)), (q3, .inl (cyI, 80, .inl zt)), (q4, .inl (cyI, 5, .inl zp)), (q5, .inl (cyI, 40, .inl zm)), (q6, .inl (cyI, 40, .inl zk))] s.heap.size = A at hD he ⊢
  have hA : ∀ q : Nat, s.heap.size ≤ q → A q := fun q h => by rw [← hAe]; exact Or.inr h
  have hS : va_S A s.heap s.heap [] := va_S.rf
  have hP : va_P (dC, dI) vwCl [(q0, .inr (9, [.ref q1, .ref q2, .int svc, .ref q3, .int tl, .int cde, .int mm, .int mr, .ref q4, .int ati, .int ors, .ref q5, .ref q6])), (q1, .inl (cyI, 246, .inl zs)), (q2, .inl (cyI, 984, .inl zv)), (q3, .inl (cyI, 80, .inl zt)), (q4, .inl (cyI, 5, .inl zp)), (q5, .inl (cyI, 40, .inl zm)), (q6, .inl (cyI, 40, .inl zk))] s.heap := hP
  have hl := lv_entry ([.ref q0, .int (nI ce), .int vl] : List Value) (n := 4) (Nat.le_of_ble_eq_true rfl)
  rw [lg_entry_eq]
  generalize (lg_sl ([.ref q0, .int (nI ce), .int vl] : List Value) ++ List.replicate (4 - (lg_sl ([.ref q0, .int (nI ce), .int vl] : List Value)).length) Slot.unset).toArray = ls at hl ⊢
  have hl : lv_has ls 4 [(0, .ref q0), (1, .int (nI ce)), (2, .int vl)] := hl
  have hE : m_change svc zs zv ce vl = m_change svc zs zv ce vl := rfl
  refine lv_aload_n hx hb dX9_change_0 rfl (lv_at hl 0 rfl) ?_
  refine mj_v (wr := []) (va_runV (As := []) (rest := []) ⟨hx, hb, hml, hown, hts⟩ (c_X9_keep l dC dI cyI s.heap.size q0 q1 q2 q3 q4 q5 q6 svc tl cde mm mr ati ors zs zv zt zp zm zk hsv hs4) (cwV 0 hts (gBV b_193 b_194 b_195 b_5 b_196) rfl rfl rfl (by decide +kernel) ⟨Nat.le_of_ble_eq_true rfl, Nat.le_of_ble_eq_true rfl⟩) (prm_v eM_ok he hS hP hD hK (va_free (wc := [(q0, .inr (9, [.ref q1, .ref q2, .int svc, .ref q3, .int tl, .int cde, .int mm, .int mr, .ref q4, .int ati, .int ors, .ref q5, .ref q6])), (q1, .inl (cyI, 246, .inl zs)), (q2, .inl (cyI, 984, .inl zv)), (q3, .inl (cyI, 80, .inl zt)), (q4, .inl (cyI, 5, .inl zp)), (q5, .inl (cyI, 40, .inl zm)), (q6, .inl (cyI, 40, .inl zk))]) hD hS hA [0, 1, 2, 3, 4, 5, 6] rfl) 0 rfl rfl rfl) rfl rfl hl.1 rfl (lv_room (Nat.le_of_ble_eq_true rfl)) dX9_change_1 ⟨Nat.le_of_ble_eq_true rfl, Nat.le_of_ble_eq_true rfl⟩) hP hD hS hA [0, 1, 2, 3, 4, 5, 6] [] rfl rfl (by decide) (by decide) (fun u_1 H locs hw hP hD hS => ?_)
  have hu_1 := hw
  have hE := hE.trans (spLet_eq hu_1)
  have hP : va_P (dC, dI) vwCl [(q0, .inr (9, [.ref q1, .ref q2, .int (u_1.1), .ref q3, .int tl, .int cde, .int mm, .int mr, .ref q4, .int ati, .int ors, .ref q5, .ref q6])), (q1, .inl (cyI, 246, .inl zs)), (q2, .inl (cyI, 984, .inl (u_1.2))), (q3, .inl (cyI, 80, .inl zt)), (q4, .inl (cyI, 5, .inl zp)), (q5, .inl (cyI, 40, .inl zm)), (q6, .inl (cyI, 40, .inl zk))] H := hP
  have hD : va_D A [(q0, .inr (9, [.ref q1, .ref q2, .int (u_1.1), .ref q3, .int tl, .int cde, .int mm, .int mr, .ref q4, .int ati, .int ors, .ref q5, .ref q6])), (q1, .inl (cyI, 246, .inl zs)), (q2, .inl (cyI, 984, .inl (u_1.2))), (q3, .inl (cyI, 80, .inl zt)), (q4, .inl (cyI, 5, .inl zp)), (q5, .inl (cyI, 40, .inl zm)), (q6, .inl (cyI, 40, .inl zk))] := hD
  refine lv_aload_n hx hb dX9_change_4 rfl (lv_at hl 0 rfl) ?_
  refine va_get (D := (dC, dI)) (ci := 9) (v := .ref q1) (C := RX9) (T := TX9) (N := 13) hx hb hts i_X9 hown hK hP 0 rfl rfl 0 (by decide) w_0 (fun _ h9 => h9) rfl dX9_change_5 ?_
  refine lv_iload_n hx hb dX9_change_8 rfl (lv_at hl 1 rfl) ?_
  refine ra_ld hx hb hK hP 1 0 rfl rfl (j := ce) (rfl : (nI ce) = nI ce) (by omega) (by omega) dX9_change_9 ?_
  refine lv_topi (fun x_2 ex_2 => ?_)
  have hE := hE.trans (spLet_eq ex_2)
  refine lv_istore_n (lv' := [(3, .int x_2), (0, .ref q0), (1, .int (nI ce)), (2, .int vl)]) hx hb dX9_change_10 rfl hl (by decide) rfl (fun ls hl => ?_)
  refine lv_aload_n hx hb dX9_change_11 rfl (lv_at hl 1 rfl) ?_
  refine va_get (D := (dC, dI)) (ci := 9) (v := .ref q1) (C := RX9) (T := TX9) (N := 13) hx hb hts i_X9 hown hK hP 0 rfl rfl 0 (by decide) w_0 (fun _ h9 => h9) rfl dX9_change_12 ?_
  refine lv_iload_n hx hb dX9_change_15 rfl (lv_at hl 2 rfl) ?_
  refine lv_iload_n hx hb dX9_change_16 rfl (lv_at hl 3 rfl) ?_
  refine ra_st hx hb hK hP hD hS 1 0 rfl rfl (j := ce) (rfl : (nI ce) = nI ce) (by omega) (by omega) dX9_change_17 (fun H locs hP hD hS => ?_)
  have hP : va_P (dC, dI) vwCl [(q0, .inr (9, [.ref q1, .ref q2, .int (u_1.1), .ref q3, .int tl, .int cde, .int mm, .int mr, .ref q4, .int ati, .int ors, .ref q5, .ref q6])), (q1, .inl (cyI, 246, .inl (upd zs (ce) vl))), (q2, .inl (cyI, 984, .inl (u_1.2))), (q3, .inl (cyI, 80, .inl zt)), (q4, .inl (cyI, 5, .inl zp)), (q5, .inl (cyI, 40, .inl zm)), (q6, .inl (cyI, 40, .inl zk))] H := hP
  have hD : va_D A [(q0, .inr (9, [.ref q1, .ref q2, .int (u_1.1), .ref q3, .int tl, .int cde, .int mm, .int mr, .ref q4, .int ati, .int ors, .ref q5, .ref q6])), (q1, .inl (cyI, 246, .inl (upd zs (ce) vl))), (q2, .inl (cyI, 984, .inl (u_1.2))), (q3, .inl (cyI, 80, .inl zt)), (q4, .inl (cyI, 5, .inl zp)), (q5, .inl (cyI, 40, .inl zm)), (q6, .inl (cyI, 40, .inl zk))] := hD
  obtain ⟨f_3, ef_3⟩ : ∃ y : Nat → Int32, y = upd zs (ce) vl := ⟨_, rfl⟩
  rw [← ef_3] at hP hD
  have hE := hE.trans (spLet_eq ef_3)
  refine lv_iload_n hx hb dX9_change_18 rfl (lv_at hl 0 rfl) ?_
  exact W.iret (v := x_2) hx hb hr (fun t h9 hW => ⟨⟨x_2, ((x_2, (u_1.1), f_3, (u_1.2)) : Int32 × Int32 × (Nat → Int32) × (Nat → Int32)), rfl, ⟨hE.symm, rfl⟩, by rw [h9]; exact hP, hD⟩, hS.F h9⟩) hS.2.2 dX9_change_19

