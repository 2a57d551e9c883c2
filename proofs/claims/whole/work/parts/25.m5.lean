def m_follow_j41 (ut : Int32) (w1_a_41 : Nat → Int32) : (Nat → Int32) :=
  if (w1_a_41 12) = (1 : Int32) then (spLet (m_greater (w1_a_41 13) ut) (fun r_3 => spLet (upd w1_a_41 13 r_3) (fun f_4 => if (f_4 4) = 0 then (spLet (m_lesser (7 : Int32) ((f_4 13) / (125 : Int32))) (fun r_6 => spLet (upd f_4 12 (0 : Int32)) (fun f_7 => spLet (upd f_7 13 (0 : Int32)) (fun f_8 => spLet (((f_8 (238 + (r_6).toNatClampNeg)) + (1 : Int32))) (fun x_10 => spLet (upd f_8 (238 + (r_6).toNatClampNeg) x_10) (fun f_11 => spLet (m_log f_11 (3 : Int32) r_6) (fun u_12 => u_12))))))) else f_4))) else w1_a_41
def m_follow (zs : Nat → Int32) (tb : Int32) (ut : Int32) : (Nat → Int32) :=
  if (4 : Int32) ≤ tb then (m_follow_j41 ut zs) else (if (zs 4) = (4 : Int32) then (if (zs 12) = 0 then (spLet (upd zs 12 (1 : Int32)) (fun f_15 => spLet (upd f_15 13 (0 : Int32)) (fun f_16 => m_follow_j41 ut f_16))) else (m_follow_j41 ut zs)) else (m_follow_j41 ut zs))
set_option maxHeartbeats 1000000 in
set_option maxRecDepth 100000 in
theorem c_X9_follow (l : Launch) (dC : Nat → ClassId) (dI : Nat → Nat → Nat) (cyI : ClassId) (sz : Nat) (q0 : Nat) (q1 : Nat) (q2 : Nat) (q3 : Nat) (q4 : Nat) (q5 : Nat) (q6 : Nat) (svc : Int32) (tl : Int32) (cde : Int32) (mm : Int32) (mr : Int32) (ati : Int32) (ors : Int32) (zs : Nat → Int32) (zv : Nat → Int32) (zt : Nat → Int32) (zp : Nat → Int32) (zm : Nat → Int32) (zk : Nat → Int32) (tb : Int32) (ut : Int32) (hG : mG zs) : Met l yX9_follow wqX9_follow ({ frames := 1, cells := 0, slots := 0, locals := 23 } : Room) (va_Pc [.ref q0, .int tb, .int ut] (pC (dC, dI) [(q0, .inr (9, [.ref q1, .ref q2, .int svc, .ref q3, .int tl, .int cde, .int mm, .int mr, .ref q4, .int ati, .int ors, .ref q5, .ref q6])), (q1, .inl (cyI, 246, .inl zs)), (q2, .inl (cyI, 984, .inl zv)), (q3, .inl (cyI, 80, .inl zt)), (q4, .inl (cyI, 5, .inl zp)), (q5, .inl (cyI, 40, .inl zm)), (q6, .inl (cyI, 40, .inl zk))] [(cyI, .int)] eM sz)) (va_Qv (fun u : (Nat → Int32) => u = (m_follow zs tb ut)) (fun (u : (Nat → Int32)) t => va_P (dC, dI) vwCl [(q0, .inr (9, [.ref q1, .ref q2, .int svc, .ref q3, .int tl, .int cde, .int mm, .int mr, .ref q4, .int ati, .int ors, .ref q5, .ref q6])), (q1, .inl (cyI, 246, .inl u)), (q2, .inl (cyI, 984, .inl zv)), (q3, .inl (cyI, 80, .inl zt)), (q4, .inl (cyI, 5, .inl zp)), (q5, .inl (cyI, 40, .inl zm)), (q6, .inl (cyI, 40, .inl zk))] t.heap ∧ va_D (va_A [(q0, .inr (9, [.ref q1, .ref q2, .int svc, .ref q3, .int tl, .int cde, .int mm, .int mr, .ref q4, .int ati, .int ors, .ref q5, .ref q6])), (q1, .inl (cyI, 246, .inl zs)), (q2, .inl (cyI, 984, .inl zv)), (q3, .inl (cyI, 80, .inl zt)), (q4, .inl (cyI, 5, .inl zp)), (q5, .inl (cyI, 40, .inl zm)), (q6, .inl (cyI, 40, .inl zk))] sz) [(q0, .inr (9, [.ref q1, .ref q2, .int svc, .ref q3, .int tl, .int cde, .int mm, .int mr, .ref q4, .int ati, .int ors, .ref q5, .ref q6])), (q1, .inl (cyI, 246, .inl u)), (q2, .inl (cyI, 984, .inl zv)), (q3, .inl (cyI, 80, .inl zt)), (q4, .inl (cyI, 5, .inl zp)), (q5, .inl (cyI, 40, .inl zm)), (q6, .inl (cyI, 40, .inl zk))]) (va_A [(q0, .inr (9, [.ref q1, .ref q2, .int svc, .ref q3, .int tl, .int cde, .int mm, .int mr, .ref q4, .int ati, .int ors, .ref q5, .ref q6])), (q1, .inl (cyI, 246, .inl zs)), (q2, .inl (cyI, 984, .inl zv)), (q3, .inl (cyI, 80, .inl zt)), (q4, .inl (cyI, 5, .inl zp)), (q5, .inl (cyI, 40, .inl zm)), (q6, .inl (cyI, 40, .inl zk))] sz)) 0 0 (va_A [(q0, .inr (9, [.ref q1, .ref q2, .int svc, .ref q3, .int tl, .int cde, .int mm, .int mr, .ref q4, .int ati, .int ors, .ref q5, .ref q6])), (q1, .inl (cyI, 246, .inl zs)), (q2, .inl (cyI, 984, .inl zv)), (q3, .inl (cyI, 80, .inl zt)), (q4, .inl (cyI, 5, .inl zp)), (q5, .inl (cyI, 40, .inl zm)), (q6, .inl (cyI, 40, .inl zk))] sz) := by
  refine Met.ofW (cc := cX9_follow) (maxL := 4) (ret := none) (by decide) rfl ?_
  intro p e s m args below meth c s₁ B hml hv
  obtain ⟨rfl, hsz, hP, hK, hD0, he⟩ := hv
  have hx := B.exec
  have hb := B.bytes
  have hr := B.returns
  have hts := atoms_spec (ws := wqX9_follow) B.pre
  have hown : s.vm.findClass RX9 = some m.cls := findClass_of_methodNamed B.named
  have hlocks := B.notSynchronized
  have w_0 := hts (Cond.fieldLink RX9 7 "CraneLimiterModel" "s" "[I") (List.mem_cons_of_mem _ b_93)
  have i_X9 : ∀ w ∈ u_ws RX9 TX9 13, w ∈ wqX9_follow := fun w h => List.mem_cons_of_mem _ (bX9 w h)
  subst hsz
  have hD := hD0.self (sz := s.heap.size)
  generalize hAe : va_A [(q0, .inr (9, [.ref q1, .ref q2, .int svc, .ref q3, .int tl, .int cde, .int mm, .int mr, .ref q4, .int ati, .int ors, .ref q5, .ref q6])), (q1, .inl (cyI, 246, .inl zs)), (q2, .inl (cyI, 984, .inl zv)), (q3, .inl (cyI, 80, .inl zt)), (q4, .inl (cyI, 5, .inl zp)), (q5, .inl (cyI, 40, .inl zm)), (q6, .inl (cyI, 40, .inl zk))] s.heap.size = A at hD he ⊢
  have hA : ∀ q : Nat, s.heap.size ≤ q → A q := fun q h => by rw [← hAe]; exact Or.inr h
  have hS : va_S A s.heap s.heap [] := va_S.rf
  have hP : va_P (dC, dI) vwCl [(q0, .inr (9, [.ref q1, .ref q2, .int svc, .ref q3, .int tl, .int cde, .int mm, .int mr, .ref q4, .int ati, .int ors, .ref q5, .ref q6])), (q1, .inl (cyI, 246, .inl zs)), (q2, .inl (cyI, 984, .inl zv)), (q3, .inl (cyI, 80, .inl zt)), (q4, .inl (cyI, 5, .inl zp)), (q5, .inl (cyI, 40, .inl zm)), (q6, .inl (cyI, 40, .inl zk))] s.heap := hP
  have hl := lv_entry ([.ref q0, .int tb, .int ut] : List Value) (n := 4) (Nat.le_of_ble_eq_true rfl)
  rw [lg_entry_eq]
  generalize (lg_sl ([.ref q0, .int tb, .int ut] : List Value) ++ List.replicate (4 - (lg_sl ([.ref q0, .int tb, .int ut] : List Value)).length) Slot.unset).toArray = ls at hl ⊢
  have hl : lv_has ls 4 [(0, .ref q0), (1, .int tb), (2, .int ut)] := hl
  have hE : m_follow zs tb ut = m_follow zs tb ut := rfl
  refine lv_iload_n hx hb dX9_follow_0 rfl (lv_at hl 1 rfl) ?_
  refine lv_iconst (v := 4) hx hb dX9_follow_1 (by decide) ?_
  have J41 : ∀ (w1_a_41 : Nat → Int32) (hi : mG w1_a_41) (H : Heap) (locs : List Loc) (hP : va_P (dC, dI) vwCl [(q0, .inr (9, [.ref q1, .ref q2, .int svc, .ref q3, .int tl, .int cde, .int mm, .int mr, .ref q4, .int ati, .int ors, .ref q5, .ref q6])), (q1, .inl (cyI, 246, .inl w1_a_41)), (q2, .inl (cyI, 984, .inl zv)), (q3, .inl (cyI, 80, .inl zt)), (q4, .inl (cyI, 5, .inl zp)), (q5, .inl (cyI, 40, .inl zm)), (q6, .inl (cyI, 40, .inl zk))] H) (hD : va_D A [(q0, .inr (9, [.ref q1, .ref q2, .int svc, .ref q3, .int tl, .int cde, .int mm, .int mr, .ref q4, .int ati, .int ors, .ref q5, .ref q6])), (q1, .inl (cyI, 246, .inl w1_a_41)), (q2, .inl (cyI, 984, .inl zv)), (q3, .inl (cyI, 80, .inl zt)), (q4, .inl (cyI, 5, .inl zp)), (q5, .inl (cyI, 40, .inl zm)), (q6, .inl (cyI, 40, .inl zk))]) (hS : va_S A s.heap H locs) (ls : Array Slot) (hl : lv_has ls 4 [(0, .ref q0), (2, .int ut)]) (hE : (m_follow zs tb ut) = m_follow_j41 ut w1_a_41), W p l e (headSpec wqX9_follow ({ frames := 1, cells := 0, slots := 0, locals := 23 } : Room)).room s m ([.ref q0, .int tb, .int ut] : List Value).toArray below meth c H locs 0 0 (MQ below (va_Qv (fun u : (Nat → Int32) => u = (m_follow zs tb ut)) (fun (u : (Nat → Int32)) t => va_P (dC, dI) vwCl [(q0, .inr (9, [.ref q1, .ref q2, .int svc, .ref q3, .int tl, .int cde, .int mm, .int mr, .ref q4, .int ati, .int ors, .ref q5, .ref q6])), (q1, .inl (cyI, 246, .inl u)), (q2, .inl (cyI, 984, .inl zv)), (q3, .inl (cyI, 80, .inl zt)), (q4, .inl (cyI, 5, .inl zp)), (q5, .inl (cyI, 40, .inl zm)), (q6, .inl (cyI, 40, .inl zk))] t.heap ∧ va_D A [(q0, .inr (9, [.ref q1, .ref q2, .int svc, .ref q3, .int tl, .int cde, .int mm, .int mr, .ref q4, .int ati, .int ors, .ref q5, .ref q6])), (q1, .inl (cyI, 246, .inl u)), (q2, .inl (cyI, 984, .inl zv)), (q3, .inl (cyI, 80, .inl zt)), (q4, .inl (cyI, 5, .inl zp)), (q5, .inl (cyI, 40, .inl zm)), (q6, .inl (cyI, 40, .inl zk))]) A) ([.ref q0, .int tb, .int ut] : List Value).toArray s 0 0 A) (F0 m 41 ls []) := by
    intro w1_a_41 hi H locs hP hD hS ls hl hE
    refine lv_aload_n hx hb dX9_follow_41 rfl (lv_at hl 0 rfl) ?_
    refine va_get (D := (dC, dI)) (ci := 9) (v := .ref q1) (C := RX9) (T := TX9) (N := 13) hx hb hts i_X9 hown hK hP 0 rfl rfl 0 (by decide) w_0 (fun _ h9 => h9) rfl dX9_follow_42 ?_
    refine lv_bipush (v := 12) hx hb dX9_follow_45 (by decide) ?_
    refine ra_ld hx hb hK hP 1 0 rfl rfl (j := 12) (rfl : (12 : Int32) = nI 12) (by omega) (by omega) dX9_follow_47 ?_
    refine lv_iconst (v := 1) hx hb dX9_follow_48 (by decide) ?_
    refine lv_icmp_ne (tgt := 131) hx hb dX9_follow_49 (by decide) (fun c_2 => ?_) (fun c_2 => ?_)
    ·
      have hE := hE.trans (if_neg c_2)
      exact W.vret hx hb hr (fun t h9 hW => ⟨⟨(w1_a_41 : (Nat → Int32)), rfl, hE.symm, by rw [h9]; exact hP, hD⟩, hS.F h9⟩) hS.2.2 dX9_follow_131
    ·
      have hE := hE.trans (if_pos c_2)
      refine lv_aload_n hx hb dX9_follow_52 rfl (lv_at hl 0 rfl) ?_
      refine va_get (D := (dC, dI)) (ci := 9) (v := .ref q1) (C := RX9) (T := TX9) (N := 13) hx hb hts i_X9 hown hK hP 0 rfl rfl 0 (by decide) w_0 (fun _ h9 => h9) rfl dX9_follow_53 ?_
      refine lv_bipush (v := 13) hx hb dX9_follow_56 (by decide) ?_
      refine lv_aload_n hx hb dX9_follow_58 rfl (lv_at hl 0 rfl) ?_
      refine va_get (D := (dC, dI)) (ci := 9) (v := .ref q1) (C := RX9) (T := TX9) (N := 13) hx hb hts i_X9 hown hK hP 0 rfl rfl 0 (by decide) w_0 (fun _ h9 => h9) rfl dX9_follow_59 ?_
      refine lv_bipush (v := 13) hx hb dX9_follow_62 (by decide) ?_
      refine ra_ld hx hb hK hP 1 0 rfl rfl (j := 13) (rfl : (13 : Int32) = nI 13) (by omega) (by omega) dX9_follow_64 ?_
      refine lv_iload_n hx hb dX9_follow_65 rfl (lv_at hl 1 rfl) ?_
      refine vp_callSi (W.runS (As := [.int (w1_a_41 13), .int ut]) (rest := [.int (13 : Int32), .ref q1]) ⟨hx, hb, hml, hown, hts⟩ (c_X9_greater l dC dI cyI (w1_a_41 13) ut) (va_cwS 2 hts (gBS b_393 b_394 b_5 b_395) rfl rfl rfl (by decide +kernel) ⟨Nat.le_of_ble_eq_true rfl, Nat.le_of_ble_eq_true rfl⟩) (pre_s eM_ok he hS (hP.sub (ws' := []) [] rfl) (hK.sub (tys' := []) [] rfl)) rfl rfl hl.1 rfl (lv_room (Nat.le_of_ble_eq_true rfl)) dX9_follow_66 ⟨Nat.zero_le _, Nat.zero_le _⟩) (fun r_3 hr_3 => ?_)
      have hE := hE.trans (spLet_eq hr_3)
      refine ra_st hx hb hK hP hD hS 1 0 rfl rfl (j := 13) (rfl : (13 : Int32) = nI 13) (by omega) (by omega) dX9_follow_69 (fun H locs hP hD hS => ?_)
      have hP : va_P (dC, dI) vwCl [(q0, .inr (9, [.ref q1, .ref q2, .int svc, .ref q3, .int tl, .int cde, .int mm, .int mr, .ref q4, .int ati, .int ors, .ref q5, .ref q6])), (q1, .inl (cyI, 246, .inl (upd w1_a_41 13 r_3))), (q2, .inl (cyI, 984, .inl zv)), (q3, .inl (cyI, 80, .inl zt)), (q4, .inl (cyI, 5, .inl zp)), (q5, .inl (cyI, 40, .inl zm)), (q6, .inl (cyI, 40, .inl zk))] H := hP
      have hD : va_D A [(q0, .inr (9, [.ref q1, .ref q2, .int svc, .ref q3, .int tl, .int cde, .int mm, .int mr, .ref q4, .int ati, .int ors, .ref q5, .ref q6])), (q1, .inl (cyI, 246, .inl (upd w1_a_41 13 r_3))), (q2, .inl (cyI, 984, .inl zv)), (q3, .inl (cyI, 80, .inl zt)), (q4, .inl (cyI, 5, .inl zp)), (q5, .inl (cyI, 40, .inl zm)), (q6, .inl (cyI, 40, .inl zk))] := hD
      obtain ⟨f_4, ef_4⟩ : ∃ y : Nat → Int32, y = upd w1_a_41 13 r_3 := ⟨_, rfl⟩
      rw [← ef_4] at hP hD
      have hE := hE.trans (spLet_eq ef_4)
      have hf : mG f_4 := by rw [ef_4, hr_3]; exact hi.upd fun _ => fol13 hi _
      refine lv_aload_n hx hb dX9_follow_70 rfl (lv_at hl 0 rfl) ?_
      refine va_get (D := (dC, dI)) (ci := 9) (v := .ref q1) (C := RX9) (T := TX9) (N := 13) hx hb hts i_X9 hown hK hP 0 rfl rfl 0 (by decide) w_0 (fun _ h9 => h9) rfl dX9_follow_71 ?_
      refine lv_iconst (v := 4) hx hb dX9_follow_74 (by decide) ?_
      refine ra_ld hx hb hK hP 1 0 rfl rfl (j := 4) (rfl : (4 : Int32) = nI 4) (by omega) (by omega) dX9_follow_75 ?_
      refine lv_if_ne (tgt := 131) hx hb dX9_follow_76 (by decide) (fun c_5 => ?_) (fun c_5 => ?_)
      ·
        have hE := hE.trans (if_neg c_5)
        exact W.vret hx hb hr (fun t h9 hW => ⟨⟨(f_4 : (Nat → Int32)), rfl, hE.symm, by rw [h9]; exact hP, hD⟩, hS.F h9⟩) hS.2.2 dX9_follow_131
      ·
        have hE := hE.trans (if_pos c_5)
        refine lv_bipush (v := 7) hx hb dX9_follow_79 (by decide) ?_
        refine lv_aload_n hx hb dX9_follow_81 rfl (lv_at hl 0 rfl) ?_
        refine va_get (D := (dC, dI)) (ci := 9) (v := .ref q1) (C := RX9) (T := TX9) (N := 13) hx hb hts i_X9 hown hK hP 0 rfl rfl 0 (by decide) w_0 (fun _ h9 => h9) rfl dX9_follow_82 ?_
        refine lv_bipush (v := 13) hx hb dX9_follow_85 (by decide) ?_
        refine ra_ld hx hb hK hP 1 0 rfl rfl (j := 13) (rfl : (13 : Int32) = nI 13) (by omega) (by omega) dX9_follow_87 ?_
        refine lv_bipush (v := 125) hx hb dX9_follow_88 (by decide) ?_
        refine lv_idiv hx hb dX9_follow_90 (by decide) ?_
        refine vp_callSi (W.runS (As := [.int (7 : Int32), .int ((f_4 13) / (125 : Int32))]) (rest := []) ⟨hx, hb, hml, hown, hts⟩ (c_X9_lesser l dC dI cyI (7 : Int32) ((f_4 13) / (125 : Int32))) (va_cwS 2 hts (gBS b_267 b_268 b_5 b_269) rfl rfl rfl (by decide +kernel) ⟨Nat.le_of_ble_eq_true rfl, Nat.le_of_ble_eq_true rfl⟩) (pre_s eM_ok he hS (hP.sub (ws' := []) [] rfl) (hK.sub (tys' := []) [] rfl)) rfl rfl hl.1 rfl (lv_room (Nat.le_of_ble_eq_true rfl)) dX9_follow_91 ⟨Nat.zero_le _, Nat.zero_le _⟩) (fun r_6 hr_6 => ?_)
        have hE := hE.trans (spLet_eq hr_6)
        have hn_r_6 : r_6 = nI (r_6).toNatClampNeg ∧ (r_6).toNatClampNeg < 8 := by rw [hr_6]; exact fol_its hf
        have hb_r_6 := hn_r_6.2
        refine lv_istore_n (lv' := [(3, .int r_6), (0, .ref q0), (2, .int ut)]) hx hb dX9_follow_94 rfl hl (by decide) rfl (fun ls hl => ?_)
        refine lv_aload_n hx hb dX9_follow_95 rfl (lv_at hl 1 rfl) ?_
        refine va_get (D := (dC, dI)) (ci := 9) (v := .ref q1) (C := RX9) (T := TX9) (N := 13) hx hb hts i_X9 hown hK hP 0 rfl rfl 0 (by decide) w_0 (fun _ h9 => h9) rfl dX9_follow_96 ?_
        refine lv_bipush (v := 12) hx hb dX9_follow_99 (by decide) ?_
        refine lv_iconst (v := 0) hx hb dX9_follow_101 (by decide) ?_
        refine ra_st hx hb hK hP hD hS 1 0 rfl rfl (j := 12) (rfl : (12 : Int32) = nI 12) (by omega) (by omega) dX9_follow_102 (fun H locs hP hD hS => ?_)
        have hP : va_P (dC, dI) vwCl [(q0, .inr (9, [.ref q1, .ref q2, .int svc, .ref q3, .int tl, .int cde, .int mm, .int mr, .ref q4, .int ati, .int ors, .ref q5, .ref q6])), (q1, .inl (cyI, 246, .inl (upd f_4 12 (0 : Int32)))), (q2, .inl (cyI, 984, .inl zv)), (q3, .inl (cyI, 80, .inl zt)), (q4, .inl (cyI, 5, .inl zp)), (q5, .inl (cyI, 40, .inl zm)), (q6, .inl (cyI, 40, .inl zk))] H := hP
        have hD : va_D A [(q0, .inr (9, [.ref q1, .ref q2, .int svc, .ref q3, .int tl, .int cde, .int mm, .int mr, .ref q4, .int ati, .int ors, .ref q5, .ref q6])), (q1, .inl (cyI, 246, .inl (upd f_4 12 (0 : Int32)))), (q2, .inl (cyI, 984, .inl zv)), (q3, .inl (cyI, 80, .inl zt)), (q4, .inl (cyI, 5, .inl zp)), (q5, .inl (cyI, 40, .inl zm)), (q6, .inl (cyI, 40, .inl zk))] := hD
        obtain ⟨f_7, ef_7⟩ : ∃ y : Nat → Int32, y = upd f_4 12 (0 : Int32) := ⟨_, rfl⟩
        rw [← ef_7] at hP hD
        have hE := hE.trans (spLet_eq ef_7)
        have hg : mG f_7 := by rw [ef_7]; exact hf.upd fun _ => ⟨by decide, by decide⟩
        refine lv_aload_n hx hb dX9_follow_103 rfl (lv_at hl 1 rfl) ?_
        refine va_get (D := (dC, dI)) (ci := 9) (v := .ref q1) (C := RX9) (T := TX9) (N := 13) hx hb hts i_X9 hown hK hP 0 rfl rfl 0 (by decide) w_0 (fun _ h9 => h9) rfl dX9_follow_104 ?_
        refine lv_bipush (v := 13) hx hb dX9_follow_107 (by decide) ?_
        refine lv_iconst (v := 0) hx hb dX9_follow_109 (by decide) ?_
        refine ra_st hx hb hK hP hD hS 1 0 rfl rfl (j := 13) (rfl : (13 : Int32) = nI 13) (by omega) (by omega) dX9_follow_110 (fun H locs hP hD hS => ?_)
        have hP : va_P (dC, dI) vwCl [(q0, .inr (9, [.ref q1, .ref q2, .int svc, .ref q3, .int tl, .int cde, .int mm, .int mr, .ref q4, .int ati, .int ors, .ref q5, .ref q6])), (q1, .inl (cyI, 246, .inl (upd f_7 13 (0 : Int32)))), (q2, .inl (cyI, 984, .inl zv)), (q3, .inl (cyI, 80, .inl zt)), (q4, .inl (cyI, 5, .inl zp)), (q5, .inl (cyI, 40, .inl zm)), (q6, .inl (cyI, 40, .inl zk))] H := hP
        have hD : va_D A [(q0, .inr (9, [.ref q1, .ref q2, .int svc, .ref q3, .int tl, .int cde, .int mm, .int mr, .ref q4, .int ati, .int ors, .ref q5, .ref q6])), (q1, .inl (cyI, 246, .inl (upd f_7 13 (0 : Int32)))), (q2, .inl (cyI, 984, .inl zv)), (q3, .inl (cyI, 80, .inl zt)), (q4, .inl (cyI, 5, .inl zp)), (q5, .inl (cyI, 40, .inl zm)), (q6, .inl (cyI, 40, .inl zk))] := hD
        obtain ⟨f_8, ef_8⟩ : ∃ y : Nat → Int32, y = upd f_7 13 (0 : Int32) := ⟨_, rfl⟩
        rw [← ef_8] at hP hD
        have hE := hE.trans (spLet_eq ef_8)
        have hh : mG f_8 := by rw [ef_8]; exact hg.upd fun _ => ⟨by decide, by decide⟩
        refine lv_aload_n hx hb dX9_follow_111 rfl (lv_at hl 1 rfl) ?_
        refine va_get (D := (dC, dI)) (ci := 9) (v := .ref q1) (C := RX9) (T := TX9) (N := 13) hx hb hts i_X9 hown hK hP 0 rfl rfl 0 (by decide) w_0 (fun _ h9 => h9) rfl dX9_follow_112 ?_
        refine lv_sipush (v := 238) hx hb dX9_follow_115 (by decide) ?_
        refine lv_iload_n hx hb dX9_follow_118 rfl (lv_at hl 0 rfl) ?_
        refine lv_iadd hx hb dX9_follow_119 ?_
        refine lv_topi (fun y_9 ey_9 => ?_)
        obtain rfl : y_9 = nI (238 + (r_6).toNatClampNeg) := ey_9.trans (nadd (rfl : (238 : Int32) = nI 238) hn_r_6.1)
        refine lv_dup2_11 hx hb dX9_follow_120 rfl rfl ?_
        refine ra_ld hx hb hK hP 1 0 rfl rfl (j := (238 + (r_6).toNatClampNeg)) (rfl : (nI (238 + (r_6).toNatClampNeg)) = nI (238 + (r_6).toNatClampNeg)) (by omega) (by omega) dX9_follow_121 ?_
        refine lv_iconst (v := 1) hx hb dX9_follow_122 (by decide) ?_
        refine lv_iadd hx hb dX9_follow_123 ?_
        refine lv_topi (fun x_10 ex_10 => ?_)
        have hE := hE.trans (spLet_eq ex_10)
        refine ra_st hx hb hK hP hD hS 1 0 rfl rfl (j := (238 + (r_6).toNatClampNeg)) (rfl : (nI (238 + (r_6).toNatClampNeg)) = nI (238 + (r_6).toNatClampNeg)) (by omega) (by omega) dX9_follow_124 (fun H locs hP hD hS => ?_)
        have hP : va_P (dC, dI) vwCl [(q0, .inr (9, [.ref q1, .ref q2, .int svc, .ref q3, .int tl, .int cde, .int mm, .int mr, .ref q4, .int ati, .int ors, .ref q5, .ref q6])), (q1, .inl (cyI, 246, .inl (upd f_8 (238 + (r_6).toNatClampNeg) x_10))), (q2, .inl (cyI, 984, .inl zv)), (q3, .inl (cyI, 80, .inl zt)), (q4, .inl (cyI, 5, .inl zp)), (q5, .inl (cyI, 40, .inl zm)), (q6, .inl (cyI, 40, .inl zk))] H := hP
        have hD : va_D A [(q0, .inr (9, [.ref q1, .ref q2, .int svc, .ref q3, .int tl, .int cde, .int mm, .int mr, .ref q4, .int ati, .int ors, .ref q5, .ref q6])), (q1, .inl (cyI, 246, .inl (upd f_8 (238 + (r_6).toNatClampNeg) x_10))), (q2, .inl (cyI, 984, .inl zv)), (q3, .inl (cyI, 80, .inl zt)), (q4, .inl (cyI, 5, .inl zp)), (q5, .inl (cyI, 40, .inl zm)), (q6, .inl (cyI, 40, .inl zk))] := hD
        obtain ⟨f_11, ef_11⟩ : ∃ y : Nat → Int32, y = upd f_8 (238 + (r_6).toNatClampNeg) x_10 := ⟨_, rfl⟩
        rw [← ef_11] at hP hD
        have hE := hE.trans (spLet_eq ef_11)
        have hii : mG f_11 := by rw [ef_11]; exact hh.upd fun _ => mfree (by omega) _
        refine lv_aload_n hx hb dX9_follow_125 rfl (lv_at hl 1 rfl) ?_
        refine lv_iconst (v := 3) hx hb dX9_follow_126 (by decide) ?_
        refine lv_iload_n hx hb dX9_follow_127 rfl (lv_at hl 0 rfl) ?_
        refine mj_v (wr := []) (va_runV (As := [.int (3 : Int32), .int r_6]) (rest := []) ⟨hx, hb, hml, hown, hts⟩ (c_X9_log l dC dI cyI H.size q0 q1 q2 q3 q4 q5 q6 svc tl cde mm mr ati ors f_11 zv zt zp zm zk (3 : Int32) r_6 hii.ev.1 hii.ev.2) (cwV 2 hts (gBV b_732 b_733 b_734 b_5 b_735) rfl rfl rfl (by decide +kernel) ⟨Nat.le_of_ble_eq_true rfl, Nat.le_of_ble_eq_true rfl⟩) (prm_v eM_ok he hS hP hD hK (va_free (wc := [(q0, .inr (9, [.ref q1, .ref q2, .int svc, .ref q3, .int tl, .int cde, .int mm, .int mr, .ref q4, .int ati, .int ors, .ref q5, .ref q6])), (q1, .inl (cyI, 246, .inl f_11)), (q2, .inl (cyI, 984, .inl zv)), (q3, .inl (cyI, 80, .inl zt)), (q4, .inl (cyI, 5, .inl zp)), (q5, .inl (cyI, 40, .inl zm)), (q6, .inl (cyI, 40, .inl zk))]) hD hS hA [0, 1, 2, 3, 4, 5, 6] rfl) 0 rfl rfl rfl) rfl rfl hl.1 rfl (lv_room (Nat.le_of_ble_eq_true rfl)) dX9_follow_128 ⟨Nat.le_of_ble_eq_true rfl, Nat.le_of_ble_eq_true rfl⟩) hP hD hS hA [0, 1, 2, 3, 4, 5, 6] [] rfl rfl (by decide) (by decide) (fun u_12 H locs hw hP hD hS => ?_)
        have hu_12 := hw
        have hE := hE.trans (spLet_eq hu_12)
        have hP : va_P (dC, dI) vwCl [(q0, .inr (9, [.ref q1, .ref q2, .int svc, .ref q3, .int tl, .int cde, .int mm, .int mr, .ref q4, .int ati, .int ors, .ref q5, .ref q6])), (q1, .inl (cyI, 246, .inl u_12)), (q2, .inl (cyI, 984, .inl zv)), (q3, .inl (cyI, 80, .inl zt)), (q4, .inl (cyI, 5, .inl zp)), (q5, .inl (cyI, 40, .inl zm)), (q6, .inl (cyI, 40, .inl zk))] H := hP
        have hD : va_D A [(q0, .inr (9, [.ref q1, .ref q2, .int svc, .ref q3, .int tl, .int cde, .int mm, .int mr, .ref q4, .int ati, .int ors, .ref q5, .ref q6])), (q1, .inl (cyI, 246, .inl u_12)), (q2, .inl (cyI, 984, .inl zv)), (q3, .inl (cyI, 80, .inl zt)), (q4, .inl (cyI, 5, .inl zp)), (q5, .inl (cyI, 40, .inl zm)), (q6, .inl (cyI, 40, .inl zk))] := hD
        exact W.vret hx hb hr (fun t h9 hW => ⟨⟨(u_12 : (Nat → Int32)), rfl, hE.symm, by rw [h9]; exact hP, hD⟩, hS.F h9⟩) hS.2.2 dX9_follow_131
  refine lv_icmp_ge (tgt := 41) hx hb dX9_follow_2 (by decide) (fun c_1 => ?_) (fun c_1 => ?_)
  ·
    have hE := hE.trans (if_pos c_1)
    exact J41 zs hG _ _ hP hD hS ls (lv_sub hl [0, 2] rfl) hE
  ·
    have hE := hE.trans (if_neg c_1)
    refine lv_aload_n hx hb dX9_follow_5 rfl (lv_at hl 0 rfl) ?_
    refine va_get (D := (dC, dI)) (ci := 9) (v := .ref q1) (C := RX9) (T := TX9) (N := 13) hx hb hts i_X9 hown hK hP 0 rfl rfl 0 (by decide) w_0 (fun _ h9 => h9) rfl dX9_follow_6 ?_
    refine lv_iconst (v := 4) hx hb dX9_follow_9 (by decide) ?_
    refine ra_ld hx hb hK hP 1 0 rfl rfl (j := 4) (rfl : (4 : Int32) = nI 4) (by omega) (by omega) dX9_follow_10 ?_
    refine lv_iconst (v := 4) hx hb dX9_follow_11 (by decide) ?_
    refine lv_icmp_ne (tgt := 41) hx hb dX9_follow_12 (by decide) (fun c_13 => ?_) (fun c_13 => ?_)
    ·
      have hE := hE.trans (if_neg c_13)
      exact J41 zs hG _ _ hP hD hS ls (lv_sub hl [0, 2] rfl) hE
    ·
      have hE := hE.trans (if_pos c_13)
      refine lv_aload_n hx hb dX9_follow_15 rfl (lv_at hl 0 rfl) ?_
      refine va_get (D := (dC, dI)) (ci := 9) (v := .ref q1) (C := RX9) (T := TX9) (N := 13) hx hb hts i_X9 hown hK hP 0 rfl rfl 0 (by decide) w_0 (fun _ h9 => h9) rfl dX9_follow_16 ?_
      refine lv_bipush (v := 12) hx hb dX9_follow_19 (by decide) ?_
      refine ra_ld hx hb hK hP 1 0 rfl rfl (j := 12) (rfl : (12 : Int32) = nI 12) (by omega) (by omega) dX9_follow_21 ?_
      refine lv_if_ne (tgt := 41) hx hb dX9_follow_22 (by decide) (fun c_14 => ?_) (fun c_14 => ?_)
      ·
        have hE := hE.trans (if_neg c_14)
        exact J41 zs hG _ _ hP hD hS ls (lv_sub hl [0, 2] rfl) hE
      ·
        have hE := hE.trans (if_pos c_14)
        refine lv_aload_n hx hb dX9_follow_25 rfl (lv_at hl 0 rfl) ?_
        refine va_get (D := (dC, dI)) (ci := 9) (v := .ref q1) (C := RX9) (T := TX9) (N := 13) hx hb hts i_X9 hown hK hP 0 rfl rfl 0 (by decide) w_0 (fun _ h9 => h9) rfl dX9_follow_26 ?_
        refine lv_bipush (v := 12) hx hb dX9_follow_29 (by decide) ?_
        refine lv_iconst (v := 1) hx hb dX9_follow_31 (by decide) ?_
        refine ra_st hx hb hK hP hD hS 1 0 rfl rfl (j := 12) (rfl : (12 : Int32) = nI 12) (by omega) (by omega) dX9_follow_32 (fun H locs hP hD hS => ?_)
        have hP : va_P (dC, dI) vwCl [(q0, .inr (9, [.ref q1, .ref q2, .int svc, .ref q3, .int tl, .int cde, .int mm, .int mr, .ref q4, .int ati, .int ors, .ref q5, .ref q6])), (q1, .inl (cyI, 246, .inl (upd zs 12 (1 : Int32)))), (q2, .inl (cyI, 984, .inl zv)), (q3, .inl (cyI, 80, .inl zt)), (q4, .inl (cyI, 5, .inl zp)), (q5, .inl (cyI, 40, .inl zm)), (q6, .inl (cyI, 40, .inl zk))] H := hP
        have hD : va_D A [(q0, .inr (9, [.ref q1, .ref q2, .int svc, .ref q3, .int tl, .int cde, .int mm, .int mr, .ref q4, .int ati, .int ors, .ref q5, .ref q6])), (q1, .inl (cyI, 246, .inl (upd zs 12 (1 : Int32)))), (q2, .inl (cyI, 984, .inl zv)), (q3, .inl (cyI, 80, .inl zt)), (q4, .inl (cyI, 5, .inl zp)), (q5, .inl (cyI, 40, .inl zm)), (q6, .inl (cyI, 40, .inl zk))] := hD
        obtain ⟨f_15, ef_15⟩ : ∃ y : Nat → Int32, y = upd zs 12 (1 : Int32) := ⟨_, rfl⟩
        rw [← ef_15] at hP hD
        have hE := hE.trans (spLet_eq ef_15)
        have hp : mG f_15 := by rw [ef_15]; exact hG.upd fun _ => ⟨by decide, by decide⟩
        refine lv_aload_n hx hb dX9_follow_33 rfl (lv_at hl 0 rfl) ?_
        refine va_get (D := (dC, dI)) (ci := 9) (v := .ref q1) (C := RX9) (T := TX9) (N := 13) hx hb hts i_X9 hown hK hP 0 rfl rfl 0 (by decide) w_0 (fun _ h9 => h9) rfl dX9_follow_34 ?_
        refine lv_bipush (v := 13) hx hb dX9_follow_37 (by decide) ?_
        refine lv_iconst (v := 0) hx hb dX9_follow_39 (by decide) ?_
        refine ra_st hx hb hK hP hD hS 1 0 rfl rfl (j := 13) (rfl : (13 : Int32) = nI 13) (by omega) (by omega) dX9_follow_40 (fun H locs hP hD hS => ?_)
        have hP : va_P (dC, dI) vwCl [(q0, .inr (9, [.ref q1, .ref q2, .int svc, .ref q3, .int tl, .int cde, .int mm, .int mr, .ref q4, .int ati, .int ors, .ref q5, .ref q6])), (q1, .inl (cyI, 246, .inl (upd f_15 13 (0 : Int32)))), (q2, .inl (cyI, 984, .inl zv)), (q3, .inl (cyI, 80, .inl zt)), (q4, .inl (cyI, 5, .inl zp)), (q5, .inl (cyI, 40, .inl zm)), (q6, .inl (cyI, 40, .inl zk))] H := hP
        have hD : va_D A [(q0, .inr (9, [.ref q1, .ref q2, .int svc, .ref q3, .int tl, .int cde, .int mm, .int mr, .ref q4, .int ati, .int ors, .ref q5, .ref q6])), (q1, .inl (cyI, 246, .inl (upd f_15 13 (0 : Int32)))), (q2, .inl (cyI, 984, .inl zv)), (q3, .inl (cyI, 80, .inl zt)), (q4, .inl (cyI, 5, .inl zp)), (q5, .inl (cyI, 40, .inl zm)), (q6, .inl (cyI, 40, .inl zk))] := hD
        obtain ⟨f_16, ef_16⟩ : ∃ y : Nat → Int32, y = upd f_15 13 (0 : Int32) := ⟨_, rfl⟩
        rw [← ef_16] at hP hD
        have hE := hE.trans (spLet_eq ef_16)
        have hq : mG f_16 := by rw [ef_16]; exact hp.upd fun _ => ⟨by decide, by decide⟩
        exact J41 f_16 hq _ _ hP hD hS ls (lv_sub hl [0, 2] rfl) hE
def m_move_j61 (k3_4 : Nat) (rec4 : Int32 → Nat → Int32 → Int32 → (Nat → Int32) → (Nat → Int32) → (Int32 × Int32 × Int32 × (Nat → Int32) × (Nat → Int32))) (v2_61 : Int32) (w0_6_61 : Int32) (w0_7_61 : Int32) (w1_a_61 : Nat → Int32) (w4_a_61 : Nat → Int32) : Int32 × Int32 × Int32 × (Nat → Int32) × (Nat → Int32) :=
  rec4 v2_61 (k3_4 + 1) w0_6_61 w0_7_61 w1_a_61 w4_a_61
def m_move_b4 (mos : Int32) (rec4 : Int32 → Nat → Int32 → Int32 → (Nat → Int32) → (Nat → Int32) → (Int32 × Int32 × Int32 × (Nat → Int32) × (Nat → Int32))) : Int32 → Nat → Int32 → Int32 → (Nat → Int32) → (Nat → Int32) → (Int32 × Int32 × Int32 × (Nat → Int32) × (Nat → Int32)) :=
  fun v2_4 k3_4 w0_6_4 w0_7_4 w1_a_4 w4_a_4 => if 8 ≤ k3_4 then ((v2_4, w0_6_4, w0_7_4, w1_a_4, w4_a_4)) else (if ((mos >>> ((nI k3_4) &&& 31)) &&& (1 : Int32)) = (1 : Int32) then (spLet (m_isPermitted w0_6_4 w0_7_4 w1_a_4 w4_a_4 (nI k3_4)) (fun u_3 => if (u_3.1) = 0 then (spLet ((v2_4 ||| ((1 : Int32) <<< ((nI k3_4) &&& 31)))) (fun x_6 => if (((w1_a_4 11) >>> ((nI k3_4) &&& 31)) &&& (1 : Int32)) = 0 then (spLet (m_log w1_a_4 (0 : Int32) (nI k3_4)) (fun u_8 => m_move_j61 k3_4 rec4 x_6 (u_3.2.1) (u_3.2.2.1) u_8 (u_3.2.2.2))) else (m_move_j61 k3_4 rec4 x_6 (u_3.2.1) (u_3.2.2.1) w1_a_4 (u_3.2.2.2)))) else (spLet (m_carry w1_a_4 (nI k3_4)) (fun u_9 => m_move_j61 k3_4 rec4 v2_4 (u_3.2.1) (u_3.2.2.1) u_9 (u_3.2.2.2))))) else (m_move_j61 k3_4 rec4 v2_4 w0_6_4 w0_7_4 w1_a_4 w4_a_4))
def m_move (mm : Int32) (mr : Int32) (zs : Nat → Int32) (zp : Nat → Int32) (mos : Int32) : Int32 × Int32 × Int32 × (Nat → Int32) × (Nat → Int32) :=
  spIter (fun _ _ _ _ _ _ => default) (m_move_b4 mos) 9 (0 : Int32) 0 mm mr zs zp
set_option maxHeartbeats 1000000 in
set_option maxRecDepth 100000 in
theorem c_X9_move (l : Launch) (dC : Nat → ClassId) (dI : Nat → Nat → Nat) (cyI : ClassId) (sz : Nat) (q0 : Nat) (q1 : Nat) (q2 : Nat) (q3 : Nat) (q4 : Nat) (q5 : Nat) (q6 : Nat) (svc : Int32) (tl : Int32) (cde : Int32) (mm : Int32) (mr : Int32) (ati : Int32) (ors : Int32) (zs : Nat → Int32) (zv : Nat → Int32) (zt : Nat → Int32) (zp : Nat → Int32) (zm : Nat → Int32) (zk : Nat → Int32) (mos : Int32) (hG : mG zs) : Met l yX9_move wqX9_move ({ frames := 10, cells := 0, slots := 0, locals := 214 } : Room) (va_Pc [.ref q0, .int mos] (pC (dC, dI) [(q0, .inr (9, [.ref q1, .ref q2, .int svc, .ref q3, .int tl, .int cde, .int mm, .int mr, .ref q4, .int ati, .int ors, .ref q5, .ref q6])), (q1, .inl (cyI, 246, .inl zs)), (q2, .inl (cyI, 984, .inl zv)), (q3, .inl (cyI, 80, .inl zt)), (q4, .inl (cyI, 5, .inl zp)), (q5, .inl (cyI, 40, .inl zm)), (q6, .inl (cyI, 40, .inl zk))] [(cyI, .int)] eM sz)) (va_Qi (fun (r : Int32) (u : Int32 × Int32 × Int32 × (Nat → Int32) × (Nat → Int32)) => u = (m_move mm mr zs zp mos) ∧ r = u.1) (fun (u : Int32 × Int32 × Int32 × (Nat → Int32) × (Nat → Int32)) t => va_P (dC, dI) vwCl [(q0, .inr (9, [.ref q1, .ref q2, .int svc, .ref q3, .int tl, .int cde, .int (u.2.1), .int (u.2.2.1), .ref q4, .int ati, .int ors, .ref q5, .ref q6])), (q1, .inl (cyI, 246, .inl (u.2.2.2.1))), (q2, .inl (cyI, 984, .inl zv)), (q3, .inl (cyI, 80, .inl zt)), (q4, .inl (cyI, 5, .inl (u.2.2.2.2))), (q5, .inl (cyI, 40, .inl zm)), (q6, .inl (cyI, 40, .inl zk))] t.heap ∧ va_D (va_A [(q0, .inr (9, [.ref q1, .ref q2, .int svc, .ref q3, .int tl, .int cde, .int mm, .int mr, .ref q4, .int ati, .int ors, .ref q5, .ref q6])), (q1, .inl (cyI, 246, .inl zs)), (q2, .inl (cyI, 984, .inl zv)), (q3, .inl (cyI, 80, .inl zt)), (q4, .inl (cyI, 5, .inl zp)), (q5, .inl (cyI, 40, .inl zm)), (q6, .inl (cyI, 40, .inl zk))] sz) [(q0, .inr (9, [.ref q1, .ref q2, .int svc, .ref q3, .int tl, .int cde, .int (u.2.1), .int (u.2.2.1), .ref q4, .int ati, .int ors, .ref q5, .ref q6])), (q1, .inl (cyI, 246, .inl (u.2.2.2.1))), (q2, .inl (cyI, 984, .inl zv)), (q3, .inl (cyI, 80, .inl zt)), (q4, .inl (cyI, 5, .inl (u.2.2.2.2))), (q5, .inl (cyI, 40, .inl zm)), (q6, .inl (cyI, 40, .inl zk))]) (va_A [(q0, .inr (9, [.ref q1, .ref q2, .int svc, .ref q3, .int tl, .int cde, .int mm, .int mr, .ref q4, .int ati, .int ors, .ref q5, .ref q6])), (q1, .inl (cyI, 246, .inl zs)), (q2, .inl (cyI, 984, .inl zv)), (q3, .inl (cyI, 80, .inl zt)), (q4, .inl (cyI, 5, .inl zp)), (q5, .inl (cyI, 40, .inl zm)), (q6, .inl (cyI, 40, .inl zk))] sz)) 0 0 (va_A [(q0, .inr (9, [.ref q1, .ref q2, .int svc, .ref q3, .int tl, .int cde, .int mm, .int mr, .ref q4, .int ati, .int ors, .ref q5, .ref q6])), (q1, .inl (cyI, 246, .inl zs)), (q2, .inl (cyI, 984, .inl zv)), (q3, .inl (cyI, 80, .inl zt)), (q4, .inl (cyI, 5, .inl zp)), (q5, .inl (cyI, 40, .inl zm)), (q6, .inl (cyI, 40, .inl zk))] sz) := by
  refine Met.ofW (cc := cX9_move) (maxL := 4) (ret := (some .int)) (by decide) rfl ?_
  intro p e s m args below meth c s₁ B hml hv
  obtain ⟨rfl, hsz, hP, hK, hD0, he⟩ := hv
  have hx := B.exec
  have hb := B.bytes
  have hr := B.returns
  have hts := atoms_spec (ws := wqX9_move) B.pre
  have hown : s.vm.findClass RX9 = some m.cls := findClass_of_methodNamed B.named
  have hlocks := B.notSynchronized
  have w_0 := hts (Cond.fieldLink RX9 7 "CraneLimiterModel" "s" "[I") (List.mem_cons_of_mem _ b_93)
  have i_X9 : ∀ w ∈ u_ws RX9 TX9 13, w ∈ wqX9_move := fun w h => List.mem_cons_of_mem _ (bX9 w h)
  subst hsz
  have hD := hD0.self (sz := s.heap.size)
  generalize hAe : va_A [(q0, .inr (9, [.ref q1, .ref q2, .int svc, .ref q3, .int tl, .int cde, .int mm, .int mr, .ref q4, .int ati, .int ors, .ref q5, .ref q6])), (q1, .inl (cyI, 246, .inl zs)), (q2, .inl (cyI, 984, .inl zv)), (q3, .inl (cyI, 80, .inl zt)), (q4, .inl (cyI, 5, .inl zp)), (q5, .inl (cyI, 40, .inl zm)), (q6, .inl (cyI, 40, .inl zk))] s.heap.size = A at hD he ⊢
  have hA : ∀ q : Nat, s.heap.size ≤ q → A q := fun q h => by rw [← hAe]; exact Or.inr h
  have hS : va_S A s.heap s.heap [] := va_S.rf
  have hP : va_P (dC, dI) vwCl [(q0, .inr (9, [.ref q1, .ref q2, .int svc, .ref q3, .int tl, .int cde, .int mm, .int mr, .ref q4, .int ati, .int ors, .ref q5, .ref q6])), (q1, .inl (cyI, 246, .inl zs)), (q2, .inl (cyI, 984, .inl zv)), (q3, .inl (cyI, 80, .inl zt)), (q4, .inl (cyI, 5, .inl zp)), (q5, .inl (cyI, 40, .inl zm)), (q6, .inl (cyI, 40, .inl zk))] s.heap := hP
  have hl := lv_entry ([.ref q0, .int mos] : List Value) (n := 4) (Nat.le_of_ble_eq_true rfl)
  rw [lg_entry_eq]
  generalize (lg_sl ([.ref q0, .int mos] : List Value) ++ List.replicate (4 - (lg_sl ([.ref q0, .int mos] : List Value)).length) Slot.unset).toArray = ls at hl ⊢
  have hl : lv_has ls 4 [(0, .ref q0), (1, .int mos)] := hl
  have hE : m_move mm mr zs zp mos = m_move mm mr zs zp mos := rfl
  refine lv_iconst (v := 0) hx hb dX9_move_0 (by decide) ?_
  refine lv_istore_n (lv' := [(2, .int (0 : Int32)), (0, .ref q0), (1, .int mos)]) hx hb dX9_move_1 rfl hl (by decide) rfl (fun ls hl => ?_)
  refine lv_iconst (v := 0) hx hb dX9_move_2 (by decide) ?_
  refine lv_istore_n (lv' := [(3, .int (0 : Int32)), (2, .int (0 : Int32)), (0, .ref q0), (1, .int mos)]) hx hb dX9_move_3 rfl hl (by decide) rfl (fun ls hl => ?_)
  have L4 : ∀ (n4 : Nat) (v2_4 : Int32) (k3_4 : Nat) (w0_6_4 : Int32) (w0_7_4 : Int32) (w1_a_4 : Nat → Int32) (w4_a_4 : Nat → Int32) (hi : mG w1_a_4 ∧ k3_4 ≤ 8 ∧ 8 < k3_4 + n4) (H : Heap) (locs : List Loc) (hP : va_P (dC, dI) vwCl [(q0, .inr (9, [.ref q1, .ref q2, .int svc, .ref q3, .int tl, .int cde, .int w0_6_4, .int w0_7_4, .ref q4, .int ati, .int ors, .ref q5, .ref q6])), (q1, .inl (cyI, 246, .inl w1_a_4)), (q2, .inl (cyI, 984, .inl zv)), (q3, .inl (cyI, 80, .inl zt)), (q4, .inl (cyI, 5, .inl w4_a_4)), (q5, .inl (cyI, 40, .inl zm)), (q6, .inl (cyI, 40, .inl zk))] H) (hD : va_D A [(q0, .inr (9, [.ref q1, .ref q2, .int svc, .ref q3, .int tl, .int cde, .int w0_6_4, .int w0_7_4, .ref q4, .int ati, .int ors, .ref q5, .ref q6])), (q1, .inl (cyI, 246, .inl w1_a_4)), (q2, .inl (cyI, 984, .inl zv)), (q3, .inl (cyI, 80, .inl zt)), (q4, .inl (cyI, 5, .inl w4_a_4)), (q5, .inl (cyI, 40, .inl zm)), (q6, .inl (cyI, 40, .inl zk))]) (hS : va_S A s.heap H locs) (ls : Array Slot) (hl : lv_has ls 4 [(0, .ref q0), (1, .int mos), (2, .int v2_4), (3, .int (nI k3_4))]) (hE : (m_move mm mr zs zp mos) = spIter (fun _ _ _ _ _ _ => default) (m_move_b4 mos) n4 v2_4 k3_4 w0_6_4 w0_7_4 w1_a_4 w4_a_4), W p l e (headSpec wqX9_move ({ frames := 10, cells := 0, slots := 0, locals := 214 } : Room)).room s m ([.ref q0, .int mos] : List Value).toArray below meth c H locs 0 0 (MQ below (va_Qi (fun (r : Int32) (u : Int32 × Int32 × Int32 × (Nat → Int32) × (Nat → Int32)) => u = (m_move mm mr zs zp mos) ∧ r = u.1) (fun (u : Int32 × Int32 × Int32 × (Nat → Int32) × (Nat → Int32)) t => va_P (dC, dI) vwCl [(q0, .inr (9, [.ref q1, .ref q2, .int svc, .ref q3, .int tl, .int cde, .int (u.2.1), .int (u.2.2.1), .ref q4, .int ati, .int ors, .ref q5, .ref q6])), (q1, .inl (cyI, 246, .inl (u.2.2.2.1))), (q2, .inl (cyI, 984, .inl zv)), (q3, .inl (cyI, 80, .inl zt)), (q4, .inl (cyI, 5, .inl (u.2.2.2.2))), (q5, .inl (cyI, 40, .inl zm)), (q6, .inl (cyI, 40, .inl zk))] t.heap ∧ va_D A [(q0, .inr (9, [.ref q1, .ref q2, .int svc, .ref q3, .int tl, .int cde, .int (u.2.1), .int (u.2.2.1), .ref q4, .int ati, .int ors, .ref q5, .ref q6])), (q1, .inl (cyI, 246, .inl (u.2.2.2.1))), (q2, .inl (cyI, 984, .inl zv)), (q3, .inl (cyI, 80, .inl zt)), (q4, .inl (cyI, 5, .inl (u.2.2.2.2))), (q5, .inl (cyI, 40, .inl zm)), (q6, .inl (cyI, 40, .inl zk))]) A) ([.ref q0, .int mos] : List Value).toArray s 0 0 A) (F0 m 4 ls []) := by
    intro n4
    induction n4 with
    | zero =>
      intro v2_4 k3_4 w0_6_4 w0_7_4 w1_a_4 w4_a_4 hi H locs hP hD hS ls hl hE
      exact absurd hi (by omega)
    | succ n4 ih4 =>
      intro v2_4 k3_4 w0_6_4 w0_7_4 w1_a_4 w4_a_4 hi H locs hP hD hS ls hl hE
      have hE : (m_move mm mr zs zp mos) = m_move_b4 mos (spIter (fun _ _ _ _ _ _ => default) (m_move_b4 mos) n4) v2_4 k3_4 w0_6_4 w0_7_4 w1_a_4 w4_a_4 := hE
      refine lv_iload_n hx hb dX9_move_4 rfl (lv_at hl 3 rfl) ?_
      refine lv_bipush (v := 8) hx hb dX9_move_5 (by decide) ?_
      refine lv_icmp_ge (tgt := 67) hx hb dX9_move_7 (by decide) (fun c_1 => ?_) (fun c_1 => ?_)
      ·
        have c_1 : 8 ≤ k3_4 := by
          have h1 : ((nI k3_4)) = nI k3_4 := rfl
          have h2 : ((8 : Int32)) = nI 8 := rfl
          have h3 : (nI 8 ≤ nI k3_4) := by first | exact c_1 | (rw [← h1, ← h2]; exact c_1)
          exact (nI_leI (by omega) (by omega)).mp h3
        have hE := hE.trans (if_pos c_1)
        refine lv_iload_n hx hb dX9_move_67 rfl (lv_at hl 2 rfl) ?_
        exact W.iret (v := v2_4) hx hb hr (fun t h9 hW => ⟨⟨v2_4, ((v2_4, w0_6_4, w0_7_4, w1_a_4, w4_a_4) : Int32 × Int32 × Int32 × (Nat → Int32) × (Nat → Int32)), rfl, ⟨hE.symm, rfl⟩, by rw [h9]; exact hP, hD⟩, hS.F h9⟩) hS.2.2 dX9_move_68
      ·
        have c_1 : ¬ 8 ≤ k3_4 := by
          have h1 : ((nI k3_4)) = nI k3_4 := rfl
          have h2 : ((8 : Int32)) = nI 8 := rfl
          have h3 : ¬ (nI 8 ≤ nI k3_4) := by first | exact c_1 | (rw [← h1, ← h2]; exact c_1)
          exact fun h => h3 ((nI_leI (by omega) (by omega)).mpr h)
        have hE := hE.trans (if_neg c_1)
        refine lv_iload_n hx hb dX9_move_10 rfl (lv_at hl 1 rfl) ?_
        refine lv_iload_n hx hb dX9_move_11 rfl (lv_at hl 3 rfl) ?_
        refine lv_ishr hx hb dX9_move_12 ?_
        refine lv_iconst (v := 1) hx hb dX9_move_13 (by decide) ?_
        refine lv_iand hx hb dX9_move_14 ?_
        refine lv_iconst (v := 1) hx hb dX9_move_15 (by decide) ?_
        have J61 : ∀ (v2_61 : Int32) (w0_6_61 : Int32) (w0_7_61 : Int32) (w1_a_61 : Nat → Int32) (w4_a_61 : Nat → Int32) (hi : mG w1_a_61) (H : Heap) (locs : List Loc) (hP : va_P (dC, dI) vwCl [(q0, .inr (9, [.ref q1, .ref q2, .int svc, .ref q3, .int tl, .int cde, .int w0_6_61, .int w0_7_61, .ref q4, .int ati, .int ors, .ref q5, .ref q6])), (q1, .inl (cyI, 246, .inl w1_a_61)), (q2, .inl (cyI, 984, .inl zv)), (q3, .inl (cyI, 80, .inl zt)), (q4, .inl (cyI, 5, .inl w4_a_61)), (q5, .inl (cyI, 40, .inl zm)), (q6, .inl (cyI, 40, .inl zk))] H) (hD : va_D A [(q0, .inr (9, [.ref q1, .ref q2, .int svc, .ref q3, .int tl, .int cde, .int w0_6_61, .int w0_7_61, .ref q4, .int ati, .int ors, .ref q5, .ref q6])), (q1, .inl (cyI, 246, .inl w1_a_61)), (q2, .inl (cyI, 984, .inl zv)), (q3, .inl (cyI, 80, .inl zt)), (q4, .inl (cyI, 5, .inl w4_a_61)), (q5, .inl (cyI, 40, .inl zm)), (q6, .inl (cyI, 40, .inl zk))]) (hS : va_S A s.heap H locs) (ls : Array Slot) (hl : lv_has ls 4 [(0, .ref q0), (1, .int mos), (2, .int v2_61), (3, .int (nI k3_4))]) (hE : (m_move mm mr zs zp mos) = m_move_j61 k3_4 (spIter (fun _ _ _ _ _ _ => default) (m_move_b4 mos) n4) v2_61 w0_6_61 w0_7_61 w1_a_61 w4_a_61), W p l e (headSpec wqX9_move ({ frames := 10, cells := 0, slots := 0, locals := 214 } : Room)).room s m ([.ref q0, .int mos] : List Value).toArray below meth c H locs 0 0 (MQ below (va_Qi (fun (r : Int32) (u : Int32 × Int32 × Int32 × (Nat → Int32) × (Nat → Int32)) => u = (m_move mm mr zs zp mos) ∧ r = u.1) (fun (u : Int32 × Int32 × Int32 × (Nat → Int32) × (Nat → Int32)) t => va_P (dC, dI) vwCl [(q0, .inr (9, [.ref q1, .ref q2, .int svc, .ref q3, .int tl, .int cde, .int (u.2.1), .int (u.2.2.1), .ref q4, .int ati, .int ors, .ref q5, .ref q6])), (q1, .inl (cyI, 246, .inl (u.2.2.2.1))), (q2, .inl (cyI, 984, .inl zv)), (q3, .inl (cyI, 80, .inl zt)), (q4, .inl (cyI, 5, .inl (u.2.2.2.2))), (q5, .inl (cyI, 40, .inl zm)), (q6, .inl (cyI, 40, .inl zk))] t.heap ∧ va_D A [(q0, .inr (9, [.ref q1, .ref q2, .int svc, .ref q3, .int tl, .int cde, .int (u.2.1), .int (u.2.2.1), .ref q4, .int ati, .int ors, .ref q5, .ref q6])), (q1, .inl (cyI, 246, .inl (u.2.2.2.1))), (q2, .inl (cyI, 984, .inl zv)), (q3, .inl (cyI, 80, .inl zt)), (q4, .inl (cyI, 5, .inl (u.2.2.2.2))), (q5, .inl (cyI, 40, .inl zm)), (q6, .inl (cyI, 40, .inl zk))]) A) ([.ref q0, .int mos] : List Value).toArray s 0 0 A) (F0 m 61 ls []) := by
          intro v2_61 w0_6_61 w0_7_61 w1_a_61 w4_a_61 hi H locs hP hD hS ls hl hE
          refine lv_iinc (v := (nI (k3_4 + 1))) (lv' := [(3, .int (nI (k3_4 + 1))), (0, .ref q0), (1, .int mos), (2, .int v2_61)]) hx hb dX9_move_61 hl (k := 3) rfl (show _ from (congrArg (fun z => z + Int32.ofInt 1) (rfl)).trans (ninc _ 1)) (by decide) rfl (fun ls hl => ?_)
          refine lv_goto (tgt := 4) hx hb dX9_move_64 (by decide) ?_
          exact ih4 v2_61 (k3_4 + 1) w0_6_61 w0_7_61 w1_a_61 w4_a_61 ⟨hi, by omega, by omega⟩ _ _ hP hD hS ls (lv_sub hl [1, 2, 3, 0] rfl) hE
        refine lv_icmp_ne (tgt := 61) hx hb dX9_move_16 (by decide) (fun c_2 => ?_) (fun c_2 => ?_)
        ·
          have hE := hE.trans (if_neg c_2)
          exact J61 v2_4 w0_6_4 w0_7_4 w1_a_4 w4_a_4 hi.1 _ _ hP hD hS ls (lv_sub hl [0, 1, 2, 3] rfl) hE
        ·
          have hE := hE.trans (if_pos c_2)
          refine lv_aload_n hx hb dX9_move_19 rfl (lv_at hl 0 rfl) ?_
          refine lv_iload_n hx hb dX9_move_20 rfl (lv_at hl 3 rfl) ?_
          refine mj_i (wr := []) (va_runV (As := [.int (nI k3_4)]) (rest := []) ⟨hx, hb, hml, hown, hts⟩ (c_X9_isPermitted l dC dI cyI H.size q0 q1 q2 q3 q4 q5 q6 svc tl cde w0_6_4 w0_7_4 ati ors w1_a_4 zv zt w4_a_4 zm zk (nI k3_4) hi.1) (cwV 1 hts (gBV b_641 b_642 b_643 b_5 b_644) rfl rfl rfl (by decide +kernel) ⟨Nat.le_of_ble_eq_true rfl, Nat.le_of_ble_eq_true rfl⟩) (prm_v eM_ok he hS hP hD hK (va_free (wc := [(q0, .inr (9, [.ref q1, .ref q2, .int svc, .ref q3, .int tl, .int cde, .int w0_6_4, .int w0_7_4, .ref q4, .int ati, .int ors, .ref q5, .ref q6])), (q1, .inl (cyI, 246, .inl w1_a_4)), (q2, .inl (cyI, 984, .inl zv)), (q3, .inl (cyI, 80, .inl zt)), (q4, .inl (cyI, 5, .inl w4_a_4)), (q5, .inl (cyI, 40, .inl zm)), (q6, .inl (cyI, 40, .inl zk))]) hD hS hA [0, 1, 2, 3, 4, 5, 6] rfl) 0 rfl rfl rfl) rfl rfl hl.1 rfl (lv_room (Nat.le_of_ble_eq_true rfl)) dX9_move_21 ⟨Nat.le_of_ble_eq_true rfl, Nat.le_of_ble_eq_true rfl⟩) hP hD hS hA [0, 1, 2, 3, 4, 5, 6] [] rfl rfl (by decide) (by decide) (fun r_4 u_3 H locs hw hP hD hS => ?_)
          obtain ⟨hu_3, rfl, hbu_3⟩ := hw
          have hE := hE.trans (spLet_eq hu_3)
          have hP : va_P (dC, dI) vwCl [(q0, .inr (9, [.ref q1, .ref q2, .int svc, .ref q3, .int tl, .int cde, .int (u_3.2.1), .int (u_3.2.2.1), .ref q4, .int ati, .int ors, .ref q5, .ref q6])), (q1, .inl (cyI, 246, .inl w1_a_4)), (q2, .inl (cyI, 984, .inl zv)), (q3, .inl (cyI, 80, .inl zt)), (q4, .inl (cyI, 5, .inl (u_3.2.2.2))), (q5, .inl (cyI, 40, .inl zm)), (q6, .inl (cyI, 40, .inl zk))] H := hP
          have hD : va_D A [(q0, .inr (9, [.ref q1, .ref q2, .int svc, .ref q3, .int tl, .int cde, .int (u_3.2.1), .int (u_3.2.2.1), .ref q4, .int ati, .int ors, .ref q5, .ref q6])), (q1, .inl (cyI, 246, .inl w1_a_4)), (q2, .inl (cyI, 984, .inl zv)), (q3, .inl (cyI, 80, .inl zt)), (q4, .inl (cyI, 5, .inl (u_3.2.2.2))), (q5, .inl (cyI, 40, .inl zm)), (q6, .inl (cyI, 40, .inl zk))] := hD
          refine lv_if_eq (tgt := 35) hx hb dX9_move_24 (by decide) (fun c_5 => ?_) (fun c_5 => ?_)
          ·
            have hE := hE.trans (if_pos c_5)
            refine lv_iload_n hx hb dX9_move_35 rfl (lv_at hl 2 rfl) ?_
            refine lv_iconst (v := 1) hx hb dX9_move_36 (by decide) ?_
            refine lv_iload_n hx hb dX9_move_37 rfl (lv_at hl 3 rfl) ?_
            refine lv_ishl hx hb dX9_move_38 ?_
            refine lv_ior hx hb dX9_move_39 ?_
            refine lv_topi (fun x_6 ex_6 => ?_)
            have hE := hE.trans (spLet_eq ex_6)
            refine lv_istore_n (lv' := [(2, .int x_6), (0, .ref q0), (1, .int mos), (3, .int (nI k3_4))]) hx hb dX9_move_40 rfl hl (by decide) rfl (fun ls hl => ?_)
            refine lv_aload_n hx hb dX9_move_41 rfl (lv_at hl 1 rfl) ?_
            refine va_get (D := (dC, dI)) (ci := 9) (v := .ref q1) (C := RX9) (T := TX9) (N := 13) hx hb hts i_X9 hown hK hP 0 rfl rfl 0 (by decide) w_0 (fun _ h9 => h9) rfl dX9_move_42 ?_
            refine lv_bipush (v := 11) hx hb dX9_move_45 (by decide) ?_
            refine ra_ld hx hb hK hP 1 0 rfl rfl (j := 11) (rfl : (11 : Int32) = nI 11) (by omega) (by omega) dX9_move_47 ?_
            refine lv_iload_n hx hb dX9_move_48 rfl (lv_at hl 3 rfl) ?_
            refine lv_ishr hx hb dX9_move_49 ?_
            refine lv_iconst (v := 1) hx hb dX9_move_50 (by decide) ?_
            refine lv_iand hx hb dX9_move_51 ?_
            refine lv_if_ne (tgt := 61) hx hb dX9_move_52 (by decide) (fun c_7 => ?_) (fun c_7 => ?_)
            ·
              have hE := hE.trans (if_neg c_7)
              exact J61 x_6 (u_3.2.1) (u_3.2.2.1) w1_a_4 (u_3.2.2.2) hi.1 _ _ hP hD hS ls (lv_sub hl [1, 2, 0, 3] rfl) hE
            ·
              have hE := hE.trans (if_pos c_7)
              refine lv_aload_n hx hb dX9_move_55 rfl (lv_at hl 1 rfl) ?_
              refine lv_iconst (v := 0) hx hb dX9_move_56 (by decide) ?_
              refine lv_iload_n hx hb dX9_move_57 rfl (lv_at hl 3 rfl) ?_
              refine mj_v (wr := []) (va_runV (As := [.int (0 : Int32), .int (nI k3_4)]) (rest := []) ⟨hx, hb, hml, hown, hts⟩ (c_X9_log l dC dI cyI H.size q0 q1 q2 q3 q4 q5 q6 svc tl cde (u_3.2.1) (u_3.2.2.1) ati ors w1_a_4 zv zt (u_3.2.2.2) zm zk (0 : Int32) (nI k3_4) hi.1.ev.1 hi.1.ev.2) (cwV 2 hts (gBV b_732 b_733 b_734 b_5 b_735) rfl rfl rfl (by decide +kernel) ⟨Nat.le_of_ble_eq_true rfl, Nat.le_of_ble_eq_true rfl⟩) (prm_v eM_ok he hS hP hD hK (va_free (wc := [(q0, .inr (9, [.ref q1, .ref q2, .int svc, .ref q3, .int tl, .int cde, .int (u_3.2.1), .int (u_3.2.2.1), .ref q4, .int ati, .int ors, .ref q5, .ref q6])), (q1, .inl (cyI, 246, .inl w1_a_4)), (q2, .inl (cyI, 984, .inl zv)), (q3, .inl (cyI, 80, .inl zt)), (q4, .inl (cyI, 5, .inl (u_3.2.2.2))), (q5, .inl (cyI, 40, .inl zm)), (q6, .inl (cyI, 40, .inl zk))]) hD hS hA [0, 1, 2, 3, 4, 5, 6] rfl) 0 rfl rfl rfl) rfl rfl hl.1 rfl (lv_room (Nat.le_of_ble_eq_true rfl)) dX9_move_58 ⟨Nat.le_of_ble_eq_true rfl, Nat.le_of_ble_eq_true rfl⟩) hP hD hS hA [0, 1, 2, 3, 4, 5, 6] [] rfl rfl (by decide) (by decide) (fun u_8 H locs hw hP hD hS => ?_)
              have hu_8 := hw
              have hE := hE.trans (spLet_eq hu_8)
              have hP : va_P (dC, dI) vwCl [(q0, .inr (9, [.ref q1, .ref q2, .int svc, .ref q3, .int tl, .int cde, .int (u_3.2.1), .int (u_3.2.2.1), .ref q4, .int ati, .int ors, .ref q5, .ref q6])), (q1, .inl (cyI, 246, .inl u_8)), (q2, .inl (cyI, 984, .inl zv)), (q3, .inl (cyI, 80, .inl zt)), (q4, .inl (cyI, 5, .inl (u_3.2.2.2))), (q5, .inl (cyI, 40, .inl zm)), (q6, .inl (cyI, 40, .inl zk))] H := hP
              have hD : va_D A [(q0, .inr (9, [.ref q1, .ref q2, .int svc, .ref q3, .int tl, .int cde, .int (u_3.2.1), .int (u_3.2.2.1), .ref q4, .int ati, .int ors, .ref q5, .ref q6])), (q1, .inl (cyI, 246, .inl u_8)), (q2, .inl (cyI, 984, .inl zv)), (q3, .inl (cyI, 80, .inl zt)), (q4, .inl (cyI, 5, .inl (u_3.2.2.2))), (q5, .inl (cyI, 40, .inl zm)), (q6, .inl (cyI, 40, .inl zk))] := hD
              exact J61 x_6 (u_3.2.1) (u_3.2.2.1) u_8 (u_3.2.2.2) (by rw [hu_8]; exact log_G hi.1 _ _) _ _ hP hD hS ls (lv_sub hl [1, 2, 0, 3] rfl) hE
          ·
            have hE := hE.trans (if_neg c_5)
            refine lv_aload_n hx hb dX9_move_27 rfl (lv_at hl 0 rfl) ?_
            refine lv_iload_n hx hb dX9_move_28 rfl (lv_at hl 3 rfl) ?_
            refine mj_v (wr := []) (va_runV (As := [.int (nI k3_4)]) (rest := []) ⟨hx, hb, hml, hown, hts⟩ (c_X9_carry l dC dI cyI H.size q0 q1 q2 q3 q4 q5 q6 svc tl cde (u_3.2.1) (u_3.2.2.1) ati ors w1_a_4 zv zt (u_3.2.2.2) zm zk (nI k3_4)) (cwV 1 hts (gBV b_657 b_658 b_659 b_5 b_660) rfl rfl rfl (by decide +kernel) ⟨Nat.le_of_ble_eq_true rfl, Nat.le_of_ble_eq_true rfl⟩) (prm_v eM_ok he hS hP hD hK (va_free (wc := [(q0, .inr (9, [.ref q1, .ref q2, .int svc, .ref q3, .int tl, .int cde, .int (u_3.2.1), .int (u_3.2.2.1), .ref q4, .int ati, .int ors, .ref q5, .ref q6])), (q1, .inl (cyI, 246, .inl w1_a_4)), (q2, .inl (cyI, 984, .inl zv)), (q3, .inl (cyI, 80, .inl zt)), (q4, .inl (cyI, 5, .inl (u_3.2.2.2))), (q5, .inl (cyI, 40, .inl zm)), (q6, .inl (cyI, 40, .inl zk))]) hD hS hA [0, 1, 2, 3, 4, 5, 6] rfl) 0 rfl rfl rfl) rfl rfl hl.1 rfl (lv_room (Nat.le_of_ble_eq_true rfl)) dX9_move_29 ⟨Nat.le_of_ble_eq_true rfl, Nat.le_of_ble_eq_true rfl⟩) hP hD hS hA [0, 1, 2, 3, 4, 5, 6] [] rfl rfl (by decide) (by decide) (fun u_9 H locs hw hP hD hS => ?_)
            have hu_9 := hw
            have hE := hE.trans (spLet_eq hu_9)
            have hP : va_P (dC, dI) vwCl [(q0, .inr (9, [.ref q1, .ref q2, .int svc, .ref q3, .int tl, .int cde, .int (u_3.2.1), .int (u_3.2.2.1), .ref q4, .int ati, .int ors, .ref q5, .ref q6])), (q1, .inl (cyI, 246, .inl u_9)), (q2, .inl (cyI, 984, .inl zv)), (q3, .inl (cyI, 80, .inl zt)), (q4, .inl (cyI, 5, .inl (u_3.2.2.2))), (q5, .inl (cyI, 40, .inl zm)), (q6, .inl (cyI, 40, .inl zk))] H := hP
            have hD : va_D A [(q0, .inr (9, [.ref q1, .ref q2, .int svc, .ref q3, .int tl, .int cde, .int (u_3.2.1), .int (u_3.2.2.1), .ref q4, .int ati, .int ors, .ref q5, .ref q6])), (q1, .inl (cyI, 246, .inl u_9)), (q2, .inl (cyI, 984, .inl zv)), (q3, .inl (cyI, 80, .inl zt)), (q4, .inl (cyI, 5, .inl (u_3.2.2.2))), (q5, .inl (cyI, 40, .inl zm)), (q6, .inl (cyI, 40, .inl zk))] := hD
            refine lv_goto (tgt := 61) hx hb dX9_move_32 (by decide) ?_
            exact J61 v2_4 (u_3.2.1) (u_3.2.2.1) u_9 (u_3.2.2.2) (by rw [hu_9]; exact carry_G hi.1 _) _ _ hP hD hS ls (lv_sub hl [0, 1, 2, 3] rfl) hE
  exact L4 9 (0 : Int32) 0 mm mr zs zp ⟨hG, by omega, by omega⟩ _ _ hP hD hS ls (lv_sub hl [2, 3, 1, 0] rfl) hE

