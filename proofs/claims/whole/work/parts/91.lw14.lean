/-- behind both sides' calls that cannot be refused -/
theorem lw_cmp {p : Program} {l : Launch} {e : Env} {s : State} {m : MethodId} {b : Nat} {below : List Frame} {meth : Method} {c : Code} {dC : Nat → ClassId} {dI : Nat → Nat → Nat} {cyI cyS cyJ : ClassId} {qo : Nat} {Q aX aS : Nat → Nat} {Z : State → Prop} {H : Heap} {locs : List Loc} {ls : Array Slot} {cells slots i n : Nat} {of : Nat → Int64} {v : MS} {cc : CS} (hx : p.tables.exec = Jvm.exec) (hb : c.code = cL_law) {t : Nat} {r r2 : Int32} {off : Int} (hP : va_P (dC, dI) vwCl (LW cyI cyS cyJ qo Q aX aS of v cc) H) (hD : va_D (lA s) (LW cyI cyS cyJ qo Q aX aS of v cc)) (hS : va_S (lA s) s.heap H locs) (hl : lv_has ls 7 (lwL b (aX 0) (Q 0) qo i)) (hr : r = r2) (hR : LR n cc v) {cells' slots' : Nat} (hc : cells ≤ cells') (hs : slots ≤ slots')
    (kk : LK p l e s m below meth c b dC dI cyI cyS cyJ qo Q aX aS Z i n cells' slots') (d0 : decode cL_law t = .ok (.if_icmp .eq off, 3)) (ho : ((t : Nat) : Int) + off = ((1784 : Nat) : Int)) :
    W p l e room_1 s m #[Value.ref b] below meth c H locs cells slots Z (F0 m t ls [.int r2, .int r]) :=
  lv_icmp_eq (tgt := 1784) hx hb d0 ho (fun _ => W.widen (k := cells') (n := slots') hc hs (kk H locs of v cc ls hP hD hS hl hR)) (fun h => absurd hr h)
theorem lw_cmpL {p : Program} {l : Launch} {e : Env} {s : State} {m : MethodId} {b : Nat} {below : List Frame} {meth : Method} {c : Code} {dC : Nat → ClassId} {dI : Nat → Nat → Nat} {cyI cyS cyJ : ClassId} {qo : Nat} {Q aX aS : Nat → Nat} {Z : State → Prop} {H : Heap} {locs : List Loc} {ls : Array Slot} {cells slots i n : Nat} {of : Nat → Int64} {v : MS} {cc : CS} (hx : p.tables.exec = Jvm.exec) (hb : c.code = cL_law) {r r2 : Int64} (hP : va_P (dC, dI) vwCl (LW cyI cyS cyJ qo Q aX aS of v cc) H) (hD : va_D (lA s) (LW cyI cyS cyJ qo Q aX aS of v cc)) (hS : va_S (lA s) s.heap H locs) (hl : lv_has ls 7 (lwL b (aX 0) (Q 0) qo i)) (hr : r = r2) (hR : LR n cc v) {cells' slots' : Nat} (hc : cells ≤ cells') (hs : slots ≤ slots')
    (kk : LK p l e s m below meth c b dC dI cyI cyS cyJ qo Q aX aS Z i n cells' slots') :
    W p l e room_1 s m #[Value.ref b] below meth c H locs cells slots Z (F0 m 1778 ls [.long r2, .long r]) := by
  refine W.lcmp hx hb dL_law_1778 ?_
  exact lv_if_eq (tgt := 1784) hx hb dL_law_1779 (by decide) (fun _ => W.widen (k := cells') (n := slots') hc hs (kk H locs of v cc ls hP hD hS hl hR)) (fun h => absurd ((lg_cmp_eq _ _).mpr hr) h)
section LD
variable {p : Program} {l : Launch} {e : Env} {s : State} {m : MethodId} {b L : Nat} {xs : Nat → Int32} {below : List Frame} {meth : Method} {c : Code} {dC : Nat → ClassId} {dI : Nat → Nat → Nat} {cyI cyS cyJ : ClassId} {qo : Nat} {Q aX aS : Nat → Nat} {Z : State → Prop}
set_option maxRecDepth 100000 in
set_option maxHeartbeats 4000000 in
theorem lc_1 (C0 : LCx p l s m meth c b L xs dC dI cyI cyS cyJ) : LT p l e s m below meth c b L dC dI cyI cyS cyJ qo Q aX aS Z 240 := by
  intro H locs of v cc ls i n cells slots hP hD hS hl hR hn hi hc hs kk
  obtain ⟨iv, av, nm, ro, fa⟩ := cc
  obtain ⟨hx, hb, hr, hml, hown, hts, hX, hbl, hL, hst, hK, he⟩ := id C0
  have hA : ∀ q : Nat, s.heap.size ≤ q → lA s q := fun _ h => h
  have step2 : ∀ (r wh wh2 : Int32) (c1 : CS) (H : Heap) (locs : List Loc), wh2 = wh → (∃ svm' w zv', m_setOnWheels (v.1 0) (v.2 0) (v.2 1) wh = (r, svm', 0, w, zv') ∧ relC n c1 svm' zv' w ∧ kpT (iv, av, nm, ro, fa) c1) → va_P (dC, dI) vwCl (LW cyI cyS cyJ qo Q aX aS of v c1) H → va_D (lA s) (LW cyI cyS cyJ qo Q aX aS of v c1) → va_S (lA s) s.heap H locs → W p l e room_1 s m #[Value.ref b] below meth c H locs (cells + 15) (slots + 260) Z (F0 m 273 ls [.int wh2, .ref (Q 0), .int r]) := by
    intro r wh wh2 c1 H locs hwh hp0 hP hD hS
    subst hwh
    have hPm := g_P hP (lp_m (LO cyJ qo of) (MW cyI Q v) (CW cyI cyS aX aS c1))
    have hDm := g_D hD (lp_m (LO cyJ qo of) (MW cyI Q v) (CW cyI cyS aX aS c1))
    have hFm := g_F hD (lp_m (LO cyJ qo of) (MW cyI Q v) (CW cyI cyS aX aS c1)) hS hA
    refine g_calli (x1 := fun u : Int32 × Int32 × Int32 × (Nat → Int32) × (Nat → Int32) => (LO cyJ qo of) :: (MW cyI Q (i7 (u.2.1) (v.1 1) (u.2.2.1) (v.1 3) (v.1 4) (v.1 5) (v.1 6), f6 (u.2.2.2.1) (u.2.2.2.2) (v.2 2) (v.2 3) (v.2 4) (v.2 5)) ++ (CW cyI cyS aX aS c1))) (va_runV (As := [.int wh2]) (rest := [.int r]) ⟨hx, hb, hml, hown, hts⟩ (c_X9_setOnWheels l dC dI cyI H.size (Q 0) (Q 1) (Q 2) (Q 3) (Q 4) (Q 5) (Q 6) (v.1 0) (v.1 1) (v.1 2) (v.1 3) (v.1 4) (v.1 5) (v.1 6) (v.2 0) (v.2 1) (v.2 2) (v.2 3) (v.2 4) (v.2 5) wh2 hR.hsv.1 hR.hsv.2 hR.G) (cwV 1 hts (gBV b_207 b_208 b_209 b_5 b_210) rfl rfl rfl (by decide +kernel) ⟨Nat.le_of_ble_eq_true rfl, Nat.le_of_ble_eq_true rfl⟩) (prm_v eM_ok trivial hS hPm hDm (hK.sub [0] rfl) hFm 0 rfl rfl rfl) rfl rfl hl.1 rfl (lv_room (Nat.le_of_ble_eq_true rfl)) dL_law_273 ⟨(show _ ≤ 601024 by omega), (show _ ≤ 7293034 by omega)⟩) hP hD hS hA (lp_m (LO cyJ qo of) (MW cyI Q v) (CW cyI cyS aX aS c1)) (fun u => lp_m' _ _ _) (fun r2 u H locs hw2 hP hD hS => ?_)
    obtain ⟨hu, hr2, -⟩ := hw2
    subst hu
    obtain ⟨x0, x1, x2, hm, hC, hk⟩ := hp0
    rw [hm] at hP hD hr2
    exact lw_cmp hx hb hP hD hS hl hr2.symm ⟨hC.up (by omega), hR.2.kp hk⟩ (Nat.add_le_add_left (by omega : 15 ≤ 20) cells) (Nat.add_le_add_left (by omega : 260 ≤ 300) slots) kk dL_law_276 (by decide)
  have step1 : ∀ wh : Int32, wh = 0 ∨ wh = 1 → (xs (i + 1) = 0 → wh = 0) → (¬ xs (i + 1) = 0 → wh = 1) → W p l e room_1 s m #[Value.ref b] below meth c H locs cells slots Z (F0 m 255 ls [.int wh, .ref (aX 0)]) := by
    intro wh hwh w0 w1
    have hPx := g_P hP (lp_x (LO cyJ qo of) (MW cyI Q v) (CW cyI cyS aX aS (iv, av, nm, ro, fa)))
    have hDx := g_D hD (lp_x (LO cyJ qo of) (MW cyI Q v) (CW cyI cyS aX aS (iv, av, nm, ro, fa)))
    have hFx := g_F hD (lp_x (LO cyJ qo of) (MW cyI Q v) (CW cyI cyS aX aS (iv, av, nm, ro, fa))) hS hA
    refine g_calli (x1 := fun u : CS => LO cyJ qo of :: (MW cyI Q v ++ CW cyI cyS aX aS u)) (va_runV (As := [.int wh]) (rest := []) ⟨hx, hb, hml, hown, hts⟩ (CX_setOnWheels l dC dI cyI cyS aX aS hR.1 wh hwh H.size) (cwV 1 hts (gBV b_202 b_203 b_204 b_2 b_205) rfl rfl rfl (by decide +kernel) ⟨Nat.le_of_ble_eq_true rfl, Nat.le_of_ble_eq_true rfl⟩) (prm_v eX_ok he hS hPx hDx (hK.sub [0, 1] rfl) hFx 0 rfl rfl rfl) rfl rfl hl.1 rfl (lv_room (Nat.le_of_ble_eq_true rfl)) dL_law_255 ⟨(show _ ≤ 601024 by omega), (show _ ≤ 7293034 by omega)⟩) hP hD hS hA (lp_x (LO cyJ qo of) (MW cyI Q v) (CW cyI cyS aX aS (iv, av, nm, ro, fa))) (fun u => lp_x' _ _ _) (fun r c1 H locs hw hP hD hS => ?_)
    obtain ⟨-, hp0⟩ := hw
    refine lv_aload_n hx hb dL_law_258 rfl (lv_at hl 2 rfl) ?_
    refine lw_arg C0 hS hl 4 0 rfl rfl hi 1 (by decide) dL_law_259 dL_law_260 dL_law_262 dL_law_263 dL_law_264 ?_
    refine lv_if_eq (tgt := 272) hx hb dL_law_265 (by decide) (fun z => ?_) (fun z => ?_)
    · refine lv_iconst (v := 0) hx hb dL_law_272 (by decide) ?_
      exact step2 r wh 0 c1 H locs (w0 z).symm hp0 hP hD hS
    · refine lv_iconst (v := 1) hx hb dL_law_268 (by decide) ?_
      refine lv_goto (tgt := 273) hx hb dL_law_269 (by decide) ?_
      exact step2 r wh 1 c1 H locs (w1 z).symm hp0 hP hD hS
  refine lv_aload_n hx hb dL_law_240 rfl (lv_at hl 3 rfl) ?_
  refine lw_arg C0 hS hl 4 0 rfl rfl hi 1 (by decide) dL_law_241 dL_law_242 dL_law_244 dL_law_245 dL_law_246 ?_
  refine lv_if_eq (tgt := 254) hx hb dL_law_247 (by decide) (fun z => ?_) (fun z => ?_)
  · refine lv_iconst (v := 0) hx hb dL_law_254 (by decide) ?_
    exact step1 0 (Or.inl rfl) (fun _ => rfl) (fun k => absurd z k)
  · refine lv_iconst (v := 1) hx hb dL_law_250 (by decide) ?_
    refine lv_goto (tgt := 255) hx hb dL_law_251 (by decide) ?_
    exact step1 1 (Or.inr rfl) (fun k => absurd k z) (fun _ => rfl)
set_option maxRecDepth 100000 in
set_option maxHeartbeats 4000000 in
theorem lc_13 (C0 : LCx p l s m meth c b L xs dC dI cyI cyS cyJ) : LT p l e s m below meth c b L dC dI cyI cyS cyJ qo Q aX aS Z 1041 := by
  intro H locs of v cc ls i n cells slots hP hD hS hl hR hn hi hc hs kk
  obtain ⟨iv, av, nm, ro, fa⟩ := cc
  obtain ⟨hx, hb, hr, hml, hown, hts, hX, hbl, hL, hst, hK, he⟩ := id C0
  have hA : ∀ q : Nat, s.heap.size ≤ q → lA s q := fun _ h => h
  refine lv_aload_n hx hb dL_law_1041 rfl (lv_at hl 3 rfl) ?_
  have hPx := g_P hP (lp_x (LO cyJ qo of) (MW cyI Q v) (CW cyI cyS aX aS (iv, av, nm, ro, fa)))
  have hDx := g_D hD (lp_x (LO cyJ qo of) (MW cyI Q v) (CW cyI cyS aX aS (iv, av, nm, ro, fa)))
  have hFx := g_F hD (lp_x (LO cyJ qo of) (MW cyI Q v) (CW cyI cyS aX aS (iv, av, nm, ro, fa))) hS hA
  refine g_calli (x1 := fun u : CS => LO cyJ qo of :: (MW cyI Q v ++ CW cyI cyS aX aS u)) (va_runV (As := []) (rest := []) ⟨hx, hb, hml, hown, hts⟩ (CX_permitted l dC dI cyI cyS aX aS hR.1 (v.1 3) (v.1 4) (v.2 3) H.size) (cwV 0 hts (gBV b_744 b_745 b_746 b_2 b_747) rfl rfl rfl (by decide +kernel) ⟨Nat.le_of_ble_eq_true rfl, Nat.le_of_ble_eq_true rfl⟩) (prm_v eX_ok he hS hPx hDx (hK.sub [0, 1] rfl) hFx 0 rfl rfl rfl) rfl rfl hl.1 rfl (lv_room (Nat.le_of_ble_eq_true rfl)) dL_law_1042 ⟨(show _ ≤ 601024 by omega), (show _ ≤ 7293034 by omega)⟩) hP hD hS hA (lp_x (LO cyJ qo of) (MW cyI Q v) (CW cyI cyS aX aS (iv, av, nm, ro, fa))) (fun u => lp_x' _ _ _) (fun r c1 H locs hw hP hD hS => ?_)
  refine lv_aload_n hx hb dL_law_1045 rfl (lv_at hl 2 rfl) ?_
  have hPm := g_P hP (lp_m (LO cyJ qo of) (MW cyI Q v) (CW cyI cyS aX aS c1))
  have hDm := g_D hD (lp_m (LO cyJ qo of) (MW cyI Q v) (CW cyI cyS aX aS c1))
  have hFm := g_F hD (lp_m (LO cyJ qo of) (MW cyI Q v) (CW cyI cyS aX aS c1)) hS hA
  refine g_calli (x1 := fun u : Int32 × Int32 × Int32 × Int32 × (Nat → Int32) => (LO cyJ qo of) :: (MW cyI Q (i7 (v.1 0) (v.1 1) (u.2.1) (u.2.2.1) (u.2.2.2.1) (v.1 5) (v.1 6), f6 (v.2 0) (v.2 1) (v.2 2) (u.2.2.2.2) (v.2 4) (v.2 5)) ++ (CW cyI cyS aX aS c1))) (va_runV (As := []) (rest := [.int r]) ⟨hx, hb, hml, hown, hts⟩ (c_X9_permitted l dC dI cyI H.size (Q 0) (Q 1) (Q 2) (Q 3) (Q 4) (Q 5) (Q 6) (v.1 0) (v.1 1) (v.1 2) (v.1 3) (v.1 4) (v.1 5) (v.1 6) (v.2 0) (v.2 1) (v.2 2) (v.2 3) (v.2 4) (v.2 5) hR.G) (cwV 0 hts (gBV b_748 b_749 b_750 b_5 b_751) rfl rfl rfl (by decide +kernel) ⟨Nat.le_of_ble_eq_true rfl, Nat.le_of_ble_eq_true rfl⟩) (prm_v eM_ok trivial hS hPm hDm (hK.sub [0] rfl) hFm 0 rfl rfl rfl) rfl rfl hl.1 rfl (lv_room (Nat.le_of_ble_eq_true rfl)) dL_law_1046 ⟨(show _ ≤ 601024 by omega), (show _ ≤ 7293034 by omega)⟩) hP hD hS hA (lp_m (LO cyJ qo of) (MW cyI Q v) (CW cyI cyS aX aS c1)) (fun u => lp_m' _ _ _) (fun r2 u H locs hw2 hP hD hS => ?_)
  obtain ⟨hu, hr2⟩ := hw2
  subst hu
  obtain ⟨x0, x1, x2, hm, hC, hk⟩ := hw
  rw [hm] at hP hD hr2
  exact lw_cmp hx hb hP hD hS hl hr2.symm ⟨hC.up (by omega), hR.2.kp hk⟩ (Nat.add_le_add_left (by omega : 0 ≤ 20) cells) (Nat.add_le_add_left (by omega : 0 ≤ 300) slots) kk dL_law_1049 (by decide)
set_option maxRecDepth 100000 in
set_option maxHeartbeats 4000000 in
theorem lc_20 (C0 : LCx p l s m meth c b L xs dC dI cyI cyS cyJ) : LT p l e s m below meth c b L dC dI cyI cyS cyJ qo Q aX aS Z 1438 := by
  intro H locs of v cc ls i n cells slots hP hD hS hl hR hn hi hc hs kk
  obtain ⟨iv, av, nm, ro, fa⟩ := cc
  obtain ⟨hx, hb, hr, hml, hown, hts, hX, hbl, hL, hst, hK, he⟩ := id C0
  have hA : ∀ q : Nat, s.heap.size ≤ q → lA s q := fun _ h => h
  refine lv_aload_n hx hb dL_law_1438 rfl (lv_at hl 3 rfl) ?_
  have hPx := g_P hP (lp_x (LO cyJ qo of) (MW cyI Q v) (CW cyI cyS aX aS (iv, av, nm, ro, fa)))
  have hDx := g_D hD (lp_x (LO cyJ qo of) (MW cyI Q v) (CW cyI cyS aX aS (iv, av, nm, ro, fa)))
  have hFx := g_F hD (lp_x (LO cyJ qo of) (MW cyI Q v) (CW cyI cyS aX aS (iv, av, nm, ro, fa))) hS hA
  refine g_calli (x1 := fun u : CS => LO cyJ qo of :: (MW cyI Q v ++ CW cyI cyS aX aS u)) (va_runV (As := []) (rest := []) ⟨hx, hb, hml, hown, hts⟩ (CX_events l dC dI cyI cyS aX aS hR.1 H.size) (cwV 0 hts (gBV b_845 b_846 b_847 b_2 b_848) rfl rfl rfl (by decide +kernel) ⟨Nat.le_of_ble_eq_true rfl, Nat.le_of_ble_eq_true rfl⟩) (prm_v eX_ok he hS hPx hDx (hK.sub [0, 1] rfl) hFx 0 rfl rfl rfl) rfl rfl hl.1 rfl (lv_room (Nat.le_of_ble_eq_true rfl)) dL_law_1439 ⟨(show _ ≤ 601024 by omega), (show _ ≤ 7293034 by omega)⟩) hP hD hS hA (lp_x (LO cyJ qo of) (MW cyI Q v) (CW cyI cyS aX aS (iv, av, nm, ro, fa))) (fun u => lp_x' _ _ _) (fun r c1 H locs hw hP hD hS => ?_)
  refine lv_aload_n hx hb dL_law_1442 rfl (lv_at hl 2 rfl) ?_
  have hPm := g_P hP (lp_m (LO cyJ qo of) (MW cyI Q v) (CW cyI cyS aX aS c1))
  have hDm := g_D hD (lp_m (LO cyJ qo of) (MW cyI Q v) (CW cyI cyS aX aS c1))
  have hFm := g_F hD (lp_m (LO cyJ qo of) (MW cyI Q v) (CW cyI cyS aX aS c1)) hS hA
  refine g_calli (x1 := fun u : Int32 × Int32 => (LO cyJ qo of) :: (MW cyI Q (i7 (v.1 0) (v.1 1) (u.2) (v.1 3) (v.1 4) (v.1 5) (v.1 6), f6 (v.2 0) (v.2 1) (v.2 2) (v.2 3) (v.2 4) (v.2 5)) ++ (CW cyI cyS aX aS c1))) (va_runV (As := []) (rest := [.int r]) ⟨hx, hb, hml, hown, hts⟩ (c_X9_events l dC dI cyI H.size (Q 0) (Q 1) (Q 2) (Q 3) (Q 4) (Q 5) (Q 6) (v.1 0) (v.1 1) (v.1 2) (v.1 3) (v.1 4) (v.1 5) (v.1 6) (v.2 0) (v.2 1) (v.2 2) (v.2 3) (v.2 4) (v.2 5)) (cwV 0 hts (gBV b_850 b_851 b_852 b_5 b_853) rfl rfl rfl (by decide +kernel) ⟨Nat.le_of_ble_eq_true rfl, Nat.le_of_ble_eq_true rfl⟩) (prm_v eM_ok trivial hS hPm hDm (hK.sub [0] rfl) hFm 0 rfl rfl rfl) rfl rfl hl.1 rfl (lv_room (Nat.le_of_ble_eq_true rfl)) dL_law_1443 ⟨(show _ ≤ 601024 by omega), (show _ ≤ 7293034 by omega)⟩) hP hD hS hA (lp_m (LO cyJ qo of) (MW cyI Q v) (CW cyI cyS aX aS c1)) (fun u => lp_m' _ _ _) (fun r2 u H locs hw2 hP hD hS => ?_)
  obtain ⟨hu, hr2⟩ := hw2
  subst hu
  obtain ⟨hm, hC, hk⟩ := hw
  rw [hm] at hP hD hr2
  exact lw_cmp hx hb hP hD hS hl hr2.symm ⟨hC.up (by omega), hR.2.kp hk⟩ (Nat.add_le_add_left (by omega : 0 ≤ 20) cells) (Nat.add_le_add_left (by omega : 0 ≤ 300) slots) kk dL_law_1446 (by decide)
set_option maxRecDepth 100000 in
set_option maxHeartbeats 4000000 in
theorem lc_24 (C0 : LCx p l s m meth c b L xs dC dI cyI cyS cyJ) : LT p l e s m below meth c b L dC dI cyI cyS cyJ qo Q aX aS Z 1631 := by
  intro H locs of v cc ls i n cells slots hP hD hS hl hR hn hi hc hs kk
  obtain ⟨iv, av, nm, ro, fa⟩ := cc
  obtain ⟨hx, hb, hr, hml, hown, hts, hX, hbl, hL, hst, hK, he⟩ := id C0
  have hA : ∀ q : Nat, s.heap.size ≤ q → lA s q := fun _ h => h
  refine lv_aload_n hx hb dL_law_1631 rfl (lv_at hl 3 rfl) ?_
  have hPx := g_P hP (lp_x (LO cyJ qo of) (MW cyI Q v) (CW cyI cyS aX aS (iv, av, nm, ro, fa)))
  have hDx := g_D hD (lp_x (LO cyJ qo of) (MW cyI Q v) (CW cyI cyS aX aS (iv, av, nm, ro, fa)))
  have hFx := g_F hD (lp_x (LO cyJ qo of) (MW cyI Q v) (CW cyI cyS aX aS (iv, av, nm, ro, fa))) hS hA
  refine g_calli (x1 := fun u : CS => LO cyJ qo of :: (MW cyI Q v ++ CW cyI cyS aX aS u)) (va_runV (As := []) (rest := []) ⟨hx, hb, hml, hown, hts⟩ (CX_spectrum l dC dI cyI cyS aX aS hR.1 (by omega) H.size) (cwV 0 hts (gBV b_894 b_895 b_896 b_2 b_897) rfl rfl rfl (by decide +kernel) ⟨Nat.le_of_ble_eq_true rfl, Nat.le_of_ble_eq_true rfl⟩) (prm_v eX_ok he hS hPx hDx (hK.sub [0, 1] rfl) hFx 0 rfl rfl rfl) rfl rfl hl.1 rfl (lv_room (Nat.le_of_ble_eq_true rfl)) dL_law_1632 ⟨(show _ ≤ 601024 by omega), (show _ ≤ 7293034 by omega)⟩) hP hD hS hA (lp_x (LO cyJ qo of) (MW cyI Q v) (CW cyI cyS aX aS (iv, av, nm, ro, fa))) (fun u => lp_x' _ _ _) (fun r c1 H locs hw hP hD hS => ?_)
  refine lv_aload_n hx hb dL_law_1635 rfl (lv_at hl 2 rfl) ?_
  have hPm := g_P hP (lp_m (LO cyJ qo of) (MW cyI Q v) (CW cyI cyS aX aS c1))
  have hDm := g_D hD (lp_m (LO cyJ qo of) (MW cyI Q v) (CW cyI cyS aX aS c1))
  have hFm := g_F hD (lp_m (LO cyJ qo of) (MW cyI Q v) (CW cyI cyS aX aS c1)) hS hA
  refine g_calli (x1 := fun u : Int32 × Int32 => (LO cyJ qo of) :: (MW cyI Q (i7 (v.1 0) (v.1 1) (u.2) (v.1 3) (v.1 4) (v.1 5) (v.1 6), f6 (v.2 0) (v.2 1) (v.2 2) (v.2 3) (v.2 4) (v.2 5)) ++ (CW cyI cyS aX aS c1))) (va_runV (As := []) (rest := [.int r]) ⟨hx, hb, hml, hown, hts⟩ (c_X9_spectrum l dC dI cyI H.size (Q 0) (Q 1) (Q 2) (Q 3) (Q 4) (Q 5) (Q 6) (v.1 0) (v.1 1) (v.1 2) (v.1 3) (v.1 4) (v.1 5) (v.1 6) (v.2 0) (v.2 1) (v.2 2) (v.2 3) (v.2 4) (v.2 5)) (cwV 0 hts (gBV b_904 b_905 b_906 b_5 b_907) rfl rfl rfl (by decide +kernel) ⟨Nat.le_of_ble_eq_true rfl, Nat.le_of_ble_eq_true rfl⟩) (prm_v eM_ok trivial hS hPm hDm (hK.sub [0] rfl) hFm 0 rfl rfl rfl) rfl rfl hl.1 rfl (lv_room (Nat.le_of_ble_eq_true rfl)) dL_law_1636 ⟨(show _ ≤ 601024 by omega), (show _ ≤ 7293034 by omega)⟩) hP hD hS hA (lp_m (LO cyJ qo of) (MW cyI Q v) (CW cyI cyS aX aS c1)) (fun u => lp_m' _ _ _) (fun r2 u H locs hw2 hP hD hS => ?_)
  obtain ⟨hu, hr2⟩ := hw2
  subst hu
  obtain ⟨hm, hC, hk⟩ := hw
  rw [hm] at hP hD hr2
  exact lw_cmp hx hb hP hD hS hl hr2.symm ⟨hC.up (by omega), hR.2.kp hk⟩ (Nat.add_le_add_left (by omega : 0 ≤ 20) cells) (Nat.add_le_add_left (by omega : 0 ≤ 300) slots) kk dL_law_1639 (by decide)
set_option maxRecDepth 100000 in
set_option maxHeartbeats 4000000 in
theorem lc_26 (C0 : LCx p l s m meth c b L xs dC dI cyI cyS cyJ) : LT p l e s m below meth c b L dC dI cyI cyS cyJ qo Q aX aS Z 1700 := by
  intro H locs of v cc ls i n cells slots hP hD hS hl hR hn hi hc hs kk
  obtain ⟨iv, av, nm, ro, fa⟩ := cc
  obtain ⟨hx, hb, hr, hml, hown, hts, hX, hbl, hL, hst, hK, he⟩ := id C0
  have hA : ∀ q : Nat, s.heap.size ≤ q → lA s q := fun _ h => h
  refine lv_aload_n hx hb dL_law_1700 rfl (lv_at hl 3 rfl) ?_
  have hPx := g_P hP (lp_x (LO cyJ qo of) (MW cyI Q v) (CW cyI cyS aX aS (iv, av, nm, ro, fa)))
  have hDx := g_D hD (lp_x (LO cyJ qo of) (MW cyI Q v) (CW cyI cyS aX aS (iv, av, nm, ro, fa)))
  have hFx := g_F hD (lp_x (LO cyJ qo of) (MW cyI Q v) (CW cyI cyS aX aS (iv, av, nm, ro, fa))) hS hA
  refine g_calli (x1 := fun u : CS => LO cyJ qo of :: (MW cyI Q v ++ CW cyI cyS aX aS u)) (va_runV (As := []) (rest := []) ⟨hx, hb, hml, hown, hts⟩ (CX_clearText l dC dI cyI cyS aX aS hR.1 H.size) (cwV 0 hts (gBV b_922 b_923 b_924 b_2 b_925) rfl rfl rfl (by decide +kernel) ⟨Nat.le_of_ble_eq_true rfl, Nat.le_of_ble_eq_true rfl⟩) (prm_v eX_ok he hS hPx hDx (hK.sub [0, 1] rfl) hFx 0 rfl rfl rfl) rfl rfl hl.1 rfl (lv_room (Nat.le_of_ble_eq_true rfl)) dL_law_1701 ⟨(show _ ≤ 601024 by omega), (show _ ≤ 7293034 by omega)⟩) hP hD hS hA (lp_x (LO cyJ qo of) (MW cyI Q v) (CW cyI cyS aX aS (iv, av, nm, ro, fa))) (fun u => lp_x' _ _ _) (fun r c1 H locs hw hP hD hS => ?_)
  refine lv_aload_n hx hb dL_law_1704 rfl (lv_at hl 2 rfl) ?_
  have hPm := g_P hP (lp_m (LO cyJ qo of) (MW cyI Q v) (CW cyI cyS aX aS c1))
  have hDm := g_D hD (lp_m (LO cyJ qo of) (MW cyI Q v) (CW cyI cyS aX aS c1))
  have hFm := g_F hD (lp_m (LO cyJ qo of) (MW cyI Q v) (CW cyI cyS aX aS c1)) hS hA
  refine g_calli (x1 := fun u : Int32 × Int32 × Int32 => (LO cyJ qo of) :: (MW cyI Q (i7 (v.1 0) (u.2.1) (u.2.2) (v.1 3) (v.1 4) (v.1 5) (v.1 6), f6 (v.2 0) (v.2 1) (v.2 2) (v.2 3) (v.2 4) (v.2 5)) ++ (CW cyI cyS aX aS c1))) (va_runV (As := []) (rest := [.int r]) ⟨hx, hb, hml, hown, hts⟩ (c_X9_clearText l dC dI cyI H.size (Q 0) (Q 1) (Q 2) (Q 3) (Q 4) (Q 5) (Q 6) (v.1 0) (v.1 1) (v.1 2) (v.1 3) (v.1 4) (v.1 5) (v.1 6) (v.2 0) (v.2 1) (v.2 2) (v.2 3) (v.2 4) (v.2 5)) (cwV 0 hts (gBV b_926 b_927 b_928 b_5 b_929) rfl rfl rfl (by decide +kernel) ⟨Nat.le_of_ble_eq_true rfl, Nat.le_of_ble_eq_true rfl⟩) (prm_v eM_ok trivial hS hPm hDm (hK.sub [0] rfl) hFm 0 rfl rfl rfl) rfl rfl hl.1 rfl (lv_room (Nat.le_of_ble_eq_true rfl)) dL_law_1705 ⟨(show _ ≤ 601024 by omega), (show _ ≤ 7293034 by omega)⟩) hP hD hS hA (lp_m (LO cyJ qo of) (MW cyI Q v) (CW cyI cyS aX aS c1)) (fun u => lp_m' _ _ _) (fun r2 u H locs hw2 hP hD hS => ?_)
  obtain ⟨hu, hr2⟩ := hw2
  subst hu
  obtain ⟨hr0, hC, ht0, ht1⟩ := hw
  exact lw_cmp hx hb hP hD hS hl (by rw [hr0, hr2]; exact hR.2.1) ⟨hC.up (by omega), ht0, rfl, (show (0 : Int32).toNatClampNeg ≤ 80 by decide), fun k hk => by rw [ht1]; exact hR.2.2.2.2 k hk⟩ (Nat.add_le_add_left (by omega : 0 ≤ 20) cells) (Nat.add_le_add_left (by omega : 0 ≤ 300) slots) kk dL_law_1708 (by decide)
set_option maxRecDepth 100000 in
set_option maxHeartbeats 4000000 in
theorem lc_27 (C0 : LCx p l s m meth c b L xs dC dI cyI cyS cyJ) : LT p l e s m below meth c b L dC dI cyI cyS cyJ qo Q aX aS Z 1713 := by
  intro H locs of v cc ls i n cells slots hP hD hS hl hR hn hi hc hs kk
  obtain ⟨iv, av, nm, ro, fa⟩ := cc
  obtain ⟨hx, hb, hr, hml, hown, hts, hX, hbl, hL, hst, hK, he⟩ := id C0
  have hA : ∀ q : Nat, s.heap.size ≤ q → lA s q := fun _ h => h
  by_cases hbad : (x_X4_read (nm 16) (nm 17) (fa 1) (fa 2) (fa 0) (nm 2)).1 = (-1 : Int32)
  · refine lv_aload_n hx hb dL_law_1713 rfl (lv_at hl 3 rfl) ?_
    have hPx := g_P hP (lp_x (LO cyJ qo of) (MW cyI Q v) (CW cyI cyS aX aS (iv, av, nm, ro, fa)))
    have hDx := g_D hD (lp_x (LO cyJ qo of) (MW cyI Q v) (CW cyI cyS aX aS (iv, av, nm, ro, fa)))
    have hFx := g_F hD (lp_x (LO cyJ qo of) (MW cyI Q v) (CW cyI cyS aX aS (iv, av, nm, ro, fa))) hS hA
    refine g_calli (x1 := fun u : CS => LO cyJ qo of :: (MW cyI Q v ++ CW cyI cyS aX aS u)) (va_runV (As := []) (rest := []) ⟨hx, hb, hml, hown, hts⟩ (CX_runScriptG l dC dI cyI cyS aX aS hR.1 (by omega) (v.1 3) (v.1 4) (v.2 3) (v.2 4) (v.2 5) (by rw [show nm 2 = v.1 1 from hR.2.1]; exact hR.T.1) (by rw [show nm 2 = v.1 1 from hR.2.1]; exact hR.T.2) (fun k hk => (hR.2.2.2.2 k hk).1) (fun k hk => (hR.2.2.2.2 k hk).2) hbad H.size) (cwV 0 hts (gBV b_930 b_931 b_932 b_2 b_933) rfl rfl rfl (by decide +kernel) ⟨Nat.le_of_ble_eq_true rfl, Nat.le_of_ble_eq_true rfl⟩) (prm_v eX_ok he hS hPx hDx (hK.sub [0, 1] rfl) hFx 0 rfl rfl rfl) rfl rfl hl.1 rfl (lv_room (Nat.le_of_ble_eq_true rfl)) dL_law_1714 ⟨(show _ ≤ 601024 by omega), (show _ ≤ 7293034 by omega)⟩) hP hD hS hA (lp_x (LO cyJ qo of) (MW cyI Q v) (CW cyI cyS aX aS (iv, av, nm, ro, fa))) (fun u => lp_x' _ _ _) (fun r c1 H locs hw hP hD hS => ?_)
    refine lv_aload_n hx hb dL_law_1717 rfl (lv_at hl 2 rfl) ?_
    have hPm := g_P hP (lp_m (LO cyJ qo of) (MW cyI Q v) (CW cyI cyS aX aS c1))
    have hDm := g_D hD (lp_m (LO cyJ qo of) (MW cyI Q v) (CW cyI cyS aX aS c1))
    have hFm := g_F hD (lp_m (LO cyJ qo of) (MW cyI Q v) (CW cyI cyS aX aS c1)) hS hA
    refine g_calli (x1 := fun u : Int32 × Int32 × Int32 × Int32 × Int32 × Int32 × Int32 × (Nat → Int32) × (Nat → Int32) × (Nat → Int32) × (Nat → Int32) × (Nat → Int32) => (LO cyJ qo of) :: (MW cyI Q (i7 (u.2.1) (v.1 1) (u.2.2.1) (u.2.2.2.1) (u.2.2.2.2.1) (u.2.2.2.2.2.1) (u.2.2.2.2.2.2.1), f6 (u.2.2.2.2.2.2.2.1) (u.2.2.2.2.2.2.2.2.1) (v.2 2) (u.2.2.2.2.2.2.2.2.2.1) (u.2.2.2.2.2.2.2.2.2.2.1) (u.2.2.2.2.2.2.2.2.2.2.2)) ++ (CW cyI cyS aX aS c1))) (va_runV (As := []) (rest := [.int r]) ⟨hx, hb, hml, hown, hts⟩ (c_X9_runScript l dC dI cyI H.size (Q 0) (Q 1) (Q 2) (Q 3) (Q 4) (Q 5) (Q 6) (v.1 0) (v.1 1) (v.1 2) (v.1 3) (v.1 4) (v.1 5) (v.1 6) (v.2 0) (v.2 1) (v.2 2) (v.2 3) (v.2 4) (v.2 5) hR.hsv.1 hR.hsv.2 hR.G hR.T.1 hR.T.2) (cwV 0 hts (gBV b_975 b_976 b_977 b_5 b_978) rfl rfl rfl (by decide +kernel) ⟨Nat.le_of_ble_eq_true rfl, Nat.le_of_ble_eq_true rfl⟩) (prm_v eM_ok trivial hS hPm hDm (hK.sub [0] rfl) hFm 0 rfl rfl rfl) rfl rfl hl.1 rfl (lv_room (Nat.le_of_ble_eq_true rfl)) dL_law_1718 ⟨(show _ ≤ 601024 by omega), (show _ ≤ 7293034 by omega)⟩) hP hD hS hA (lp_m (LO cyJ qo of) (MW cyI Q v) (CW cyI cyS aX aS c1)) (fun u => lp_m' _ _ _) (fun r2 u H locs hw2 hP hD hS => ?_)
    obtain ⟨hu, hr2⟩ := hw2
    subst hu
    obtain ⟨x0, x1, x2, x3, x4, x5, x6, x7, x8, x9, hm, hC, hk⟩ := hw
    rw [show nm 2 = v.1 1 from hR.2.1] at hm
    rw [hm] at hP hD hr2
    exact lw_cmp hx hb hP hD hS hl hr2.symm ⟨hC.up (by omega), hR.2.kp hk⟩ (Nat.add_le_add_left (by omega : 15 ≤ 20) cells) (Nat.add_le_add_left (by omega : 260 ≤ 300) slots) kk dL_law_1721 (by decide)
  · refine lv_aload_n hx hb dL_law_1713 rfl (lv_at hl 3 rfl) ?_
    have hPx := g_P hP (lp_x (LO cyJ qo of) (MW cyI Q v) (CW cyI cyS aX aS (iv, av, nm, ro, fa)))
    have hDx := g_D hD (lp_x (LO cyJ qo of) (MW cyI Q v) (CW cyI cyS aX aS (iv, av, nm, ro, fa)))
    have hFx := g_F hD (lp_x (LO cyJ qo of) (MW cyI Q v) (CW cyI cyS aX aS (iv, av, nm, ro, fa))) hS hA
    refine g_calli (x1 := fun u : CS => LO cyJ qo of :: (MW cyI Q v ++ CW cyI cyS aX aS u)) (va_runV (As := []) (rest := []) ⟨hx, hb, hml, hown, hts⟩ (CX_runScriptF l dC dI cyI cyS aX aS hR.1 (v.1 3) (v.1 4) (v.2 3) (v.2 4) (v.2 5) (by rw [show nm 2 = v.1 1 from hR.2.1]; exact hR.T.1) (by rw [show nm 2 = v.1 1 from hR.2.1]; exact hR.T.2) (fun k hk => (hR.2.2.2.2 k hk).1) (fun k hk => (hR.2.2.2.2 k hk).2) hbad H.size) (cwV 0 hts (gBV b_930 b_931 b_932 b_2 b_933) rfl rfl rfl (by decide +kernel) ⟨Nat.le_of_ble_eq_true rfl, Nat.le_of_ble_eq_true rfl⟩) (prm_v eX_ok he hS hPx hDx (hK.sub [0, 1] rfl) hFx 0 rfl rfl rfl) rfl rfl hl.1 rfl (lv_room (Nat.le_of_ble_eq_true rfl)) dL_law_1714 ⟨(show _ ≤ 601024 by omega), (show _ ≤ 7293034 by omega)⟩) hP hD hS hA (lp_x (LO cyJ qo of) (MW cyI Q v) (CW cyI cyS aX aS (iv, av, nm, ro, fa))) (fun u => lp_x' _ _ _) (fun r c1 H locs hw hP hD hS => ?_)
    refine lv_aload_n hx hb dL_law_1717 rfl (lv_at hl 2 rfl) ?_
    have hPm := g_P hP (lp_m (LO cyJ qo of) (MW cyI Q v) (CW cyI cyS aX aS c1))
    have hDm := g_D hD (lp_m (LO cyJ qo of) (MW cyI Q v) (CW cyI cyS aX aS c1))
    have hFm := g_F hD (lp_m (LO cyJ qo of) (MW cyI Q v) (CW cyI cyS aX aS c1)) hS hA
    refine g_calli (x1 := fun u : Int32 × Int32 × Int32 × Int32 × Int32 × Int32 × Int32 × (Nat → Int32) × (Nat → Int32) × (Nat → Int32) × (Nat → Int32) × (Nat → Int32) => (LO cyJ qo of) :: (MW cyI Q (i7 (u.2.1) (v.1 1) (u.2.2.1) (u.2.2.2.1) (u.2.2.2.2.1) (u.2.2.2.2.2.1) (u.2.2.2.2.2.2.1), f6 (u.2.2.2.2.2.2.2.1) (u.2.2.2.2.2.2.2.2.1) (v.2 2) (u.2.2.2.2.2.2.2.2.2.1) (u.2.2.2.2.2.2.2.2.2.2.1) (u.2.2.2.2.2.2.2.2.2.2.2)) ++ (CW cyI cyS aX aS c1))) (va_runV (As := []) (rest := [.int r]) ⟨hx, hb, hml, hown, hts⟩ (c_X9_runScript l dC dI cyI H.size (Q 0) (Q 1) (Q 2) (Q 3) (Q 4) (Q 5) (Q 6) (v.1 0) (v.1 1) (v.1 2) (v.1 3) (v.1 4) (v.1 5) (v.1 6) (v.2 0) (v.2 1) (v.2 2) (v.2 3) (v.2 4) (v.2 5) hR.hsv.1 hR.hsv.2 hR.G hR.T.1 hR.T.2) (cwV 0 hts (gBV b_975 b_976 b_977 b_5 b_978) rfl rfl rfl (by decide +kernel) ⟨Nat.le_of_ble_eq_true rfl, Nat.le_of_ble_eq_true rfl⟩) (prm_v eM_ok trivial hS hPm hDm (hK.sub [0] rfl) hFm 0 rfl rfl rfl) rfl rfl hl.1 rfl (lv_room (Nat.le_of_ble_eq_true rfl)) dL_law_1718 ⟨(show _ ≤ 601024 by omega), (show _ ≤ 7293034 by omega)⟩) hP hD hS hA (lp_m (LO cyJ qo of) (MW cyI Q v) (CW cyI cyS aX aS c1)) (fun u => lp_m' _ _ _) (fun r2 u H locs hw2 hP hD hS => ?_)
    obtain ⟨hu, hr2⟩ := hw2
    subst hu
    obtain ⟨x0, x1, x2, x3, hm, hC, hk⟩ := hw
    rw [show nm 2 = v.1 1 from hR.2.1] at hm
    rw [hm] at hP hD hr2
    exact lw_cmp hx hb hP hD hS hl hr2.symm ⟨hC.up (by omega), hR.2.kp hk⟩ (Nat.add_le_add_left (by omega : 0 ≤ 20) cells) (Nat.add_le_add_left (by omega : 0 ≤ 300) slots) kk dL_law_1721 (by decide)
set_option maxRecDepth 100000 in
set_option maxHeartbeats 4000000 in
theorem lc_29 (C0 : LCx p l s m meth c b L xs dC dI cyI cyS cyJ) : LT p l e s m below meth c b L dC dI cyI cyS cyJ qo Q aX aS Z 1770 := by
  intro H locs of v cc ls i n cells slots hP hD hS hl hR hn hi hc hs kk
  obtain ⟨iv, av, nm, ro, fa⟩ := cc
  obtain ⟨hx, hb, hr, hml, hown, hts, hX, hbl, hL, hst, hK, he⟩ := id C0
  have hA : ∀ q : Nat, s.heap.size ≤ q → lA s q := fun _ h => h
  refine lv_aload_n hx hb dL_law_1770 rfl (lv_at hl 3 rfl) ?_
  have hPx := g_P hP (lp_x (LO cyJ qo of) (MW cyI Q v) (CW cyI cyS aX aS (iv, av, nm, ro, fa)))
  have hDx := g_D hD (lp_x (LO cyJ qo of) (MW cyI Q v) (CW cyI cyS aX aS (iv, av, nm, ro, fa)))
  have hFx := g_F hD (lp_x (LO cyJ qo of) (MW cyI Q v) (CW cyI cyS aX aS (iv, av, nm, ro, fa))) hS hA
  refine g_calll (x1 := fun u : CS => LO cyJ qo of :: (MW cyI Q v ++ CW cyI cyS aX aS u)) (va_runV (As := []) (rest := []) ⟨hx, hb, hml, hown, hts⟩ (CX_digest l dC dI cyI cyS aX aS hR.1 (v.1 3) (v.1 4) (v.2 3) H.size) (cwV 0 hts (gBV b_1016 b_1017 b_1018 b_2 b_1019) rfl rfl rfl (by decide +kernel) ⟨Nat.le_of_ble_eq_true rfl, Nat.le_of_ble_eq_true rfl⟩) (prm_v eX_ok he hS hPx hDx (hK.sub [0, 1] rfl) hFx 0 rfl rfl rfl) rfl rfl hl.1 rfl (lv_room (Nat.le_of_ble_eq_true rfl)) dL_law_1771 ⟨(show _ ≤ 601024 by omega), (show _ ≤ 7293034 by omega)⟩) hP hD hS hA (lp_x (LO cyJ qo of) (MW cyI Q v) (CW cyI cyS aX aS (iv, av, nm, ro, fa))) (fun u => lp_x' _ _ _) (fun r c1 H locs hw hP hD hS => ?_)
  refine lv_aload_n hx hb dL_law_1774 rfl (lv_at hl 2 rfl) ?_
  have hPm := g_P hP (lp_m (LO cyJ qo of) (MW cyI Q v) (CW cyI cyS aX aS c1))
  have hDm := g_D hD (lp_m (LO cyJ qo of) (MW cyI Q v) (CW cyI cyS aX aS c1))
  have hFm := g_F hD (lp_m (LO cyJ qo of) (MW cyI Q v) (CW cyI cyS aX aS c1)) hS hA
  refine g_calll (x1 := fun u : Int64 × Int32 × Int32 × Int32 × (Nat → Int32) => (LO cyJ qo of) :: (MW cyI Q (i7 (v.1 0) (v.1 1) (u.2.1) (u.2.2.1) (u.2.2.2.1) (v.1 5) (v.1 6), f6 (v.2 0) (v.2 1) (v.2 2) (u.2.2.2.2) (v.2 4) (v.2 5)) ++ (CW cyI cyS aX aS c1))) (va_runV (As := []) (rest := [.long r]) ⟨hx, hb, hml, hown, hts⟩ (c_X9_digest l dC dI cyI H.size (Q 0) (Q 1) (Q 2) (Q 3) (Q 4) (Q 5) (Q 6) (v.1 0) (v.1 1) (v.1 2) (v.1 3) (v.1 4) (v.1 5) (v.1 6) (v.2 0) (v.2 1) (v.2 2) (v.2 3) (v.2 4) (v.2 5) hR.G) (cwV 0 hts (gBV b_1045 b_1046 b_1047 b_5 b_1048) rfl rfl rfl (by decide +kernel) ⟨Nat.le_of_ble_eq_true rfl, Nat.le_of_ble_eq_true rfl⟩) (prm_v eM_ok trivial hS hPm hDm (hK.sub [0] rfl) hFm 0 rfl rfl rfl) rfl rfl hl.1 rfl (lv_room (Nat.le_of_ble_eq_true rfl)) dL_law_1775 ⟨(show _ ≤ 601024 by omega), (show _ ≤ 7293034 by omega)⟩) hP hD hS hA (lp_m (LO cyJ qo of) (MW cyI Q v) (CW cyI cyS aX aS c1)) (fun u => lp_m' _ _ _) (fun r2 u H locs hw2 hP hD hS => ?_)
  obtain ⟨hu, hr2⟩ := hw2
  subst hu
  obtain ⟨x0, x1, x2, hm, hC, hk⟩ := hw
  rw [show nm 2 = v.1 1 from hR.2.1] at hm
  rw [hm] at hP hD hr2
  exact lw_cmpL hx hb hP hD hS hl hr2.symm ⟨hC.up (by omega), hR.2.kp hk⟩ (Nat.add_le_add_left (by omega : 0 ≤ 20) cells) (Nat.add_le_add_left (by omega : 0 ≤ 300) slots) kk
end LD

