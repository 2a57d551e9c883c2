section LC
variable {p : Program} {l : Launch} {e : Env} {s : State} {m : MethodId} {b L : Nat} {xs : Nat → Int32} {below : List Frame} {meth : Method} {c : Code} {dC : Nat → ClassId} {dI : Nat → Nat → Nat} {cyI cyS cyJ : ClassId} {qo : Nat} {Q aX aS : Nat → Nat} {Z : State → Prop}
set_option maxRecDepth 100000 in
set_option maxHeartbeats 4000000 in
theorem lc_0 (C0 : LCx p l s m meth c b L xs dC dI cyI cyS cyJ) : LT p l e s m below meth c b L dC dI cyI cyS cyJ qo Q aX aS Z 172 := by
  intro H locs of v cc ls i n cells slots hP hD hS hl hR hn hi hc hs kk
  obtain ⟨iv, av, nm, ro, fa⟩ := cc
  obtain ⟨hx, hb, hr, hml, hown, hts, hX, hbl, hL, hst, hK, he⟩ := id C0
  have hA : ∀ q : Nat, s.heap.size ≤ q → lA s q := fun _ h => h
  refine lv_aload_n hx hb dL_law_172 rfl (lv_at hl 3 rfl) ?_
  refine lw_arg C0 hS hl 4 0 rfl rfl hi 1 (by decide) dL_law_173 dL_law_174 dL_law_176 dL_law_177 dL_law_178 ?_
  refine lw_arg C0 hS hl 4 0 rfl rfl hi 2 (by decide) dL_law_179 dL_law_180 dL_law_182 dL_law_183 dL_law_184 ?_
  refine lv_aload_n hx hb dL_law_185 rfl (lv_at hl 1 rfl) ?_
  have hM := fun sz => CX_setOutrigger l hst dC dI cyI cyS aX aS hR.1 (xs (i + 1)) (xs (i + 2)) sz
  have hH := fun sz => HL_setOutrigger l dC dI cyI cyS cyJ (aX 0) qo _ (fun u => CW cyI cyS aX aS u) (iv, av, nm, ro, fa) rfl _ _ of (xs (i + 1)) (xs (i + 2)) hM (fun E hE => by
    rcases hE with ⟨h1, rfl⟩ | ⟨h1, h2, rfl⟩
    · exact Or.inl rfl
    · exact Or.inr rfl) sz
  have hPh := g_P hP (lp_h (LO cyJ qo of) (MW cyI Q v) (CW cyI cyS aX aS (iv, av, nm, ro, fa)))
  have hDh := g_D hD (lp_h (LO cyJ qo of) (MW cyI Q v) (CW cyI cyS aX aS (iv, av, nm, ro, fa)))
  have hFh := g_F hD (lp_h (LO cyJ qo of) (MW cyI Q v) (CW cyI cyS aX aS (iv, av, nm, ro, fa))) hS hA
  refine g_calli (x1 := fun u : CS × (Nat → Int64) => LO cyJ qo u.2 :: (MW cyI Q v ++ CW cyI cyS aX aS u.1)) (vx_runSW (As := [.ref (aX 0), .int (xs (i + 1)), .int (xs (i + 2)), .ref qo]) (rest := []) ⟨hx, hb, hml, hown, hts⟩ (vx_Met.noX (hH H.size)) (vx_cwSW 4 hts (gBS b_99 b_100 b_101 b_102) rfl rfl rfl (by decide +kernel) ⟨Nat.le_of_ble_eq_true rfl, Nat.le_of_ble_eq_true rfl⟩) (prm_s eX_ok he hS hPh hDh hK hFh) rfl rfl hl.1 rfl (lv_room (Nat.le_of_ble_eq_true rfl)) dL_law_186 ⟨(show _ ≤ 601024 by omega), (show _ ≤ 7293034 by omega)⟩) hP hD hS hA (lp_h (LO cyJ qo of) (MW cyI Q v) (CW cyI cyS aX aS (iv, av, nm, ro, fa))) (fun u => lp_h' _ _ _) (fun k u H locs hw hP hD hS => ?_)
  obtain ⟨c1, of1⟩ := u
  refine lv_istore (lv' := (5, .int k) :: lwL b (aX 0) (Q 0) qo i) hx hb dL_law_189 hl (by decide) rfl (fun ls hl => ?_)
  refine lv_aload_n hx hb dL_law_191 rfl (lv_at hl 3 rfl) ?_
  refine lw_arg C0 hS hl 5 1 rfl rfl hi 1 (by decide) dL_law_192 dL_law_193 dL_law_195 dL_law_196 dL_law_197 ?_
  refine lw_arg C0 hS hl 5 1 rfl rfl hi 2 (by decide) dL_law_198 dL_law_199 dL_law_201 dL_law_202 dL_law_203 ?_
  have hPm := g_P hP (lp_m (LO cyJ qo of1) (MW cyI Q v) (CW cyI cyS aX aS c1))
  have hDm := g_D hD (lp_m (LO cyJ qo of1) (MW cyI Q v) (CW cyI cyS aX aS c1))
  have hFm := g_F hD (lp_m (LO cyJ qo of1) (MW cyI Q v) (CW cyI cyS aX aS c1)) hS hA
  refine g_calli (x1 := fun u : Int32 × Int32 × Int32 × (Nat → Int32) × (Nat → Int32) => (LO cyJ qo of1) :: (MW cyI Q (i7 (u.2.1) (v.1 1) (u.2.2.1) (v.1 3) (v.1 4) (v.1 5) (v.1 6), f6 (u.2.2.2.1) (u.2.2.2.2) (v.2 2) (v.2 3) (v.2 4) (v.2 5)) ++ (CW cyI cyS aX aS c1))) (va_runV (As := [.int (xs (i + 1)), .int (xs (i + 2))]) (rest := []) ⟨hx, hb, hml, hown, hts⟩ (c_X9_setOutrigger l dC dI cyI H.size (Q 0) (Q 1) (Q 2) (Q 3) (Q 4) (Q 5) (Q 6) (v.1 0) (v.1 1) (v.1 2) (v.1 3) (v.1 4) (v.1 5) (v.1 6) (v.2 0) (v.2 1) (v.2 2) (v.2 3) (v.2 4) (v.2 5) (xs (i + 1)) (xs (i + 2)) hR.hsv.1 hR.hsv.2 hR.G) (cwV 2 hts (gBV b_177 b_178 b_179 b_5 b_180) rfl rfl rfl (by decide +kernel) ⟨Nat.le_of_ble_eq_true rfl, Nat.le_of_ble_eq_true rfl⟩) (prm_v eM_ok trivial hS hPm hDm (hK.sub [0] rfl) hFm 0 rfl rfl rfl) rfl rfl hl.1 rfl (lv_room (Nat.le_of_ble_eq_true rfl)) dL_law_204 ⟨(show _ ≤ 601024 by omega), (show _ ≤ 7293034 by omega)⟩) hP hD hS hA (lp_m (LO cyJ qo of1) (MW cyI Q v) (CW cyI cyS aX aS c1)) (fun u => lp_m' _ _ _) (fun r2 u H locs hw2 hP hD hS => ?_)
  obtain ⟨hu, hr2⟩ := hw2
  subst hu
  rcases hw with ⟨rfl, r0, hp0, ho⟩ | ⟨rfl, hx0, hc1⟩ | ⟨rfl, hx0, hc1⟩
  · obtain ⟨-, -, x0, x1, x2, hm, hC, hk⟩ := hp0
    rw [hm] at hP hD hr2
    exact lw_tail C0 hP hD hS hl rfl (fun _ => by rw [hr2]; exact ho) ⟨hC.up (by omega), hR.2.kp hk⟩ (Nat.add_le_add_left (by omega : 17 ≤ 20) cells) (Nat.add_le_add_left (by omega : 272 ≤ 300) slots) hc hs kk dL_law_207 dL_law_209 dL_law_210 dL_law_213 dL_law_215 dL_law_220 dL_law_222 dL_law_225 dL_law_226 dL_law_227 dL_law_228 dL_law_230 dL_law_231 dL_law_232 dL_law_237 (by decide)
  · replace hc1 : c1 = (iv, av, nm, ro, fa) := hc1
    subst hc1
    rcases hx0 with ⟨h1, hz⟩ | ⟨h1, h2, hz⟩
    · have hm : m_setOutrigger (v.1 0) (v.2 0) (v.2 1) (xs (i + 1)) (xs (i + 2)) = _ := q_setOutrigger_1 h1 _ _
      rw [hm] at hP hD hr2
      exact lw_tail C0 hP hD hS hl rfl (fun h => absurd h (by decide)) ⟨hR.1.up (by omega), hR.2⟩ (Nat.add_le_add_left (by omega : 17 ≤ 20) cells) (Nat.add_le_add_left (by omega : 272 ≤ 300) slots) hc hs kk dL_law_207 dL_law_209 dL_law_210 dL_law_213 dL_law_215 dL_law_220 dL_law_222 dL_law_225 dL_law_226 dL_law_227 dL_law_228 dL_law_230 dL_law_231 dL_law_232 dL_law_237 (by decide)
    · exact absurd hz (by decide)
  · replace hc1 : c1 = (iv, av, nm, ro, fa) := hc1
    subst hc1
    rcases hx0 with ⟨h1, hz⟩ | ⟨h1, h2, hz⟩
    · exact absurd hz (by decide)
    · have hm : m_setOutrigger (v.1 0) (v.2 0) (v.2 1) (xs (i + 1)) (xs (i + 2)) = _ := q_setOutrigger_2 h1 h2 _ _
      rw [hm] at hP hD hr2
      exact lw_tail C0 hP hD hS hl rfl (fun h => absurd h (by decide)) ⟨hR.1.up (by omega), hR.2⟩ (Nat.add_le_add_left (by omega : 17 ≤ 20) cells) (Nat.add_le_add_left (by omega : 272 ≤ 300) slots) hc hs kk dL_law_207 dL_law_209 dL_law_210 dL_law_213 dL_law_215 dL_law_220 dL_law_222 dL_law_225 dL_law_226 dL_law_227 dL_law_228 dL_law_230 dL_law_231 dL_law_232 dL_law_237 (by decide)
set_option maxRecDepth 100000 in
set_option maxHeartbeats 4000000 in
theorem lc_2 (C0 : LCx p l s m meth c b L xs dC dI cyI cyS cyJ) : LT p l e s m below meth c b L dC dI cyI cyS cyJ qo Q aX aS Z 281 := by
  intro H locs of v cc ls i n cells slots hP hD hS hl hR hn hi hc hs kk
  obtain ⟨iv, av, nm, ro, fa⟩ := cc
  obtain ⟨hx, hb, hr, hml, hown, hts, hX, hbl, hL, hst, hK, he⟩ := id C0
  have hA : ∀ q : Nat, s.heap.size ≤ q → lA s q := fun _ h => h
  refine lv_aload_n hx hb dL_law_281 rfl (lv_at hl 3 rfl) ?_
  refine lw_arg C0 hS hl 4 0 rfl rfl hi 1 (by decide) dL_law_282 dL_law_283 dL_law_285 dL_law_286 dL_law_287 ?_
  refine lw_arg C0 hS hl 4 0 rfl rfl hi 2 (by decide) dL_law_288 dL_law_289 dL_law_291 dL_law_292 dL_law_293 ?_
  refine lw_arg C0 hS hl 4 0 rfl rfl hi 3 (by decide) dL_law_294 dL_law_295 dL_law_297 dL_law_298 dL_law_299 ?_
  refine lw_arg C0 hS hl 4 0 rfl rfl hi 4 (by decide) dL_law_300 dL_law_301 dL_law_303 dL_law_304 dL_law_305 ?_
  refine lv_aload_n hx hb dL_law_306 rfl (lv_at hl 1 rfl) ?_
  have hM := fun sz => CX_setCapacity l hst dC dI cyI cyS aX aS hR.1 (xs (i + 1)) (xs (i + 2)) (xs (i + 3)) (xs (i + 4)) sz
  have hH := fun sz => HL_setCapacity l dC dI cyI cyS cyJ (aX 0) qo _ (fun u => CW cyI cyS aX aS u) (iv, av, nm, ro, fa) rfl _ _ of (xs (i + 1)) (xs (i + 2)) (xs (i + 3)) (xs (i + 4)) hM (fun E hE => by
    rcases hE with ⟨h1, rfl⟩ | ⟨h1, h2, rfl⟩
    · exact Or.inl rfl
    · exact Or.inr rfl) sz
  have hPh := g_P hP (lp_h (LO cyJ qo of) (MW cyI Q v) (CW cyI cyS aX aS (iv, av, nm, ro, fa)))
  have hDh := g_D hD (lp_h (LO cyJ qo of) (MW cyI Q v) (CW cyI cyS aX aS (iv, av, nm, ro, fa)))
  have hFh := g_F hD (lp_h (LO cyJ qo of) (MW cyI Q v) (CW cyI cyS aX aS (iv, av, nm, ro, fa))) hS hA
  refine g_calli (x1 := fun u : CS × (Nat → Int64) => LO cyJ qo u.2 :: (MW cyI Q v ++ CW cyI cyS aX aS u.1)) (vx_runSW (As := [.ref (aX 0), .int (xs (i + 1)), .int (xs (i + 2)), .int (xs (i + 3)), .int (xs (i + 4)), .ref qo]) (rest := []) ⟨hx, hb, hml, hown, hts⟩ (vx_Met.noX (hH H.size)) (vx_cwSW 6 hts (gBS b_211 b_212 b_101 b_213) rfl rfl rfl (by decide +kernel) ⟨Nat.le_of_ble_eq_true rfl, Nat.le_of_ble_eq_true rfl⟩) (prm_s eX_ok he hS hPh hDh hK hFh) rfl rfl hl.1 rfl (lv_room (Nat.le_of_ble_eq_true rfl)) dL_law_307 ⟨(show _ ≤ 601024 by omega), (show _ ≤ 7293034 by omega)⟩) hP hD hS hA (lp_h (LO cyJ qo of) (MW cyI Q v) (CW cyI cyS aX aS (iv, av, nm, ro, fa))) (fun u => lp_h' _ _ _) (fun k u H locs hw hP hD hS => ?_)
  obtain ⟨c1, of1⟩ := u
  refine lv_istore (lv' := (5, .int k) :: lwL b (aX 0) (Q 0) qo i) hx hb dL_law_310 hl (by decide) rfl (fun ls hl => ?_)
  refine lv_aload_n hx hb dL_law_312 rfl (lv_at hl 3 rfl) ?_
  refine lw_arg C0 hS hl 5 1 rfl rfl hi 1 (by decide) dL_law_313 dL_law_314 dL_law_316 dL_law_317 dL_law_318 ?_
  refine lw_arg C0 hS hl 5 1 rfl rfl hi 2 (by decide) dL_law_319 dL_law_320 dL_law_322 dL_law_323 dL_law_324 ?_
  refine lw_arg C0 hS hl 5 1 rfl rfl hi 3 (by decide) dL_law_325 dL_law_326 dL_law_328 dL_law_329 dL_law_330 ?_
  refine lw_arg C0 hS hl 5 1 rfl rfl hi 4 (by decide) dL_law_331 dL_law_332 dL_law_334 dL_law_335 dL_law_336 ?_
  have hPm := g_P hP (lp_m (LO cyJ qo of1) (MW cyI Q v) (CW cyI cyS aX aS c1))
  have hDm := g_D hD (lp_m (LO cyJ qo of1) (MW cyI Q v) (CW cyI cyS aX aS c1))
  have hFm := g_F hD (lp_m (LO cyJ qo of1) (MW cyI Q v) (CW cyI cyS aX aS c1)) hS hA
  refine g_calli (x1 := fun u : Int32 × Int32 × Int32 × (Nat → Int32) × (Nat → Int32) => (LO cyJ qo of1) :: (MW cyI Q (i7 (u.2.1) (v.1 1) (u.2.2.1) (v.1 3) (v.1 4) (v.1 5) (v.1 6), f6 (u.2.2.2.1) (u.2.2.2.2) (v.2 2) (v.2 3) (v.2 4) (v.2 5)) ++ (CW cyI cyS aX aS c1))) (va_runV (As := [.int (xs (i + 1)), .int (xs (i + 2)), .int (xs (i + 3)), .int (xs (i + 4))]) (rest := []) ⟨hx, hb, hml, hown, hts⟩ (c_X9_setCapacity l dC dI cyI H.size (Q 0) (Q 1) (Q 2) (Q 3) (Q 4) (Q 5) (Q 6) (v.1 0) (v.1 1) (v.1 2) (v.1 3) (v.1 4) (v.1 5) (v.1 6) (v.2 0) (v.2 1) (v.2 2) (v.2 3) (v.2 4) (v.2 5) (xs (i + 1)) (xs (i + 2)) (xs (i + 3)) (xs (i + 4)) hR.hsv.1 hR.hsv.2 hR.G) (cwV 4 hts (gBV b_230 b_231 b_232 b_5 b_233) rfl rfl rfl (by decide +kernel) ⟨Nat.le_of_ble_eq_true rfl, Nat.le_of_ble_eq_true rfl⟩) (prm_v eM_ok trivial hS hPm hDm (hK.sub [0] rfl) hFm 0 rfl rfl rfl) rfl rfl hl.1 rfl (lv_room (Nat.le_of_ble_eq_true rfl)) dL_law_337 ⟨(show _ ≤ 601024 by omega), (show _ ≤ 7293034 by omega)⟩) hP hD hS hA (lp_m (LO cyJ qo of1) (MW cyI Q v) (CW cyI cyS aX aS c1)) (fun u => lp_m' _ _ _) (fun r2 u H locs hw2 hP hD hS => ?_)
  obtain ⟨hu, hr2⟩ := hw2
  subst hu
  rcases hw with ⟨rfl, r0, hp0, ho⟩ | ⟨rfl, hx0, hc1⟩ | ⟨rfl, hx0, hc1⟩
  · obtain ⟨-, -, x0, x1, x2, hm, hC, hk⟩ := hp0
    rw [hm] at hP hD hr2
    exact lw_tail C0 hP hD hS hl rfl (fun _ => by rw [hr2]; exact ho) ⟨hC.up (by omega), hR.2.kp hk⟩ (Nat.add_le_add_left (by omega : 19 ≤ 20) cells) (Nat.add_le_add_left (by omega : 284 ≤ 300) slots) hc hs kk dL_law_340 dL_law_342 dL_law_343 dL_law_346 dL_law_348 dL_law_353 dL_law_355 dL_law_358 dL_law_359 dL_law_360 dL_law_361 dL_law_363 dL_law_364 dL_law_365 dL_law_370 (by decide)
  · replace hc1 : c1 = (iv, av, nm, ro, fa) := hc1
    subst hc1
    rcases hx0 with ⟨h1, hz⟩ | ⟨h1, h2, hz⟩
    · have hm : m_setCapacity (v.1 0) (v.2 0) (v.2 1) (xs (i + 1)) (xs (i + 2)) (xs (i + 3)) (xs (i + 4)) = _ := q_setCapacity_1 h1 _ _
      rw [hm] at hP hD hr2
      exact lw_tail C0 hP hD hS hl rfl (fun h => absurd h (by decide)) ⟨hR.1.up (by omega), hR.2⟩ (Nat.add_le_add_left (by omega : 19 ≤ 20) cells) (Nat.add_le_add_left (by omega : 284 ≤ 300) slots) hc hs kk dL_law_340 dL_law_342 dL_law_343 dL_law_346 dL_law_348 dL_law_353 dL_law_355 dL_law_358 dL_law_359 dL_law_360 dL_law_361 dL_law_363 dL_law_364 dL_law_365 dL_law_370 (by decide)
    · exact absurd hz (by decide)
  · replace hc1 : c1 = (iv, av, nm, ro, fa) := hc1
    subst hc1
    rcases hx0 with ⟨h1, hz⟩ | ⟨h1, h2, hz⟩
    · exact absurd hz (by decide)
    · have hm : m_setCapacity (v.1 0) (v.2 0) (v.2 1) (xs (i + 1)) (xs (i + 2)) (xs (i + 3)) (xs (i + 4)) = _ := q_setCapacity_2 h1 h2 _ _
      rw [hm] at hP hD hr2
      exact lw_tail C0 hP hD hS hl rfl (fun h => absurd h (by decide)) ⟨hR.1.up (by omega), hR.2⟩ (Nat.add_le_add_left (by omega : 19 ≤ 20) cells) (Nat.add_le_add_left (by omega : 284 ≤ 300) slots) hc hs kk dL_law_340 dL_law_342 dL_law_343 dL_law_346 dL_law_348 dL_law_353 dL_law_355 dL_law_358 dL_law_359 dL_law_360 dL_law_361 dL_law_363 dL_law_364 dL_law_365 dL_law_370 (by decide)
set_option maxRecDepth 100000 in
set_option maxHeartbeats 4000000 in
theorem lc_3 (C0 : LCx p l s m meth c b L xs dC dI cyI cyS cyJ) : LT p l e s m below meth c b L dC dI cyI cyS cyJ qo Q aX aS Z 373 := by
  intro H locs of v cc ls i n cells slots hP hD hS hl hR hn hi hc hs kk
  obtain ⟨iv, av, nm, ro, fa⟩ := cc
  obtain ⟨hx, hb, hr, hml, hown, hts, hX, hbl, hL, hst, hK, he⟩ := id C0
  have hA : ∀ q : Nat, s.heap.size ≤ q → lA s q := fun _ h => h
  refine lv_aload_n hx hb dL_law_373 rfl (lv_at hl 3 rfl) ?_
  refine lw_arg C0 hS hl 4 0 rfl rfl hi 1 (by decide) dL_law_374 dL_law_375 dL_law_377 dL_law_378 dL_law_379 ?_
  refine lw_arg C0 hS hl 4 0 rfl rfl hi 2 (by decide) dL_law_380 dL_law_381 dL_law_383 dL_law_384 dL_law_385 ?_
  refine lv_aload_n hx hb dL_law_386 rfl (lv_at hl 1 rfl) ?_
  have hM := fun sz => CX_fillTable l hst dC dI cyI cyS aX aS hR.1 (xs (i + 1)) (xs (i + 2)) sz
  have hH := fun sz => HL_fillTable l dC dI cyI cyS cyJ (aX 0) qo _ (fun u => CW cyI cyS aX aS u) (iv, av, nm, ro, fa) rfl _ _ of (xs (i + 1)) (xs (i + 2)) hM (fun E hE => by
    rcases hE with ⟨h1, rfl⟩ | ⟨h1, h2, rfl⟩
    · exact Or.inl rfl
    · exact Or.inr rfl) sz
  have hPh := g_P hP (lp_h (LO cyJ qo of) (MW cyI Q v) (CW cyI cyS aX aS (iv, av, nm, ro, fa)))
  have hDh := g_D hD (lp_h (LO cyJ qo of) (MW cyI Q v) (CW cyI cyS aX aS (iv, av, nm, ro, fa)))
  have hFh := g_F hD (lp_h (LO cyJ qo of) (MW cyI Q v) (CW cyI cyS aX aS (iv, av, nm, ro, fa))) hS hA
  refine g_calli (x1 := fun u : CS × (Nat → Int64) => LO cyJ qo u.2 :: (MW cyI Q v ++ CW cyI cyS aX aS u.1)) (vx_runSW (As := [.ref (aX 0), .int (xs (i + 1)), .int (xs (i + 2)), .ref qo]) (rest := []) ⟨hx, hb, hml, hown, hts⟩ (vx_Met.noX (hH H.size)) (vx_cwSW 4 hts (gBS b_238 b_239 b_101 b_240) rfl rfl rfl (by decide +kernel) ⟨Nat.le_of_ble_eq_true rfl, Nat.le_of_ble_eq_true rfl⟩) (prm_s eX_ok he hS hPh hDh hK hFh) rfl rfl hl.1 rfl (lv_room (Nat.le_of_ble_eq_true rfl)) dL_law_387 ⟨(show _ ≤ 601024 by omega), (show _ ≤ 7293034 by omega)⟩) hP hD hS hA (lp_h (LO cyJ qo of) (MW cyI Q v) (CW cyI cyS aX aS (iv, av, nm, ro, fa))) (fun u => lp_h' _ _ _) (fun k u H locs hw hP hD hS => ?_)
  obtain ⟨c1, of1⟩ := u
  refine lv_istore (lv' := (5, .int k) :: lwL b (aX 0) (Q 0) qo i) hx hb dL_law_390 hl (by decide) rfl (fun ls hl => ?_)
  refine lv_aload_n hx hb dL_law_392 rfl (lv_at hl 3 rfl) ?_
  refine lw_arg C0 hS hl 5 1 rfl rfl hi 1 (by decide) dL_law_393 dL_law_394 dL_law_396 dL_law_397 dL_law_398 ?_
  refine lw_arg C0 hS hl 5 1 rfl rfl hi 2 (by decide) dL_law_399 dL_law_400 dL_law_402 dL_law_403 dL_law_404 ?_
  have hPm := g_P hP (lp_m (LO cyJ qo of1) (MW cyI Q v) (CW cyI cyS aX aS c1))
  have hDm := g_D hD (lp_m (LO cyJ qo of1) (MW cyI Q v) (CW cyI cyS aX aS c1))
  have hFm := g_F hD (lp_m (LO cyJ qo of1) (MW cyI Q v) (CW cyI cyS aX aS c1)) hS hA
  refine g_calli (x1 := fun u : Int32 × Int32 × Int32 × (Nat → Int32) × (Nat → Int32) => (LO cyJ qo of1) :: (MW cyI Q (i7 (u.2.1) (v.1 1) (u.2.2.1) (v.1 3) (v.1 4) (v.1 5) (v.1 6), f6 (u.2.2.2.1) (u.2.2.2.2) (v.2 2) (v.2 3) (v.2 4) (v.2 5)) ++ (CW cyI cyS aX aS c1))) (va_runV (As := [.int (xs (i + 1)), .int (xs (i + 2))]) (rest := []) ⟨hx, hb, hml, hown, hts⟩ (c_X9_fillTable l dC dI cyI H.size (Q 0) (Q 1) (Q 2) (Q 3) (Q 4) (Q 5) (Q 6) (v.1 0) (v.1 1) (v.1 2) (v.1 3) (v.1 4) (v.1 5) (v.1 6) (v.2 0) (v.2 1) (v.2 2) (v.2 3) (v.2 4) (v.2 5) (xs (i + 1)) (xs (i + 2)) hR.hsv.1 hR.hsv.2 hR.G) (cwV 2 hts (gBV b_259 b_260 b_261 b_5 b_262) rfl rfl rfl (by decide +kernel) ⟨Nat.le_of_ble_eq_true rfl, Nat.le_of_ble_eq_true rfl⟩) (prm_v eM_ok trivial hS hPm hDm (hK.sub [0] rfl) hFm 0 rfl rfl rfl) rfl rfl hl.1 rfl (lv_room (Nat.le_of_ble_eq_true rfl)) dL_law_405 ⟨(show _ ≤ 601024 by omega), (show _ ≤ 7293034 by omega)⟩) hP hD hS hA (lp_m (LO cyJ qo of1) (MW cyI Q v) (CW cyI cyS aX aS c1)) (fun u => lp_m' _ _ _) (fun r2 u H locs hw2 hP hD hS => ?_)
  obtain ⟨hu, hr2⟩ := hw2
  subst hu
  rcases hw with ⟨rfl, r0, hp0, ho⟩ | ⟨rfl, hx0, hc1⟩ | ⟨rfl, hx0, hc1⟩
  · obtain ⟨-, -, x0, x1, x2, hm, hC, hk⟩ := hp0
    rw [hm] at hP hD hr2
    exact lw_tail C0 hP hD hS hl rfl (fun _ => by rw [hr2]; exact ho) ⟨hC.up (by omega), hR.2.kp hk⟩ (Nat.add_le_add_left (by omega : 17 ≤ 20) cells) (Nat.add_le_add_left (by omega : 272 ≤ 300) slots) hc hs kk dL_law_408 dL_law_410 dL_law_411 dL_law_414 dL_law_416 dL_law_421 dL_law_423 dL_law_426 dL_law_427 dL_law_428 dL_law_429 dL_law_431 dL_law_432 dL_law_433 dL_law_438 (by decide)
  · replace hc1 : c1 = (iv, av, nm, ro, fa) := hc1
    subst hc1
    rcases hx0 with ⟨h1, hz⟩ | ⟨h1, h2, hz⟩
    · have hm : m_fillTable (v.1 0) (v.2 0) (v.2 1) (xs (i + 1)) (xs (i + 2)) = _ := q_fillTable_1 h1 _ _
      rw [hm] at hP hD hr2
      exact lw_tail C0 hP hD hS hl rfl (fun h => absurd h (by decide)) ⟨hR.1.up (by omega), hR.2⟩ (Nat.add_le_add_left (by omega : 17 ≤ 20) cells) (Nat.add_le_add_left (by omega : 272 ≤ 300) slots) hc hs kk dL_law_408 dL_law_410 dL_law_411 dL_law_414 dL_law_416 dL_law_421 dL_law_423 dL_law_426 dL_law_427 dL_law_428 dL_law_429 dL_law_431 dL_law_432 dL_law_433 dL_law_438 (by decide)
    · exact absurd hz (by decide)
  · replace hc1 : c1 = (iv, av, nm, ro, fa) := hc1
    subst hc1
    rcases hx0 with ⟨h1, hz⟩ | ⟨h1, h2, hz⟩
    · exact absurd hz (by decide)
    · have hm : m_fillTable (v.1 0) (v.2 0) (v.2 1) (xs (i + 1)) (xs (i + 2)) = _ := q_fillTable_2 h1 h2 _ _
      rw [hm] at hP hD hr2
      exact lw_tail C0 hP hD hS hl rfl (fun h => absurd h (by decide)) ⟨hR.1.up (by omega), hR.2⟩ (Nat.add_le_add_left (by omega : 17 ≤ 20) cells) (Nat.add_le_add_left (by omega : 272 ≤ 300) slots) hc hs kk dL_law_408 dL_law_410 dL_law_411 dL_law_414 dL_law_416 dL_law_421 dL_law_423 dL_law_426 dL_law_427 dL_law_428 dL_law_429 dL_law_431 dL_law_432 dL_law_433 dL_law_438 (by decide)
set_option maxRecDepth 100000 in
set_option maxHeartbeats 4000000 in
theorem lc_4 (C0 : LCx p l s m meth c b L xs dC dI cyI cyS cyJ) : LT p l e s m below meth c b L dC dI cyI cyS cyJ qo Q aX aS Z 441 := by
  intro H locs of v cc ls i n cells slots hP hD hS hl hR hn hi hc hs kk
  obtain ⟨iv, av, nm, ro, fa⟩ := cc
  obtain ⟨hx, hb, hr, hml, hown, hts, hX, hbl, hL, hst, hK, he⟩ := id C0
  have hA : ∀ q : Nat, s.heap.size ≤ q → lA s q := fun _ h => h
  refine lv_aload_n hx hb dL_law_441 rfl (lv_at hl 3 rfl) ?_
  refine lw_arg C0 hS hl 4 0 rfl rfl hi 1 (by decide) dL_law_442 dL_law_443 dL_law_445 dL_law_446 dL_law_447 ?_
  refine lw_arg C0 hS hl 4 0 rfl rfl hi 2 (by decide) dL_law_448 dL_law_449 dL_law_451 dL_law_452 dL_law_453 ?_
  refine lw_arg C0 hS hl 4 0 rfl rfl hi 3 (by decide) dL_law_454 dL_law_455 dL_law_457 dL_law_458 dL_law_459 ?_
  refine lv_aload_n hx hb dL_law_460 rfl (lv_at hl 1 rfl) ?_
  have hM := fun sz => CX_capacity l hst dC dI cyI cyS aX aS hR.1 (xs (i + 1)) (xs (i + 2)) (xs (i + 3)) sz
  have hH := fun sz => HL_capacity l dC dI cyI cyS cyJ (aX 0) qo _ (fun u => CW cyI cyS aX aS u) (iv, av, nm, ro, fa) rfl _ _ of (xs (i + 1)) (xs (i + 2)) (xs (i + 3)) hM (fun E hE => by
    rcases hE with ⟨h1, rfl⟩
    · exact rfl) sz
  have hPh := g_P hP (lp_h (LO cyJ qo of) (MW cyI Q v) (CW cyI cyS aX aS (iv, av, nm, ro, fa)))
  have hDh := g_D hD (lp_h (LO cyJ qo of) (MW cyI Q v) (CW cyI cyS aX aS (iv, av, nm, ro, fa)))
  have hFh := g_F hD (lp_h (LO cyJ qo of) (MW cyI Q v) (CW cyI cyS aX aS (iv, av, nm, ro, fa))) hS hA
  refine g_calli (x1 := fun u : CS × (Nat → Int64) => LO cyJ qo u.2 :: (MW cyI Q v ++ CW cyI cyS aX aS u.1)) (vx_runSW (As := [.ref (aX 0), .int (xs (i + 1)), .int (xs (i + 2)), .int (xs (i + 3)), .ref qo]) (rest := []) ⟨hx, hb, hml, hown, hts⟩ (vx_Met.noX (hH H.size)) (vx_cwSW 5 hts (gBS b_274 b_275 b_101 b_276) rfl rfl rfl (by decide +kernel) ⟨Nat.le_of_ble_eq_true rfl, Nat.le_of_ble_eq_true rfl⟩) (prm_s eX_ok he hS hPh hDh hK hFh) rfl rfl hl.1 rfl (lv_room (Nat.le_of_ble_eq_true rfl)) dL_law_461 ⟨(show _ ≤ 601024 by omega), (show _ ≤ 7293034 by omega)⟩) hP hD hS hA (lp_h (LO cyJ qo of) (MW cyI Q v) (CW cyI cyS aX aS (iv, av, nm, ro, fa))) (fun u => lp_h' _ _ _) (fun k u H locs hw hP hD hS => ?_)
  obtain ⟨c1, of1⟩ := u
  refine lv_istore (lv' := (5, .int k) :: lwL b (aX 0) (Q 0) qo i) hx hb dL_law_464 hl (by decide) rfl (fun ls hl => ?_)
  refine lv_aload_n hx hb dL_law_466 rfl (lv_at hl 3 rfl) ?_
  refine lw_arg C0 hS hl 5 1 rfl rfl hi 1 (by decide) dL_law_467 dL_law_468 dL_law_470 dL_law_471 dL_law_472 ?_
  refine lw_arg C0 hS hl 5 1 rfl rfl hi 2 (by decide) dL_law_473 dL_law_474 dL_law_476 dL_law_477 dL_law_478 ?_
  refine lw_arg C0 hS hl 5 1 rfl rfl hi 3 (by decide) dL_law_479 dL_law_480 dL_law_482 dL_law_483 dL_law_484 ?_
  have hPm := g_P hP (lp_m (LO cyJ qo of1) (MW cyI Q v) (CW cyI cyS aX aS c1))
  have hDm := g_D hD (lp_m (LO cyJ qo of1) (MW cyI Q v) (CW cyI cyS aX aS c1))
  have hFm := g_F hD (lp_m (LO cyJ qo of1) (MW cyI Q v) (CW cyI cyS aX aS c1)) hS hA
  refine g_calli (x1 := fun u : Int32 × Int32 => (LO cyJ qo of1) :: (MW cyI Q (i7 (v.1 0) (v.1 1) (u.2) (v.1 3) (v.1 4) (v.1 5) (v.1 6), f6 (v.2 0) (v.2 1) (v.2 2) (v.2 3) (v.2 4) (v.2 5)) ++ (CW cyI cyS aX aS c1))) (va_runV (As := [.int (xs (i + 1)), .int (xs (i + 2)), .int (xs (i + 3))]) (rest := []) ⟨hx, hb, hml, hown, hts⟩ (c_X9_capacity l dC dI cyI H.size (Q 0) (Q 1) (Q 2) (Q 3) (Q 4) (Q 5) (Q 6) (v.1 0) (v.1 1) (v.1 2) (v.1 3) (v.1 4) (v.1 5) (v.1 6) (v.2 0) (v.2 1) (v.2 2) (v.2 3) (v.2 4) (v.2 5) (xs (i + 1)) (xs (i + 2)) (xs (i + 3))) (cwV 3 hts (gBV b_281 b_282 b_283 b_5 b_284) rfl rfl rfl (by decide +kernel) ⟨Nat.le_of_ble_eq_true rfl, Nat.le_of_ble_eq_true rfl⟩) (prm_v eM_ok trivial hS hPm hDm (hK.sub [0] rfl) hFm 0 rfl rfl rfl) rfl rfl hl.1 rfl (lv_room (Nat.le_of_ble_eq_true rfl)) dL_law_485 ⟨(show _ ≤ 601024 by omega), (show _ ≤ 7293034 by omega)⟩) hP hD hS hA (lp_m (LO cyJ qo of1) (MW cyI Q v) (CW cyI cyS aX aS c1)) (fun u => lp_m' _ _ _) (fun r2 u H locs hw2 hP hD hS => ?_)
  obtain ⟨hu, hr2⟩ := hw2
  subst hu
  rcases hw with ⟨rfl, r0, hp0, ho⟩ | ⟨rfl, hx0, hc1⟩
  · obtain ⟨-, hm, hC, hk⟩ := hp0
    rw [hm] at hP hD hr2
    exact lw_tail C0 hP hD hS hl rfl (fun _ => by rw [hr2]; exact ho) ⟨hC.up (by omega), hR.2.kp hk⟩ (Nat.add_le_add_left (by omega : 3 ≤ 20) cells) (Nat.add_le_add_left (by omega : 18 ≤ 300) slots) hc hs kk dL_law_488 dL_law_490 dL_law_491 dL_law_494 dL_law_496 dL_law_501 dL_law_503 dL_law_506 dL_law_507 dL_law_508 dL_law_509 dL_law_511 dL_law_512 dL_law_513 dL_law_518 (by decide)
  · replace hc1 : c1 = (iv, av, nm, ro, fa) := hc1
    subst hc1
    rcases hx0 with ⟨h1, hz⟩
    · have hm : m_capacity (v.2 0) (xs (i + 1)) (xs (i + 2)) (xs (i + 3)) = _ := q_capacity_1 h1
      rw [hm] at hP hD hr2
      exact lw_tail C0 hP hD hS hl rfl (fun h => absurd h (by decide)) ⟨hR.1.up (by omega), hR.2⟩ (Nat.add_le_add_left (by omega : 3 ≤ 20) cells) (Nat.add_le_add_left (by omega : 18 ≤ 300) slots) hc hs kk dL_law_488 dL_law_490 dL_law_491 dL_law_494 dL_law_496 dL_law_501 dL_law_503 dL_law_506 dL_law_507 dL_law_508 dL_law_509 dL_law_511 dL_law_512 dL_law_513 dL_law_518 (by decide)
set_option maxRecDepth 100000 in
set_option maxHeartbeats 4000000 in
theorem lc_5 (C0 : LCx p l s m meth c b L xs dC dI cyI cyS cyJ) : LT p l e s m below meth c b L dC dI cyI cyS cyJ qo Q aX aS Z 521 := by
  intro H locs of v cc ls i n cells slots hP hD hS hl hR hn hi hc hs kk
  obtain ⟨iv, av, nm, ro, fa⟩ := cc
  obtain ⟨hx, hb, hr, hml, hown, hts, hX, hbl, hL, hst, hK, he⟩ := id C0
  have hA : ∀ q : Nat, s.heap.size ≤ q → lA s q := fun _ h => h
  refine lv_aload_n hx hb dL_law_521 rfl (lv_at hl 3 rfl) ?_
  refine lw_arg C0 hS hl 4 0 rfl rfl hi 1 (by decide) dL_law_522 dL_law_523 dL_law_525 dL_law_526 dL_law_527 ?_
  refine lw_arg C0 hS hl 4 0 rfl rfl hi 2 (by decide) dL_law_528 dL_law_529 dL_law_531 dL_law_532 dL_law_533 ?_
  refine lw_arg C0 hS hl 4 0 rfl rfl hi 3 (by decide) dL_law_534 dL_law_535 dL_law_537 dL_law_538 dL_law_539 ?_
  refine lw_arg C0 hS hl 4 0 rfl rfl hi 4 (by decide) dL_law_540 dL_law_541 dL_law_543 dL_law_544 dL_law_545 ?_
  refine lv_aload_n hx hb dL_law_546 rfl (lv_at hl 1 rfl) ?_
  have hM := fun sz => CX_addZone l hst dC dI cyI cyS aX aS hR.1 (xs (i + 1)) (xs (i + 2)) (xs (i + 3)) (xs (i + 4)) sz
  have hH := fun sz => HL_addZone l dC dI cyI cyS cyJ (aX 0) qo _ (fun u => CW cyI cyS aX aS u) (iv, av, nm, ro, fa) rfl _ _ of (xs (i + 1)) (xs (i + 2)) (xs (i + 3)) (xs (i + 4)) hM (fun E hE => by
    rcases hE with ⟨h1, rfl⟩ | ⟨h1, h2, rfl⟩ | ⟨h1, h2, h3, rfl⟩ | ⟨h1, h2, h3, h4, rfl⟩ | ⟨h1, h2, h3, h4, h5, rfl⟩
    · exact Or.inl rfl
    · exact Or.inl rfl
    · exact Or.inl rfl
    · exact Or.inl rfl
    · exact Or.inr rfl) sz
  have hPh := g_P hP (lp_h (LO cyJ qo of) (MW cyI Q v) (CW cyI cyS aX aS (iv, av, nm, ro, fa)))
  have hDh := g_D hD (lp_h (LO cyJ qo of) (MW cyI Q v) (CW cyI cyS aX aS (iv, av, nm, ro, fa)))
  have hFh := g_F hD (lp_h (LO cyJ qo of) (MW cyI Q v) (CW cyI cyS aX aS (iv, av, nm, ro, fa))) hS hA
  refine g_calli (x1 := fun u : CS × (Nat → Int64) => LO cyJ qo u.2 :: (MW cyI Q v ++ CW cyI cyS aX aS u.1)) (vx_runSW (As := [.ref (aX 0), .int (xs (i + 1)), .int (xs (i + 2)), .int (xs (i + 3)), .int (xs (i + 4)), .ref qo]) (rest := []) ⟨hx, hb, hml, hown, hts⟩ (vx_Met.noX (hH H.size)) (vx_cwSW 6 hts (gBS b_289 b_290 b_101 b_291) rfl rfl rfl (by decide +kernel) ⟨Nat.le_of_ble_eq_true rfl, Nat.le_of_ble_eq_true rfl⟩) (prm_s eX_ok he hS hPh hDh hK hFh) rfl rfl hl.1 rfl (lv_room (Nat.le_of_ble_eq_true rfl)) dL_law_547 ⟨(show _ ≤ 601024 by omega), (show _ ≤ 7293034 by omega)⟩) hP hD hS hA (lp_h (LO cyJ qo of) (MW cyI Q v) (CW cyI cyS aX aS (iv, av, nm, ro, fa))) (fun u => lp_h' _ _ _) (fun k u H locs hw hP hD hS => ?_)
  obtain ⟨c1, of1⟩ := u
  refine lv_istore (lv' := (5, .int k) :: lwL b (aX 0) (Q 0) qo i) hx hb dL_law_550 hl (by decide) rfl (fun ls hl => ?_)
  refine lv_aload_n hx hb dL_law_552 rfl (lv_at hl 3 rfl) ?_
  refine lw_arg C0 hS hl 5 1 rfl rfl hi 1 (by decide) dL_law_553 dL_law_554 dL_law_556 dL_law_557 dL_law_558 ?_
  refine lw_arg C0 hS hl 5 1 rfl rfl hi 2 (by decide) dL_law_559 dL_law_560 dL_law_562 dL_law_563 dL_law_564 ?_
  refine lw_arg C0 hS hl 5 1 rfl rfl hi 3 (by decide) dL_law_565 dL_law_566 dL_law_568 dL_law_569 dL_law_570 ?_
  refine lw_arg C0 hS hl 5 1 rfl rfl hi 4 (by decide) dL_law_571 dL_law_572 dL_law_574 dL_law_575 dL_law_576 ?_
  have hPm := g_P hP (lp_m (LO cyJ qo of1) (MW cyI Q v) (CW cyI cyS aX aS c1))
  have hDm := g_D hD (lp_m (LO cyJ qo of1) (MW cyI Q v) (CW cyI cyS aX aS c1))
  have hFm := g_F hD (lp_m (LO cyJ qo of1) (MW cyI Q v) (CW cyI cyS aX aS c1)) hS hA
  refine g_calli (x1 := fun u : Int32 × Int32 × Int32 × (Nat → Int32) × (Nat → Int32) => (LO cyJ qo of1) :: (MW cyI Q (i7 (u.2.1) (v.1 1) (u.2.2.1) (v.1 3) (v.1 4) (v.1 5) (v.1 6), f6 (u.2.2.2.1) (u.2.2.2.2) (v.2 2) (v.2 3) (v.2 4) (v.2 5)) ++ (CW cyI cyS aX aS c1))) (va_runV (As := [.int (xs (i + 1)), .int (xs (i + 2)), .int (xs (i + 3)), .int (xs (i + 4))]) (rest := []) ⟨hx, hb, hml, hown, hts⟩ (c_X9_addZone l dC dI cyI H.size (Q 0) (Q 1) (Q 2) (Q 3) (Q 4) (Q 5) (Q 6) (v.1 0) (v.1 1) (v.1 2) (v.1 3) (v.1 4) (v.1 5) (v.1 6) (v.2 0) (v.2 1) (v.2 2) (v.2 3) (v.2 4) (v.2 5) (xs (i + 1)) (xs (i + 2)) (xs (i + 3)) (xs (i + 4)) hR.hsv.1 hR.hsv.2 hR.G) (cwV 4 hts (gBV b_311 b_312 b_313 b_5 b_314) rfl rfl rfl (by decide +kernel) ⟨Nat.le_of_ble_eq_true rfl, Nat.le_of_ble_eq_true rfl⟩) (prm_v eM_ok trivial hS hPm hDm (hK.sub [0] rfl) hFm 0 rfl rfl rfl) rfl rfl hl.1 rfl (lv_room (Nat.le_of_ble_eq_true rfl)) dL_law_577 ⟨(show _ ≤ 601024 by omega), (show _ ≤ 7293034 by omega)⟩) hP hD hS hA (lp_m (LO cyJ qo of1) (MW cyI Q v) (CW cyI cyS aX aS c1)) (fun u => lp_m' _ _ _) (fun r2 u H locs hw2 hP hD hS => ?_)
  obtain ⟨hu, hr2⟩ := hw2
  subst hu
  rcases hw with ⟨rfl, r0, hp0, ho⟩ | ⟨rfl, hx0, hc1⟩ | ⟨rfl, hx0, hc1⟩
  · obtain ⟨-, -, -, -, -, x0, x1, x2, hm, hC, hk⟩ := hp0
    rw [hm] at hP hD hr2
    exact lw_tail C0 hP hD hS hl rfl (fun _ => by rw [hr2]; exact ho) ⟨hC.up (by omega), hR.2.kp hk⟩ (Nat.add_le_add_left (by omega : 20 ≤ 20) cells) (Nat.add_le_add_left (by omega : 290 ≤ 300) slots) hc hs kk dL_law_580 dL_law_582 dL_law_583 dL_law_586 dL_law_588 dL_law_593 dL_law_595 dL_law_598 dL_law_599 dL_law_600 dL_law_601 dL_law_603 dL_law_604 dL_law_605 dL_law_610 (by decide)
  · replace hc1 : c1 = (iv, av, nm, ro, fa) := hc1
    subst hc1
    rcases hx0 with ⟨h1, hz⟩ | ⟨h1, h2, hz⟩ | ⟨h1, h2, h3, hz⟩ | ⟨h1, h2, h3, h4, hz⟩ | ⟨h1, h2, h3, h4, h5, hz⟩
    · have hm : m_addZone (v.1 0) (v.2 0) (v.2 1) (xs (i + 1)) (xs (i + 2)) (xs (i + 3)) (xs (i + 4)) = _ := q_addZone_1 (fun k => h1 k.1) _ _
      rw [hm] at hP hD hr2
      exact lw_tail C0 hP hD hS hl rfl (fun h => absurd h (by decide)) ⟨hR.1.up (by omega), hR.2⟩ (Nat.add_le_add_left (by omega : 20 ≤ 20) cells) (Nat.add_le_add_left (by omega : 290 ≤ 300) slots) hc hs kk dL_law_580 dL_law_582 dL_law_583 dL_law_586 dL_law_588 dL_law_593 dL_law_595 dL_law_598 dL_law_599 dL_law_600 dL_law_601 dL_law_603 dL_law_604 dL_law_605 dL_law_610 (by decide)
    · have hm : m_addZone (v.1 0) (v.2 0) (v.2 1) (xs (i + 1)) (xs (i + 2)) (xs (i + 3)) (xs (i + 4)) = _ := q_addZone_1 (fun k => h2 k.2.1) _ _
      rw [hm] at hP hD hr2
      exact lw_tail C0 hP hD hS hl rfl (fun h => absurd h (by decide)) ⟨hR.1.up (by omega), hR.2⟩ (Nat.add_le_add_left (by omega : 20 ≤ 20) cells) (Nat.add_le_add_left (by omega : 290 ≤ 300) slots) hc hs kk dL_law_580 dL_law_582 dL_law_583 dL_law_586 dL_law_588 dL_law_593 dL_law_595 dL_law_598 dL_law_599 dL_law_600 dL_law_601 dL_law_603 dL_law_604 dL_law_605 dL_law_610 (by decide)
    · have hm : m_addZone (v.1 0) (v.2 0) (v.2 1) (xs (i + 1)) (xs (i + 2)) (xs (i + 3)) (xs (i + 4)) = _ := q_addZone_1 (fun k => h3 k.2.2.1) _ _
      rw [hm] at hP hD hr2
      exact lw_tail C0 hP hD hS hl rfl (fun h => absurd h (by decide)) ⟨hR.1.up (by omega), hR.2⟩ (Nat.add_le_add_left (by omega : 20 ≤ 20) cells) (Nat.add_le_add_left (by omega : 290 ≤ 300) slots) hc hs kk dL_law_580 dL_law_582 dL_law_583 dL_law_586 dL_law_588 dL_law_593 dL_law_595 dL_law_598 dL_law_599 dL_law_600 dL_law_601 dL_law_603 dL_law_604 dL_law_605 dL_law_610 (by decide)
    · have hm : m_addZone (v.1 0) (v.2 0) (v.2 1) (xs (i + 1)) (xs (i + 2)) (xs (i + 3)) (xs (i + 4)) = _ := q_addZone_1 (fun k => h4 k.2.2.2) _ _
      rw [hm] at hP hD hr2
      exact lw_tail C0 hP hD hS hl rfl (fun h => absurd h (by decide)) ⟨hR.1.up (by omega), hR.2⟩ (Nat.add_le_add_left (by omega : 20 ≤ 20) cells) (Nat.add_le_add_left (by omega : 290 ≤ 300) slots) hc hs kk dL_law_580 dL_law_582 dL_law_583 dL_law_586 dL_law_588 dL_law_593 dL_law_595 dL_law_598 dL_law_599 dL_law_600 dL_law_601 dL_law_603 dL_law_604 dL_law_605 dL_law_610 (by decide)
    · exact absurd hz (by decide)
  · replace hc1 : c1 = (iv, av, nm, ro, fa) := hc1
    subst hc1
    rcases hx0 with ⟨h1, hz⟩ | ⟨h1, h2, hz⟩ | ⟨h1, h2, h3, hz⟩ | ⟨h1, h2, h3, h4, hz⟩ | ⟨h1, h2, h3, h4, h5, hz⟩
    · exact absurd hz (by decide)
    · exact absurd hz (by decide)
    · exact absurd hz (by decide)
    · exact absurd hz (by decide)
    · have hm : m_addZone (v.1 0) (v.2 0) (v.2 1) (xs (i + 1)) (xs (i + 2)) (xs (i + 3)) (xs (i + 4)) = _ := q_addZone_2 hR.1.1 h1 h2 h3 h4 h5 _ _
      rw [hm] at hP hD hr2
      exact lw_tail C0 hP hD hS hl rfl (fun h => absurd h (by decide)) ⟨hR.1.up (by omega), hR.2⟩ (Nat.add_le_add_left (by omega : 20 ≤ 20) cells) (Nat.add_le_add_left (by omega : 290 ≤ 300) slots) hc hs kk dL_law_580 dL_law_582 dL_law_583 dL_law_586 dL_law_588 dL_law_593 dL_law_595 dL_law_598 dL_law_599 dL_law_600 dL_law_601 dL_law_603 dL_law_604 dL_law_605 dL_law_610 (by decide)
set_option maxRecDepth 100000 in
set_option maxHeartbeats 4000000 in
theorem lc_6 (C0 : LCx p l s m meth c b L xs dC dI cyI cyS cyJ) : LT p l e s m below meth c b L dC dI cyI cyS cyJ qo Q aX aS Z 613 := by
  intro H locs of v cc ls i n cells slots hP hD hS hl hR hn hi hc hs kk
  obtain ⟨iv, av, nm, ro, fa⟩ := cc
  obtain ⟨hx, hb, hr, hml, hown, hts, hX, hbl, hL, hst, hK, he⟩ := id C0
  have hA : ∀ q : Nat, s.heap.size ≤ q → lA s q := fun _ h => h
  refine lv_aload_n hx hb dL_law_613 rfl (lv_at hl 3 rfl) ?_
  refine lw_arg C0 hS hl 4 0 rfl rfl hi 1 (by decide) dL_law_614 dL_law_615 dL_law_617 dL_law_618 dL_law_619 ?_
  refine lv_aload_n hx hb dL_law_620 rfl (lv_at hl 1 rfl) ?_
  have hM := fun sz => CX_removeZone l hst dC dI cyI cyS aX aS hR.1 (xs (i + 1)) sz
  have hH := fun sz => HL_removeZone l dC dI cyI cyS cyJ (aX 0) qo _ (fun u => CW cyI cyS aX aS u) (iv, av, nm, ro, fa) rfl _ _ of (xs (i + 1)) hM (fun E hE => by
    rcases hE with ⟨h1, rfl⟩
    · exact rfl) sz
  have hPh := g_P hP (lp_h (LO cyJ qo of) (MW cyI Q v) (CW cyI cyS aX aS (iv, av, nm, ro, fa)))
  have hDh := g_D hD (lp_h (LO cyJ qo of) (MW cyI Q v) (CW cyI cyS aX aS (iv, av, nm, ro, fa)))
  have hFh := g_F hD (lp_h (LO cyJ qo of) (MW cyI Q v) (CW cyI cyS aX aS (iv, av, nm, ro, fa))) hS hA
  refine g_calli (x1 := fun u : CS × (Nat → Int64) => LO cyJ qo u.2 :: (MW cyI Q v ++ CW cyI cyS aX aS u.1)) (vx_runSW (As := [.ref (aX 0), .int (xs (i + 1)), .ref qo]) (rest := []) ⟨hx, hb, hml, hown, hts⟩ (vx_Met.noX (hH H.size)) (vx_cwSW 3 hts (gBS b_315 b_316 b_101 b_317) rfl rfl rfl (by decide +kernel) ⟨Nat.le_of_ble_eq_true rfl, Nat.le_of_ble_eq_true rfl⟩) (prm_s eX_ok he hS hPh hDh hK hFh) rfl rfl hl.1 rfl (lv_room (Nat.le_of_ble_eq_true rfl)) dL_law_621 ⟨(show _ ≤ 601024 by omega), (show _ ≤ 7293034 by omega)⟩) hP hD hS hA (lp_h (LO cyJ qo of) (MW cyI Q v) (CW cyI cyS aX aS (iv, av, nm, ro, fa))) (fun u => lp_h' _ _ _) (fun k u H locs hw hP hD hS => ?_)
  obtain ⟨c1, of1⟩ := u
  refine lv_istore (lv' := (5, .int k) :: lwL b (aX 0) (Q 0) qo i) hx hb dL_law_624 hl (by decide) rfl (fun ls hl => ?_)
  refine lv_aload_n hx hb dL_law_626 rfl (lv_at hl 3 rfl) ?_
  refine lw_arg C0 hS hl 5 1 rfl rfl hi 1 (by decide) dL_law_627 dL_law_628 dL_law_630 dL_law_631 dL_law_632 ?_
  have hPm := g_P hP (lp_m (LO cyJ qo of1) (MW cyI Q v) (CW cyI cyS aX aS c1))
  have hDm := g_D hD (lp_m (LO cyJ qo of1) (MW cyI Q v) (CW cyI cyS aX aS c1))
  have hFm := g_F hD (lp_m (LO cyJ qo of1) (MW cyI Q v) (CW cyI cyS aX aS c1)) hS hA
  refine g_calli (x1 := fun u : Int32 × Int32 × Int32 × (Nat → Int32) × (Nat → Int32) => (LO cyJ qo of1) :: (MW cyI Q (i7 (u.2.1) (v.1 1) (u.2.2.1) (v.1 3) (v.1 4) (v.1 5) (v.1 6), f6 (u.2.2.2.1) (u.2.2.2.2) (v.2 2) (v.2 3) (v.2 4) (v.2 5)) ++ (CW cyI cyS aX aS c1))) (va_runV (As := [.int (xs (i + 1))]) (rest := []) ⟨hx, hb, hml, hown, hts⟩ (c_X9_removeZone l dC dI cyI H.size (Q 0) (Q 1) (Q 2) (Q 3) (Q 4) (Q 5) (Q 6) (v.1 0) (v.1 1) (v.1 2) (v.1 3) (v.1 4) (v.1 5) (v.1 6) (v.2 0) (v.2 1) (v.2 2) (v.2 3) (v.2 4) (v.2 5) (xs (i + 1)) hR.hsv.1 hR.hsv.2 hR.G) (cwV 1 hts (gBV b_326 b_327 b_328 b_5 b_329) rfl rfl rfl (by decide +kernel) ⟨Nat.le_of_ble_eq_true rfl, Nat.le_of_ble_eq_true rfl⟩) (prm_v eM_ok trivial hS hPm hDm (hK.sub [0] rfl) hFm 0 rfl rfl rfl) rfl rfl hl.1 rfl (lv_room (Nat.le_of_ble_eq_true rfl)) dL_law_633 ⟨(show _ ≤ 601024 by omega), (show _ ≤ 7293034 by omega)⟩) hP hD hS hA (lp_m (LO cyJ qo of1) (MW cyI Q v) (CW cyI cyS aX aS c1)) (fun u => lp_m' _ _ _) (fun r2 u H locs hw2 hP hD hS => ?_)
  obtain ⟨hu, hr2⟩ := hw2
  subst hu
  rcases hw with ⟨rfl, r0, hp0, ho⟩ | ⟨rfl, hx0, hc1⟩
  · obtain ⟨-, x0, x1, x2, hm, hC, hk⟩ := hp0
    rw [hm] at hP hD hr2
    exact lw_tail C0 hP hD hS hl rfl (fun _ => by rw [hr2]; exact ho) ⟨hC.up (by omega), hR.2.kp hk⟩ (Nat.add_le_add_left (by omega : 16 ≤ 20) cells) (Nat.add_le_add_left (by omega : 266 ≤ 300) slots) hc hs kk dL_law_636 dL_law_638 dL_law_639 dL_law_642 dL_law_644 dL_law_649 dL_law_651 dL_law_654 dL_law_655 dL_law_656 dL_law_657 dL_law_659 dL_law_660 dL_law_661 dL_law_666 (by decide)
  · replace hc1 : c1 = (iv, av, nm, ro, fa) := hc1
    subst hc1
    rcases hx0 with ⟨h1, hz⟩
    · have hm : m_removeZone (v.1 0) (v.2 0) (v.2 1) (xs (i + 1)) = _ := q_removeZone_1 hR.1.1 h1 _ _
      rw [hm] at hP hD hr2
      exact lw_tail C0 hP hD hS hl rfl (fun h => absurd h (by decide)) ⟨hR.1.up (by omega), hR.2⟩ (Nat.add_le_add_left (by omega : 16 ≤ 20) cells) (Nat.add_le_add_left (by omega : 266 ≤ 300) slots) hc hs kk dL_law_636 dL_law_638 dL_law_639 dL_law_642 dL_law_644 dL_law_649 dL_law_651 dL_law_654 dL_law_655 dL_law_656 dL_law_657 dL_law_659 dL_law_660 dL_law_661 dL_law_666 (by decide)
set_option maxRecDepth 100000 in
set_option maxHeartbeats 4000000 in
theorem lc_7 (C0 : LCx p l s m meth c b L xs dC dI cyI cyS cyJ) : LT p l e s m below meth c b L dC dI cyI cyS cyJ qo Q aX aS Z 669 := by
  intro H locs of v cc ls i n cells slots hP hD hS hl hR hn hi hc hs kk
  obtain ⟨iv, av, nm, ro, fa⟩ := cc
  obtain ⟨hx, hb, hr, hml, hown, hts, hX, hbl, hL, hst, hK, he⟩ := id C0
  have hA : ∀ q : Nat, s.heap.size ≤ q → lA s q := fun _ h => h
  refine lv_aload_n hx hb dL_law_669 rfl (lv_at hl 3 rfl) ?_
  refine lw_arg C0 hS hl 4 0 rfl rfl hi 1 (by decide) dL_law_670 dL_law_671 dL_law_673 dL_law_674 dL_law_675 ?_
  refine lw_arg C0 hS hl 4 0 rfl rfl hi 2 (by decide) dL_law_676 dL_law_677 dL_law_679 dL_law_680 dL_law_681 ?_
  refine lw_arg C0 hS hl 4 0 rfl rfl hi 3 (by decide) dL_law_682 dL_law_683 dL_law_685 dL_law_686 dL_law_687 ?_
  refine lv_aload_n hx hb dL_law_688 rfl (lv_at hl 1 rfl) ?_
  have hM := fun sz => CX_setBoom l hst dC dI cyI cyS aX aS hR.1 (xs (i + 1)) (xs (i + 2)) (xs (i + 3)) sz
  have hH := fun sz => HL_setBoom l dC dI cyI cyS cyJ (aX 0) qo _ (fun u => CW cyI cyS aX aS u) (iv, av, nm, ro, fa) rfl _ _ of (xs (i + 1)) (xs (i + 2)) (xs (i + 3)) hM (fun E hE => by
    rcases hE with ⟨h1, rfl⟩ | ⟨h1, h2, rfl⟩
    · exact Or.inl rfl
    · exact Or.inr rfl) sz
  have hPh := g_P hP (lp_h (LO cyJ qo of) (MW cyI Q v) (CW cyI cyS aX aS (iv, av, nm, ro, fa)))
  have hDh := g_D hD (lp_h (LO cyJ qo of) (MW cyI Q v) (CW cyI cyS aX aS (iv, av, nm, ro, fa)))
  have hFh := g_F hD (lp_h (LO cyJ qo of) (MW cyI Q v) (CW cyI cyS aX aS (iv, av, nm, ro, fa))) hS hA
  refine g_calli (x1 := fun u : CS × (Nat → Int64) => LO cyJ qo u.2 :: (MW cyI Q v ++ CW cyI cyS aX aS u.1)) (vx_runSW (As := [.ref (aX 0), .int (xs (i + 1)), .int (xs (i + 2)), .int (xs (i + 3)), .ref qo]) (rest := []) ⟨hx, hb, hml, hown, hts⟩ (vx_Met.noX (hH H.size)) (vx_cwSW 5 hts (gBS b_330 b_331 b_101 b_332) rfl rfl rfl (by decide +kernel) ⟨Nat.le_of_ble_eq_true rfl, Nat.le_of_ble_eq_true rfl⟩) (prm_s eX_ok he hS hPh hDh hK hFh) rfl rfl hl.1 rfl (lv_room (Nat.le_of_ble_eq_true rfl)) dL_law_689 ⟨(show _ ≤ 601024 by omega), (show _ ≤ 7293034 by omega)⟩) hP hD hS hA (lp_h (LO cyJ qo of) (MW cyI Q v) (CW cyI cyS aX aS (iv, av, nm, ro, fa))) (fun u => lp_h' _ _ _) (fun k u H locs hw hP hD hS => ?_)
  obtain ⟨c1, of1⟩ := u
  refine lv_istore (lv' := (5, .int k) :: lwL b (aX 0) (Q 0) qo i) hx hb dL_law_692 hl (by decide) rfl (fun ls hl => ?_)
  refine lv_aload_n hx hb dL_law_694 rfl (lv_at hl 3 rfl) ?_
  refine lw_arg C0 hS hl 5 1 rfl rfl hi 1 (by decide) dL_law_695 dL_law_696 dL_law_698 dL_law_699 dL_law_700 ?_
  refine lw_arg C0 hS hl 5 1 rfl rfl hi 2 (by decide) dL_law_701 dL_law_702 dL_law_704 dL_law_705 dL_law_706 ?_
  refine lw_arg C0 hS hl 5 1 rfl rfl hi 3 (by decide) dL_law_707 dL_law_708 dL_law_710 dL_law_711 dL_law_712 ?_
  have hPm := g_P hP (lp_m (LO cyJ qo of1) (MW cyI Q v) (CW cyI cyS aX aS c1))
  have hDm := g_D hD (lp_m (LO cyJ qo of1) (MW cyI Q v) (CW cyI cyS aX aS c1))
  have hFm := g_F hD (lp_m (LO cyJ qo of1) (MW cyI Q v) (CW cyI cyS aX aS c1)) hS hA
  refine g_calli (x1 := fun u : Int32 × Int32 × Int32 × (Nat → Int32) × (Nat → Int32) => (LO cyJ qo of1) :: (MW cyI Q (i7 (u.2.1) (v.1 1) (u.2.2.1) (v.1 3) (v.1 4) (v.1 5) (v.1 6), f6 (u.2.2.2.1) (u.2.2.2.2) (v.2 2) (v.2 3) (v.2 4) (v.2 5)) ++ (CW cyI cyS aX aS c1))) (va_runV (As := [.int (xs (i + 1)), .int (xs (i + 2)), .int (xs (i + 3))]) (rest := []) ⟨hx, hb, hml, hown, hts⟩ (c_X9_setBoom l dC dI cyI H.size (Q 0) (Q 1) (Q 2) (Q 3) (Q 4) (Q 5) (Q 6) (v.1 0) (v.1 1) (v.1 2) (v.1 3) (v.1 4) (v.1 5) (v.1 6) (v.2 0) (v.2 1) (v.2 2) (v.2 3) (v.2 4) (v.2 5) (xs (i + 1)) (xs (i + 2)) (xs (i + 3)) hR.hsv.1 hR.hsv.2 hR.G) (cwV 3 hts (gBV b_369 b_370 b_371 b_5 b_372) rfl rfl rfl (by decide +kernel) ⟨Nat.le_of_ble_eq_true rfl, Nat.le_of_ble_eq_true rfl⟩) (prm_v eM_ok trivial hS hPm hDm (hK.sub [0] rfl) hFm 0 rfl rfl rfl) rfl rfl hl.1 rfl (lv_room (Nat.le_of_ble_eq_true rfl)) dL_law_713 ⟨(show _ ≤ 601024 by omega), (show _ ≤ 7293034 by omega)⟩) hP hD hS hA (lp_m (LO cyJ qo of1) (MW cyI Q v) (CW cyI cyS aX aS c1)) (fun u => lp_m' _ _ _) (fun r2 u H locs hw2 hP hD hS => ?_)
  obtain ⟨hu, hr2⟩ := hw2
  subst hu
  rcases hw with ⟨rfl, r0, hp0, ho⟩ | ⟨rfl, hx0, hc1⟩ | ⟨rfl, hx0, hc1⟩
  · obtain ⟨-, -, x0, x1, x2, hm, hC, hk⟩ := hp0
    rw [hm] at hP hD hr2
    exact lw_tail C0 hP hD hS hl rfl (fun _ => by rw [hr2]; exact ho) ⟨hC.up (by omega), hR.2.kp hk⟩ (Nat.add_le_add_left (by omega : 19 ≤ 20) cells) (Nat.add_le_add_left (by omega : 284 ≤ 300) slots) hc hs kk dL_law_716 dL_law_718 dL_law_719 dL_law_722 dL_law_724 dL_law_729 dL_law_731 dL_law_734 dL_law_735 dL_law_736 dL_law_737 dL_law_739 dL_law_740 dL_law_741 dL_law_746 (by decide)
  · replace hc1 : c1 = (iv, av, nm, ro, fa) := hc1
    subst hc1
    rcases hx0 with ⟨h1, hz⟩ | ⟨h1, h2, hz⟩
    · have hm : m_setBoom (v.1 0) (v.2 0) (v.2 1) (xs (i + 1)) (xs (i + 2)) (xs (i + 3)) = _ := q_setBoom_1 h1 _ _
      rw [hm] at hP hD hr2
      exact lw_tail C0 hP hD hS hl rfl (fun h => absurd h (by decide)) ⟨hR.1.up (by omega), hR.2⟩ (Nat.add_le_add_left (by omega : 19 ≤ 20) cells) (Nat.add_le_add_left (by omega : 284 ≤ 300) slots) hc hs kk dL_law_716 dL_law_718 dL_law_719 dL_law_722 dL_law_724 dL_law_729 dL_law_731 dL_law_734 dL_law_735 dL_law_736 dL_law_737 dL_law_739 dL_law_740 dL_law_741 dL_law_746 (by decide)
    · exact absurd hz (by decide)
  · replace hc1 : c1 = (iv, av, nm, ro, fa) := hc1
    subst hc1
    rcases hx0 with ⟨h1, hz⟩ | ⟨h1, h2, hz⟩
    · exact absurd hz (by decide)
    · have hm : m_setBoom (v.1 0) (v.2 0) (v.2 1) (xs (i + 1)) (xs (i + 2)) (xs (i + 3)) = _ := q_setBoom_2 hR.1.1 h1 h2 _ _
      rw [hm] at hP hD hr2
      exact lw_tail C0 hP hD hS hl rfl (fun h => absurd h (by decide)) ⟨hR.1.up (by omega), hR.2⟩ (Nat.add_le_add_left (by omega : 19 ≤ 20) cells) (Nat.add_le_add_left (by omega : 284 ≤ 300) slots) hc hs kk dL_law_716 dL_law_718 dL_law_719 dL_law_722 dL_law_724 dL_law_729 dL_law_731 dL_law_734 dL_law_735 dL_law_736 dL_law_737 dL_law_739 dL_law_740 dL_law_741 dL_law_746 (by decide)
set_option maxRecDepth 100000 in
set_option maxHeartbeats 4000000 in
theorem lc_8 (C0 : LCx p l s m meth c b L xs dC dI cyI cyS cyJ) : LT p l e s m below meth c b L dC dI cyI cyS cyJ qo Q aX aS Z 749 := by
  intro H locs of v cc ls i n cells slots hP hD hS hl hR hn hi hc hs kk
  obtain ⟨iv, av, nm, ro, fa⟩ := cc
  obtain ⟨hx, hb, hr, hml, hown, hts, hX, hbl, hL, hst, hK, he⟩ := id C0
  have hA : ∀ q : Nat, s.heap.size ≤ q → lA s q := fun _ h => h
  refine lv_aload_n hx hb dL_law_749 rfl (lv_at hl 3 rfl) ?_
  refine lw_arg C0 hS hl 4 0 rfl rfl hi 1 (by decide) dL_law_750 dL_law_751 dL_law_753 dL_law_754 dL_law_755 ?_
  refine lv_aload_n hx hb dL_law_756 rfl (lv_at hl 1 rfl) ?_
  have hM := fun sz => CX_wind l hst dC dI cyI cyS aX aS hR.1 (xs (i + 1)) sz
  have hH := fun sz => HL_wind l dC dI cyI cyS cyJ (aX 0) qo _ (fun u => CW cyI cyS aX aS u) (iv, av, nm, ro, fa) rfl _ _ of (xs (i + 1)) hM (fun E hE => by
    rcases hE with ⟨h1, rfl⟩
    · exact rfl) sz
  have hPh := g_P hP (lp_h (LO cyJ qo of) (MW cyI Q v) (CW cyI cyS aX aS (iv, av, nm, ro, fa)))
  have hDh := g_D hD (lp_h (LO cyJ qo of) (MW cyI Q v) (CW cyI cyS aX aS (iv, av, nm, ro, fa)))
  have hFh := g_F hD (lp_h (LO cyJ qo of) (MW cyI Q v) (CW cyI cyS aX aS (iv, av, nm, ro, fa))) hS hA
  refine g_calli (x1 := fun u : CS × (Nat → Int64) => LO cyJ qo u.2 :: (MW cyI Q v ++ CW cyI cyS aX aS u.1)) (vx_runSW (As := [.ref (aX 0), .int (xs (i + 1)), .ref qo]) (rest := []) ⟨hx, hb, hml, hown, hts⟩ (vx_Met.noX (hH H.size)) (vx_cwSW 3 hts (gBS b_403 b_404 b_101 b_405) rfl rfl rfl (by decide +kernel) ⟨Nat.le_of_ble_eq_true rfl, Nat.le_of_ble_eq_true rfl⟩) (prm_s eX_ok he hS hPh hDh hK hFh) rfl rfl hl.1 rfl (lv_room (Nat.le_of_ble_eq_true rfl)) dL_law_757 ⟨(show _ ≤ 601024 by omega), (show _ ≤ 7293034 by omega)⟩) hP hD hS hA (lp_h (LO cyJ qo of) (MW cyI Q v) (CW cyI cyS aX aS (iv, av, nm, ro, fa))) (fun u => lp_h' _ _ _) (fun k u H locs hw hP hD hS => ?_)
  obtain ⟨c1, of1⟩ := u
  refine lv_istore (lv' := (5, .int k) :: lwL b (aX 0) (Q 0) qo i) hx hb dL_law_760 hl (by decide) rfl (fun ls hl => ?_)
  refine lv_aload_n hx hb dL_law_762 rfl (lv_at hl 3 rfl) ?_
  refine lw_arg C0 hS hl 5 1 rfl rfl hi 1 (by decide) dL_law_763 dL_law_764 dL_law_766 dL_law_767 dL_law_768 ?_
  have hPm := g_P hP (lp_m (LO cyJ qo of1) (MW cyI Q v) (CW cyI cyS aX aS c1))
  have hDm := g_D hD (lp_m (LO cyJ qo of1) (MW cyI Q v) (CW cyI cyS aX aS c1))
  have hFm := g_F hD (lp_m (LO cyJ qo of1) (MW cyI Q v) (CW cyI cyS aX aS c1)) hS hA
  refine g_calli (x1 := fun u : Int32 × Int32 × Int32 × (Nat → Int32) × (Nat → Int32) => (LO cyJ qo of1) :: (MW cyI Q (i7 (u.2.1) (v.1 1) (u.2.2.1) (v.1 3) (v.1 4) (v.1 5) (v.1 6), f6 (u.2.2.2.1) (u.2.2.2.2) (v.2 2) (v.2 3) (v.2 4) (v.2 5)) ++ (CW cyI cyS aX aS c1))) (va_runV (As := [.int (xs (i + 1))]) (rest := []) ⟨hx, hb, hml, hown, hts⟩ (c_X9_wind l dC dI cyI H.size (Q 0) (Q 1) (Q 2) (Q 3) (Q 4) (Q 5) (Q 6) (v.1 0) (v.1 1) (v.1 2) (v.1 3) (v.1 4) (v.1 5) (v.1 6) (v.2 0) (v.2 1) (v.2 2) (v.2 3) (v.2 4) (v.2 5) (xs (i + 1)) hR.hsv.1 hR.hsv.2 hR.G) (cwV 1 hts (gBV b_418 b_419 b_420 b_5 b_421) rfl rfl rfl (by decide +kernel) ⟨Nat.le_of_ble_eq_true rfl, Nat.le_of_ble_eq_true rfl⟩) (prm_v eM_ok trivial hS hPm hDm (hK.sub [0] rfl) hFm 0 rfl rfl rfl) rfl rfl hl.1 rfl (lv_room (Nat.le_of_ble_eq_true rfl)) dL_law_769 ⟨(show _ ≤ 601024 by omega), (show _ ≤ 7293034 by omega)⟩) hP hD hS hA (lp_m (LO cyJ qo of1) (MW cyI Q v) (CW cyI cyS aX aS c1)) (fun u => lp_m' _ _ _) (fun r2 u H locs hw2 hP hD hS => ?_)
  obtain ⟨hu, hr2⟩ := hw2
  subst hu
  rcases hw with ⟨rfl, r0, hp0, ho⟩ | ⟨rfl, hx0, hc1⟩
  · obtain ⟨-, x0, x1, x2, hm, hC, hk⟩ := hp0
    rw [hm] at hP hD hr2
    exact lw_tail C0 hP hD hS hl rfl (fun _ => by rw [hr2]; exact ho) ⟨hC.up (by omega), hR.2.kp hk⟩ (Nat.add_le_add_left (by omega : 16 ≤ 20) cells) (Nat.add_le_add_left (by omega : 266 ≤ 300) slots) hc hs kk dL_law_772 dL_law_774 dL_law_775 dL_law_778 dL_law_780 dL_law_785 dL_law_787 dL_law_790 dL_law_791 dL_law_792 dL_law_793 dL_law_795 dL_law_796 dL_law_797 dL_law_802 (by decide)
  · replace hc1 : c1 = (iv, av, nm, ro, fa) := hc1
    subst hc1
    rcases hx0 with ⟨h1, hz⟩
    · have hm : m_wind (v.1 0) (v.2 0) (v.2 1) (xs (i + 1)) = _ := q_wind_1 h1 _ _
      rw [hm] at hP hD hr2
      exact lw_tail C0 hP hD hS hl rfl (fun h => absurd h (by decide)) ⟨hR.1.up (by omega), hR.2⟩ (Nat.add_le_add_left (by omega : 16 ≤ 20) cells) (Nat.add_le_add_left (by omega : 266 ≤ 300) slots) hc hs kk dL_law_772 dL_law_774 dL_law_775 dL_law_778 dL_law_780 dL_law_785 dL_law_787 dL_law_790 dL_law_791 dL_law_792 dL_law_793 dL_law_795 dL_law_796 dL_law_797 dL_law_802 (by decide)
set_option maxRecDepth 100000 in
set_option maxHeartbeats 4000000 in
theorem lc_9 (C0 : LCx p l s m meth c b L xs dC dI cyI cyS cyJ) : LT p l e s m below meth c b L dC dI cyI cyS cyJ qo Q aX aS Z 805 := by
  intro H locs of v cc ls i n cells slots hP hD hS hl hR hn hi hc hs kk
  obtain ⟨iv, av, nm, ro, fa⟩ := cc
  obtain ⟨hx, hb, hr, hml, hown, hts, hX, hbl, hL, hst, hK, he⟩ := id C0
  have hA : ∀ q : Nat, s.heap.size ≤ q → lA s q := fun _ h => h
  refine lv_aload_n hx hb dL_law_805 rfl (lv_at hl 3 rfl) ?_
  refine lw_arg C0 hS hl 4 0 rfl rfl hi 1 (by decide) dL_law_806 dL_law_807 dL_law_809 dL_law_810 dL_law_811 ?_
  refine lv_aload_n hx hb dL_law_812 rfl (lv_at hl 1 rfl) ?_
  have hM := fun sz => CX_attach l hst dC dI cyI cyS aX aS hR.1 (xs (i + 1)) sz
  have hH := fun sz => HL_attach l dC dI cyI cyS cyJ (aX 0) qo _ (fun u => CW cyI cyS aX aS u) (iv, av, nm, ro, fa) rfl _ _ of (xs (i + 1)) hM (fun E hE => by
    rcases hE with ⟨h1, rfl⟩ | ⟨h1, h2, rfl⟩
    · exact Or.inl rfl
    · exact Or.inr rfl) sz
  have hPh := g_P hP (lp_h (LO cyJ qo of) (MW cyI Q v) (CW cyI cyS aX aS (iv, av, nm, ro, fa)))
  have hDh := g_D hD (lp_h (LO cyJ qo of) (MW cyI Q v) (CW cyI cyS aX aS (iv, av, nm, ro, fa)))
  have hFh := g_F hD (lp_h (LO cyJ qo of) (MW cyI Q v) (CW cyI cyS aX aS (iv, av, nm, ro, fa))) hS hA
  refine g_calli (x1 := fun u : CS × (Nat → Int64) => LO cyJ qo u.2 :: (MW cyI Q v ++ CW cyI cyS aX aS u.1)) (vx_runSW (As := [.ref (aX 0), .int (xs (i + 1)), .ref qo]) (rest := []) ⟨hx, hb, hml, hown, hts⟩ (vx_Met.noX (hH H.size)) (vx_cwSW 3 hts (gBS b_426 b_427 b_101 b_428) rfl rfl rfl (by decide +kernel) ⟨Nat.le_of_ble_eq_true rfl, Nat.le_of_ble_eq_true rfl⟩) (prm_s eX_ok he hS hPh hDh hK hFh) rfl rfl hl.1 rfl (lv_room (Nat.le_of_ble_eq_true rfl)) dL_law_813 ⟨(show _ ≤ 601024 by omega), (show _ ≤ 7293034 by omega)⟩) hP hD hS hA (lp_h (LO cyJ qo of) (MW cyI Q v) (CW cyI cyS aX aS (iv, av, nm, ro, fa))) (fun u => lp_h' _ _ _) (fun k u H locs hw hP hD hS => ?_)
  obtain ⟨c1, of1⟩ := u
  refine lv_istore (lv' := (5, .int k) :: lwL b (aX 0) (Q 0) qo i) hx hb dL_law_816 hl (by decide) rfl (fun ls hl => ?_)
  refine lv_aload_n hx hb dL_law_818 rfl (lv_at hl 3 rfl) ?_
  refine lw_arg C0 hS hl 5 1 rfl rfl hi 1 (by decide) dL_law_819 dL_law_820 dL_law_822 dL_law_823 dL_law_824 ?_
  have hPm := g_P hP (lp_m (LO cyJ qo of1) (MW cyI Q v) (CW cyI cyS aX aS c1))
  have hDm := g_D hD (lp_m (LO cyJ qo of1) (MW cyI Q v) (CW cyI cyS aX aS c1))
  have hFm := g_F hD (lp_m (LO cyJ qo of1) (MW cyI Q v) (CW cyI cyS aX aS c1)) hS hA
  refine g_calli (x1 := fun u : Int32 × Int32 × Int32 × (Nat → Int32) × (Nat → Int32) => (LO cyJ qo of1) :: (MW cyI Q (i7 (u.2.1) (v.1 1) (u.2.2.1) (v.1 3) (v.1 4) (v.1 5) (v.1 6), f6 (u.2.2.2.1) (u.2.2.2.2) (v.2 2) (v.2 3) (v.2 4) (v.2 5)) ++ (CW cyI cyS aX aS c1))) (va_runV (As := [.int (xs (i + 1))]) (rest := []) ⟨hx, hb, hml, hown, hts⟩ (c_X9_attach l dC dI cyI H.size (Q 0) (Q 1) (Q 2) (Q 3) (Q 4) (Q 5) (Q 6) (v.1 0) (v.1 1) (v.1 2) (v.1 3) (v.1 4) (v.1 5) (v.1 6) (v.2 0) (v.2 1) (v.2 2) (v.2 3) (v.2 4) (v.2 5) (xs (i + 1)) hR.hsv.1 hR.hsv.2 hR.G) (cwV 1 hts (gBV b_435 b_436 b_437 b_5 b_438) rfl rfl rfl (by decide +kernel) ⟨Nat.le_of_ble_eq_true rfl, Nat.le_of_ble_eq_true rfl⟩) (prm_v eM_ok trivial hS hPm hDm (hK.sub [0] rfl) hFm 0 rfl rfl rfl) rfl rfl hl.1 rfl (lv_room (Nat.le_of_ble_eq_true rfl)) dL_law_825 ⟨(show _ ≤ 601024 by omega), (show _ ≤ 7293034 by omega)⟩) hP hD hS hA (lp_m (LO cyJ qo of1) (MW cyI Q v) (CW cyI cyS aX aS c1)) (fun u => lp_m' _ _ _) (fun r2 u H locs hw2 hP hD hS => ?_)
  obtain ⟨hu, hr2⟩ := hw2
  subst hu
  rcases hw with ⟨rfl, r0, hp0, ho⟩ | ⟨rfl, hx0, hc1⟩ | ⟨rfl, hx0, hc1⟩
  · obtain ⟨-, -, x0, x1, x2, hm, hC, hk⟩ := hp0
    rw [hm] at hP hD hr2
    exact lw_tail C0 hP hD hS hl rfl (fun _ => by rw [hr2]; exact ho) ⟨hC.up (by omega), hR.2.kp hk⟩ (Nat.add_le_add_left (by omega : 17 ≤ 20) cells) (Nat.add_le_add_left (by omega : 272 ≤ 300) slots) hc hs kk dL_law_828 dL_law_830 dL_law_831 dL_law_834 dL_law_836 dL_law_841 dL_law_843 dL_law_846 dL_law_847 dL_law_848 dL_law_849 dL_law_851 dL_law_852 dL_law_853 dL_law_858 (by decide)
  · replace hc1 : c1 = (iv, av, nm, ro, fa) := hc1
    subst hc1
    rcases hx0 with ⟨h1, hz⟩ | ⟨h1, h2, hz⟩
    · have hm : m_attach (v.1 0) (v.2 0) (v.2 1) (xs (i + 1)) = _ := q_attach_1 h1 _ _
      rw [hm] at hP hD hr2
      exact lw_tail C0 hP hD hS hl rfl (fun h => absurd h (by decide)) ⟨hR.1.up (by omega), hR.2⟩ (Nat.add_le_add_left (by omega : 17 ≤ 20) cells) (Nat.add_le_add_left (by omega : 272 ≤ 300) slots) hc hs kk dL_law_828 dL_law_830 dL_law_831 dL_law_834 dL_law_836 dL_law_841 dL_law_843 dL_law_846 dL_law_847 dL_law_848 dL_law_849 dL_law_851 dL_law_852 dL_law_853 dL_law_858 (by decide)
    · exact absurd hz (by decide)
  · replace hc1 : c1 = (iv, av, nm, ro, fa) := hc1
    subst hc1
    rcases hx0 with ⟨h1, hz⟩ | ⟨h1, h2, hz⟩
    · exact absurd hz (by decide)
    · have hm : m_attach (v.1 0) (v.2 0) (v.2 1) (xs (i + 1)) = _ := q_attach_2 hR.1.1 h1 h2 _ _
      rw [hm] at hP hD hr2
      exact lw_tail C0 hP hD hS hl rfl (fun h => absurd h (by decide)) ⟨hR.1.up (by omega), hR.2⟩ (Nat.add_le_add_left (by omega : 17 ≤ 20) cells) (Nat.add_le_add_left (by omega : 272 ≤ 300) slots) hc hs kk dL_law_828 dL_law_830 dL_law_831 dL_law_834 dL_law_836 dL_law_841 dL_law_843 dL_law_846 dL_law_847 dL_law_848 dL_law_849 dL_law_851 dL_law_852 dL_law_853 dL_law_858 (by decide)
set_option maxRecDepth 100000 in
set_option maxHeartbeats 4000000 in
theorem lc_10 (C0 : LCx p l s m meth c b L xs dC dI cyI cyS cyJ) : LT p l e s m below meth c b L dC dI cyI cyS cyJ qo Q aX aS Z 861 := by
  intro H locs of v cc ls i n cells slots hP hD hS hl hR hn hi hc hs kk
  obtain ⟨iv, av, nm, ro, fa⟩ := cc
  obtain ⟨hx, hb, hr, hml, hown, hts, hX, hbl, hL, hst, hK, he⟩ := id C0
  have hA : ∀ q : Nat, s.heap.size ≤ q → lA s q := fun _ h => h
  refine lv_aload_n hx hb dL_law_861 rfl (lv_at hl 3 rfl) ?_
  refine lw_arg C0 hS hl 4 0 rfl rfl hi 1 (by decide) dL_law_862 dL_law_863 dL_law_865 dL_law_866 dL_law_867 ?_
  refine lv_aload_n hx hb dL_law_868 rfl (lv_at hl 1 rfl) ?_
  have hM := fun sz => CX_setTare l hst dC dI cyI cyS aX aS hR.1 (xs (i + 1)) sz
  have hH := fun sz => HL_setTare l dC dI cyI cyS cyJ (aX 0) qo _ (fun u => CW cyI cyS aX aS u) (iv, av, nm, ro, fa) rfl _ _ of (xs (i + 1)) hM (fun E hE => by
    rcases hE with ⟨h1, rfl⟩
    · exact rfl) sz
  have hPh := g_P hP (lp_h (LO cyJ qo of) (MW cyI Q v) (CW cyI cyS aX aS (iv, av, nm, ro, fa)))
  have hDh := g_D hD (lp_h (LO cyJ qo of) (MW cyI Q v) (CW cyI cyS aX aS (iv, av, nm, ro, fa)))
  have hFh := g_F hD (lp_h (LO cyJ qo of) (MW cyI Q v) (CW cyI cyS aX aS (iv, av, nm, ro, fa))) hS hA
  refine g_calli (x1 := fun u : CS × (Nat → Int64) => LO cyJ qo u.2 :: (MW cyI Q v ++ CW cyI cyS aX aS u.1)) (vx_runSW (As := [.ref (aX 0), .int (xs (i + 1)), .ref qo]) (rest := []) ⟨hx, hb, hml, hown, hts⟩ (vx_Met.noX (hH H.size)) (vx_cwSW 3 hts (gBS b_439 b_440 b_101 b_441) rfl rfl rfl (by decide +kernel) ⟨Nat.le_of_ble_eq_true rfl, Nat.le_of_ble_eq_true rfl⟩) (prm_s eX_ok he hS hPh hDh hK hFh) rfl rfl hl.1 rfl (lv_room (Nat.le_of_ble_eq_true rfl)) dL_law_869 ⟨(show _ ≤ 601024 by omega), (show _ ≤ 7293034 by omega)⟩) hP hD hS hA (lp_h (LO cyJ qo of) (MW cyI Q v) (CW cyI cyS aX aS (iv, av, nm, ro, fa))) (fun u => lp_h' _ _ _) (fun k u H locs hw hP hD hS => ?_)
  obtain ⟨c1, of1⟩ := u
  refine lv_istore (lv' := (5, .int k) :: lwL b (aX 0) (Q 0) qo i) hx hb dL_law_872 hl (by decide) rfl (fun ls hl => ?_)
  refine lv_aload_n hx hb dL_law_874 rfl (lv_at hl 3 rfl) ?_
  refine lw_arg C0 hS hl 5 1 rfl rfl hi 1 (by decide) dL_law_875 dL_law_876 dL_law_878 dL_law_879 dL_law_880 ?_
  have hPm := g_P hP (lp_m (LO cyJ qo of1) (MW cyI Q v) (CW cyI cyS aX aS c1))
  have hDm := g_D hD (lp_m (LO cyJ qo of1) (MW cyI Q v) (CW cyI cyS aX aS c1))
  have hFm := g_F hD (lp_m (LO cyJ qo of1) (MW cyI Q v) (CW cyI cyS aX aS c1)) hS hA
  refine g_calli (x1 := fun u : Int32 × Int32 × Int32 × (Nat → Int32) × (Nat → Int32) => (LO cyJ qo of1) :: (MW cyI Q (i7 (u.2.1) (v.1 1) (u.2.2.1) (v.1 3) (v.1 4) (v.1 5) (v.1 6), f6 (u.2.2.2.1) (u.2.2.2.2) (v.2 2) (v.2 3) (v.2 4) (v.2 5)) ++ (CW cyI cyS aX aS c1))) (va_runV (As := [.int (xs (i + 1))]) (rest := []) ⟨hx, hb, hml, hown, hts⟩ (c_X9_setTare l dC dI cyI H.size (Q 0) (Q 1) (Q 2) (Q 3) (Q 4) (Q 5) (Q 6) (v.1 0) (v.1 1) (v.1 2) (v.1 3) (v.1 4) (v.1 5) (v.1 6) (v.2 0) (v.2 1) (v.2 2) (v.2 3) (v.2 4) (v.2 5) (xs (i + 1)) hR.hsv.1 hR.hsv.2 hR.G) (cwV 1 hts (gBV b_447 b_448 b_449 b_5 b_450) rfl rfl rfl (by decide +kernel) ⟨Nat.le_of_ble_eq_true rfl, Nat.le_of_ble_eq_true rfl⟩) (prm_v eM_ok trivial hS hPm hDm (hK.sub [0] rfl) hFm 0 rfl rfl rfl) rfl rfl hl.1 rfl (lv_room (Nat.le_of_ble_eq_true rfl)) dL_law_881 ⟨(show _ ≤ 601024 by omega), (show _ ≤ 7293034 by omega)⟩) hP hD hS hA (lp_m (LO cyJ qo of1) (MW cyI Q v) (CW cyI cyS aX aS c1)) (fun u => lp_m' _ _ _) (fun r2 u H locs hw2 hP hD hS => ?_)
  obtain ⟨hu, hr2⟩ := hw2
  subst hu
  rcases hw with ⟨rfl, r0, hp0, ho⟩ | ⟨rfl, hx0, hc1⟩
  · obtain ⟨-, x0, x1, x2, hm, hC, hk⟩ := hp0
    rw [hm] at hP hD hr2
    exact lw_tail C0 hP hD hS hl rfl (fun _ => by rw [hr2]; exact ho) ⟨hC.up (by omega), hR.2.kp hk⟩ (Nat.add_le_add_left (by omega : 16 ≤ 20) cells) (Nat.add_le_add_left (by omega : 266 ≤ 300) slots) hc hs kk dL_law_884 dL_law_886 dL_law_887 dL_law_890 dL_law_892 dL_law_897 dL_law_899 dL_law_902 dL_law_903 dL_law_904 dL_law_905 dL_law_907 dL_law_908 dL_law_909 dL_law_914 (by decide)
  · replace hc1 : c1 = (iv, av, nm, ro, fa) := hc1
    subst hc1
    rcases hx0 with ⟨h1, hz⟩
    · have hm : m_setTare (v.1 0) (v.2 0) (v.2 1) (xs (i + 1)) = _ := q_setTare_1 h1 _ _
      rw [hm] at hP hD hr2
      exact lw_tail C0 hP hD hS hl rfl (fun h => absurd h (by decide)) ⟨hR.1.up (by omega), hR.2⟩ (Nat.add_le_add_left (by omega : 16 ≤ 20) cells) (Nat.add_le_add_left (by omega : 266 ≤ 300) slots) hc hs kk dL_law_884 dL_law_886 dL_law_887 dL_law_890 dL_law_892 dL_law_897 dL_law_899 dL_law_902 dL_law_903 dL_law_904 dL_law_905 dL_law_907 dL_law_908 dL_law_909 dL_law_914 (by decide)
set_option maxRecDepth 100000 in
set_option maxHeartbeats 4000000 in
theorem lc_11 (C0 : LCx p l s m meth c b L xs dC dI cyI cyS cyJ) : LT p l e s m below meth c b L dC dI cyI cyS cyJ qo Q aX aS Z 917 := by
  intro H locs of v cc ls i n cells slots hP hD hS hl hR hn hi hc hs kk
  obtain ⟨iv, av, nm, ro, fa⟩ := cc
  obtain ⟨hx, hb, hr, hml, hown, hts, hX, hbl, hL, hst, hK, he⟩ := id C0
  have hA : ∀ q : Nat, s.heap.size ≤ q → lA s q := fun _ h => h
  refine lv_aload_n hx hb dL_law_917 rfl (lv_at hl 3 rfl) ?_
  refine lw_arg C0 hS hl 4 0 rfl rfl hi 1 (by decide) dL_law_918 dL_law_919 dL_law_921 dL_law_922 dL_law_923 ?_
  refine lv_aload_n hx hb dL_law_924 rfl (lv_at hl 1 rfl) ?_
  have hM := fun sz => CX_bypass l hst dC dI cyI cyS aX aS hR.1 (xs (i + 1)) sz
  have hH := fun sz => HL_bypass l dC dI cyI cyS cyJ (aX 0) qo _ (fun u => CW cyI cyS aX aS u) (iv, av, nm, ro, fa) rfl _ _ of (xs (i + 1)) hM (fun E hE => by
    rcases hE with ⟨h1, rfl⟩
    · exact rfl) sz
  have hPh := g_P hP (lp_h (LO cyJ qo of) (MW cyI Q v) (CW cyI cyS aX aS (iv, av, nm, ro, fa)))
  have hDh := g_D hD (lp_h (LO cyJ qo of) (MW cyI Q v) (CW cyI cyS aX aS (iv, av, nm, ro, fa)))
  have hFh := g_F hD (lp_h (LO cyJ qo of) (MW cyI Q v) (CW cyI cyS aX aS (iv, av, nm, ro, fa))) hS hA
  refine g_calli (x1 := fun u : CS × (Nat → Int64) => LO cyJ qo u.2 :: (MW cyI Q v ++ CW cyI cyS aX aS u.1)) (vx_runSW (As := [.ref (aX 0), .int (xs (i + 1)), .ref qo]) (rest := []) ⟨hx, hb, hml, hown, hts⟩ (vx_Met.noX (hH H.size)) (vx_cwSW 3 hts (gBS b_451 b_452 b_101 b_453) rfl rfl rfl (by decide +kernel) ⟨Nat.le_of_ble_eq_true rfl, Nat.le_of_ble_eq_true rfl⟩) (prm_s eX_ok he hS hPh hDh hK hFh) rfl rfl hl.1 rfl (lv_room (Nat.le_of_ble_eq_true rfl)) dL_law_925 ⟨(show _ ≤ 601024 by omega), (show _ ≤ 7293034 by omega)⟩) hP hD hS hA (lp_h (LO cyJ qo of) (MW cyI Q v) (CW cyI cyS aX aS (iv, av, nm, ro, fa))) (fun u => lp_h' _ _ _) (fun k u H locs hw hP hD hS => ?_)
  obtain ⟨c1, of1⟩ := u
  refine lv_istore (lv' := (5, .int k) :: lwL b (aX 0) (Q 0) qo i) hx hb dL_law_928 hl (by decide) rfl (fun ls hl => ?_)
  refine lv_aload_n hx hb dL_law_930 rfl (lv_at hl 3 rfl) ?_
  refine lw_arg C0 hS hl 5 1 rfl rfl hi 1 (by decide) dL_law_931 dL_law_932 dL_law_934 dL_law_935 dL_law_936 ?_
  have hPm := g_P hP (lp_m (LO cyJ qo of1) (MW cyI Q v) (CW cyI cyS aX aS c1))
  have hDm := g_D hD (lp_m (LO cyJ qo of1) (MW cyI Q v) (CW cyI cyS aX aS c1))
  have hFm := g_F hD (lp_m (LO cyJ qo of1) (MW cyI Q v) (CW cyI cyS aX aS c1)) hS hA
  refine g_calli (x1 := fun u : Int32 × Int32 × Int32 × (Nat → Int32) × (Nat → Int32) => (LO cyJ qo of1) :: (MW cyI Q (i7 (u.2.1) (v.1 1) (u.2.2.1) (v.1 3) (v.1 4) (v.1 5) (v.1 6), f6 (u.2.2.2.1) (u.2.2.2.2) (v.2 2) (v.2 3) (v.2 4) (v.2 5)) ++ (CW cyI cyS aX aS c1))) (va_runV (As := [.int (xs (i + 1))]) (rest := []) ⟨hx, hb, hml, hown, hts⟩ (c_X9_bypass l dC dI cyI H.size (Q 0) (Q 1) (Q 2) (Q 3) (Q 4) (Q 5) (Q 6) (v.1 0) (v.1 1) (v.1 2) (v.1 3) (v.1 4) (v.1 5) (v.1 6) (v.2 0) (v.2 1) (v.2 2) (v.2 3) (v.2 4) (v.2 5) (xs (i + 1)) hR.hsv.1 hR.hsv.2 hR.G) (cwV 1 hts (gBV b_459 b_460 b_461 b_5 b_462) rfl rfl rfl (by decide +kernel) ⟨Nat.le_of_ble_eq_true rfl, Nat.le_of_ble_eq_true rfl⟩) (prm_v eM_ok trivial hS hPm hDm (hK.sub [0] rfl) hFm 0 rfl rfl rfl) rfl rfl hl.1 rfl (lv_room (Nat.le_of_ble_eq_true rfl)) dL_law_937 ⟨(show _ ≤ 601024 by omega), (show _ ≤ 7293034 by omega)⟩) hP hD hS hA (lp_m (LO cyJ qo of1) (MW cyI Q v) (CW cyI cyS aX aS c1)) (fun u => lp_m' _ _ _) (fun r2 u H locs hw2 hP hD hS => ?_)
  obtain ⟨hu, hr2⟩ := hw2
  subst hu
  rcases hw with ⟨rfl, r0, hp0, ho⟩ | ⟨rfl, hx0, hc1⟩
  · obtain ⟨-, x0, x1, x2, hm, hC, hk⟩ := hp0
    rw [hm] at hP hD hr2
    exact lw_tail C0 hP hD hS hl rfl (fun _ => by rw [hr2]; exact ho) ⟨hC.up (by omega), hR.2.kp hk⟩ (Nat.add_le_add_left (by omega : 16 ≤ 20) cells) (Nat.add_le_add_left (by omega : 266 ≤ 300) slots) hc hs kk dL_law_940 dL_law_942 dL_law_943 dL_law_946 dL_law_948 dL_law_953 dL_law_955 dL_law_958 dL_law_959 dL_law_960 dL_law_961 dL_law_963 dL_law_964 dL_law_965 dL_law_970 (by decide)
  · replace hc1 : c1 = (iv, av, nm, ro, fa) := hc1
    subst hc1
    rcases hx0 with ⟨h1, hz⟩
    · have hm : m_bypass (v.1 0) (v.2 0) (v.2 1) (xs (i + 1)) = _ := q_bypass_1 h1 _ _
      rw [hm] at hP hD hr2
      exact lw_tail C0 hP hD hS hl rfl (fun h => absurd h (by decide)) ⟨hR.1.up (by omega), hR.2⟩ (Nat.add_le_add_left (by omega : 16 ≤ 20) cells) (Nat.add_le_add_left (by omega : 266 ≤ 300) slots) hc hs kk dL_law_940 dL_law_942 dL_law_943 dL_law_946 dL_law_948 dL_law_953 dL_law_955 dL_law_958 dL_law_959 dL_law_960 dL_law_961 dL_law_963 dL_law_964 dL_law_965 dL_law_970 (by decide)
set_option maxRecDepth 100000 in
set_option maxHeartbeats 4000000 in
theorem lc_12 (C0 : LCx p l s m meth c b L xs dC dI cyI cyS cyJ) : LT p l e s m below meth c b L dC dI cyI cyS cyJ qo Q aX aS Z 973 := by
  intro H locs of v cc ls i n cells slots hP hD hS hl hR hn hi hc hs kk
  obtain ⟨iv, av, nm, ro, fa⟩ := cc
  obtain ⟨hx, hb, hr, hml, hown, hts, hX, hbl, hL, hst, hK, he⟩ := id C0
  have hA : ∀ q : Nat, s.heap.size ≤ q → lA s q := fun _ h => h
  refine lv_aload_n hx hb dL_law_973 rfl (lv_at hl 3 rfl) ?_
  refine lw_arg C0 hS hl 4 0 rfl rfl hi 1 (by decide) dL_law_974 dL_law_975 dL_law_977 dL_law_978 dL_law_979 ?_
  refine lw_arg C0 hS hl 4 0 rfl rfl hi 2 (by decide) dL_law_980 dL_law_981 dL_law_983 dL_law_984 dL_law_985 ?_
  refine lv_aload_n hx hb dL_law_986 rfl (lv_at hl 1 rfl) ?_
  have hM := fun sz => CX_run l hst dC dI cyI cyS aX aS hR.1 (xs (i + 1)) (xs (i + 2)) (by omega) (v.1 3) (v.1 4) (v.2 3) sz
  have hH := fun sz => HL_run l dC dI cyI cyS cyJ (aX 0) qo _ (fun u => CW cyI cyS aX aS u) (iv, av, nm, ro, fa) rfl _ _ of (xs (i + 1)) (xs (i + 2)) hM (fun E hE => by
    rcases hE with ⟨h1, rfl⟩ | ⟨h1, h2, rfl⟩ | ⟨h1, h2, h3, rfl⟩
    · exact rfl
    · exact rfl
    · exact rfl) sz
  have hPh := g_P hP (lp_h (LO cyJ qo of) (MW cyI Q v) (CW cyI cyS aX aS (iv, av, nm, ro, fa)))
  have hDh := g_D hD (lp_h (LO cyJ qo of) (MW cyI Q v) (CW cyI cyS aX aS (iv, av, nm, ro, fa)))
  have hFh := g_F hD (lp_h (LO cyJ qo of) (MW cyI Q v) (CW cyI cyS aX aS (iv, av, nm, ro, fa))) hS hA
  refine g_calli (x1 := fun u : CS × (Nat → Int64) => LO cyJ qo u.2 :: (MW cyI Q v ++ CW cyI cyS aX aS u.1)) (vx_runSW (As := [.ref (aX 0), .int (xs (i + 1)), .int (xs (i + 2)), .ref qo]) (rest := []) ⟨hx, hb, hml, hown, hts⟩ (vx_Met.noX (hH H.size)) (vx_cwSW 4 hts (gBS b_463 b_464 b_101 b_465) rfl rfl rfl (by decide +kernel) ⟨Nat.le_of_ble_eq_true rfl, Nat.le_of_ble_eq_true rfl⟩) (prm_s eX_ok he hS hPh hDh hK hFh) rfl rfl hl.1 rfl (lv_room (Nat.le_of_ble_eq_true rfl)) dL_law_987 ⟨(show _ ≤ 601024 by omega), (show _ ≤ 7293034 by omega)⟩) hP hD hS hA (lp_h (LO cyJ qo of) (MW cyI Q v) (CW cyI cyS aX aS (iv, av, nm, ro, fa))) (fun u => lp_h' _ _ _) (fun k u H locs hw hP hD hS => ?_)
  obtain ⟨c1, of1⟩ := u
  refine lv_istore (lv' := (5, .int k) :: lwL b (aX 0) (Q 0) qo i) hx hb dL_law_990 hl (by decide) rfl (fun ls hl => ?_)
  refine lv_aload_n hx hb dL_law_992 rfl (lv_at hl 3 rfl) ?_
  refine lw_arg C0 hS hl 5 1 rfl rfl hi 1 (by decide) dL_law_993 dL_law_994 dL_law_996 dL_law_997 dL_law_998 ?_
  refine lw_arg C0 hS hl 5 1 rfl rfl hi 2 (by decide) dL_law_999 dL_law_1000 dL_law_1002 dL_law_1003 dL_law_1004 ?_
  have hPm := g_P hP (lp_m (LO cyJ qo of1) (MW cyI Q v) (CW cyI cyS aX aS c1))
  have hDm := g_D hD (lp_m (LO cyJ qo of1) (MW cyI Q v) (CW cyI cyS aX aS c1))
  have hFm := g_F hD (lp_m (LO cyJ qo of1) (MW cyI Q v) (CW cyI cyS aX aS c1)) hS hA
  refine g_calli (x1 := fun u : Int32 × Int32 × Int32 × Int32 × Int32 × (Nat → Int32) × (Nat → Int32) × (Nat → Int32) => (LO cyJ qo of1) :: (MW cyI Q (i7 (u.2.1) (v.1 1) (u.2.2.1) (u.2.2.2.1) (u.2.2.2.2.1) (v.1 5) (v.1 6), f6 (u.2.2.2.2.2.1) (u.2.2.2.2.2.2.1) (v.2 2) (u.2.2.2.2.2.2.2) (v.2 4) (v.2 5)) ++ (CW cyI cyS aX aS c1))) (va_runV (As := [.int (xs (i + 1)), .int (xs (i + 2))]) (rest := []) ⟨hx, hb, hml, hown, hts⟩ (c_X9_run l dC dI cyI H.size (Q 0) (Q 1) (Q 2) (Q 3) (Q 4) (Q 5) (Q 6) (v.1 0) (v.1 1) (v.1 2) (v.1 3) (v.1 4) (v.1 5) (v.1 6) (v.2 0) (v.2 1) (v.2 2) (v.2 3) (v.2 4) (v.2 5) (xs (i + 1)) (xs (i + 2)) hR.hsv.1 hR.hsv.2 hR.G) (cwV 2 hts (gBV b_626 b_627 b_628 b_5 b_629) rfl rfl rfl (by decide +kernel) ⟨Nat.le_of_ble_eq_true rfl, Nat.le_of_ble_eq_true rfl⟩) (prm_v eM_ok trivial hS hPm hDm (hK.sub [0] rfl) hFm 0 rfl rfl rfl) rfl rfl hl.1 rfl (lv_room (Nat.le_of_ble_eq_true rfl)) dL_law_1005 ⟨(show _ ≤ 601024 by omega), (show _ ≤ 7293034 by omega)⟩) hP hD hS hA (lp_m (LO cyJ qo of1) (MW cyI Q v) (CW cyI cyS aX aS c1)) (fun u => lp_m' _ _ _) (fun r2 u H locs hw2 hP hD hS => ?_)
  obtain ⟨hu, hr2⟩ := hw2
  subst hu
  rcases hw with ⟨rfl, r0, hp0, ho⟩ | ⟨rfl, hx0, hc1⟩
  · obtain ⟨-, -, -, x0, x1, x2, x3, x4, x5, hm, hC, hk⟩ := hp0
    rw [hm] at hP hD hr2
    exact lw_tail C0 hP hD hS hl rfl (fun _ => by rw [hr2]; exact ho) ⟨hC.up (by omega), hR.2.kp hk⟩ (Nat.add_le_add_left (by omega : 18 ≤ 20) cells) (Nat.add_le_add_left (by omega : 278 ≤ 300) slots) hc hs kk dL_law_1008 dL_law_1010 dL_law_1011 dL_law_1014 dL_law_1016 dL_law_1021 dL_law_1023 dL_law_1026 dL_law_1027 dL_law_1028 dL_law_1029 dL_law_1031 dL_law_1032 dL_law_1033 dL_law_1038 (by decide)
  · replace hc1 : c1 = (iv, av, nm, ro, fa) := hc1
    subst hc1
    rcases hx0 with ⟨h1, hz⟩ | ⟨h1, h2, hz⟩ | ⟨h1, h2, h3, hz⟩
    · have hm : m_run (v.1 0) (v.1 3) (v.1 4) (v.2 0) (v.2 1) (v.2 3) (xs (i + 1)) (xs (i + 2)) = _ := q_run_1 (fun k => h1 k.1) _ _ _ _ _ _
      rw [hm] at hP hD hr2
      exact lw_tail C0 hP hD hS hl rfl (fun h => absurd h (by decide)) ⟨hR.1.up (by omega), hR.2⟩ (Nat.add_le_add_left (by omega : 18 ≤ 20) cells) (Nat.add_le_add_left (by omega : 278 ≤ 300) slots) hc hs kk dL_law_1008 dL_law_1010 dL_law_1011 dL_law_1014 dL_law_1016 dL_law_1021 dL_law_1023 dL_law_1026 dL_law_1027 dL_law_1028 dL_law_1029 dL_law_1031 dL_law_1032 dL_law_1033 dL_law_1038 (by decide)
    · have hm : m_run (v.1 0) (v.1 3) (v.1 4) (v.2 0) (v.2 1) (v.2 3) (xs (i + 1)) (xs (i + 2)) = _ := q_run_1 (fun k => h2 k.2.1) _ _ _ _ _ _
      rw [hm] at hP hD hr2
      exact lw_tail C0 hP hD hS hl rfl (fun h => absurd h (by decide)) ⟨hR.1.up (by omega), hR.2⟩ (Nat.add_le_add_left (by omega : 18 ≤ 20) cells) (Nat.add_le_add_left (by omega : 278 ≤ 300) slots) hc hs kk dL_law_1008 dL_law_1010 dL_law_1011 dL_law_1014 dL_law_1016 dL_law_1021 dL_law_1023 dL_law_1026 dL_law_1027 dL_law_1028 dL_law_1029 dL_law_1031 dL_law_1032 dL_law_1033 dL_law_1038 (by decide)
    · have hm : m_run (v.1 0) (v.1 3) (v.1 4) (v.2 0) (v.2 1) (v.2 3) (xs (i + 1)) (xs (i + 2)) = _ := q_run_1 (fun k => h3 k.2.2) _ _ _ _ _ _
      rw [hm] at hP hD hr2
      exact lw_tail C0 hP hD hS hl rfl (fun h => absurd h (by decide)) ⟨hR.1.up (by omega), hR.2⟩ (Nat.add_le_add_left (by omega : 18 ≤ 20) cells) (Nat.add_le_add_left (by omega : 278 ≤ 300) slots) hc hs kk dL_law_1008 dL_law_1010 dL_law_1011 dL_law_1014 dL_law_1016 dL_law_1021 dL_law_1023 dL_law_1026 dL_law_1027 dL_law_1028 dL_law_1029 dL_law_1031 dL_law_1032 dL_law_1033 dL_law_1038 (by decide)
set_option maxRecDepth 100000 in
set_option maxHeartbeats 4000000 in
theorem lc_14 (C0 : LCx p l s m meth c b L xs dC dI cyI cyS cyJ) : LT p l e s m below meth c b L dC dI cyI cyS cyJ qo Q aX aS Z 1054 := by
  intro H locs of v cc ls i n cells slots hP hD hS hl hR hn hi hc hs kk
  obtain ⟨iv, av, nm, ro, fa⟩ := cc
  obtain ⟨hx, hb, hr, hml, hown, hts, hX, hbl, hL, hst, hK, he⟩ := id C0
  have hA : ∀ q : Nat, s.heap.size ≤ q → lA s q := fun _ h => h
  refine lv_aload_n hx hb dL_law_1054 rfl (lv_at hl 3 rfl) ?_
  refine lw_arg C0 hS hl 4 0 rfl rfl hi 1 (by decide) dL_law_1055 dL_law_1056 dL_law_1058 dL_law_1059 dL_law_1060 ?_
  refine lv_aload_n hx hb dL_law_1061 rfl (lv_at hl 1 rfl) ?_
  have hM := fun sz => CX_predicted l hst dC dI cyI cyS aX aS hR.1 (xs (i + 1)) (v.1 3) (v.1 4) (v.2 3) sz
  have hH := fun sz => HL_predicted l dC dI cyI cyS cyJ (aX 0) qo _ (fun u => CW cyI cyS aX aS u) (iv, av, nm, ro, fa) rfl _ _ of (xs (i + 1)) hM (fun E hE => by
    rcases hE with ⟨h1, rfl⟩
    · exact rfl) sz
  have hPh := g_P hP (lp_h (LO cyJ qo of) (MW cyI Q v) (CW cyI cyS aX aS (iv, av, nm, ro, fa)))
  have hDh := g_D hD (lp_h (LO cyJ qo of) (MW cyI Q v) (CW cyI cyS aX aS (iv, av, nm, ro, fa)))
  have hFh := g_F hD (lp_h (LO cyJ qo of) (MW cyI Q v) (CW cyI cyS aX aS (iv, av, nm, ro, fa))) hS hA
  refine g_calli (x1 := fun u : CS × (Nat → Int64) => LO cyJ qo u.2 :: (MW cyI Q v ++ CW cyI cyS aX aS u.1)) (vx_runSW (As := [.ref (aX 0), .int (xs (i + 1)), .ref qo]) (rest := []) ⟨hx, hb, hml, hown, hts⟩ (vx_Met.noX (hH H.size)) (vx_cwSW 3 hts (gBS b_756 b_757 b_101 b_758) rfl rfl rfl (by decide +kernel) ⟨Nat.le_of_ble_eq_true rfl, Nat.le_of_ble_eq_true rfl⟩) (prm_s eX_ok he hS hPh hDh hK hFh) rfl rfl hl.1 rfl (lv_room (Nat.le_of_ble_eq_true rfl)) dL_law_1062 ⟨(show _ ≤ 601024 by omega), (show _ ≤ 7293034 by omega)⟩) hP hD hS hA (lp_h (LO cyJ qo of) (MW cyI Q v) (CW cyI cyS aX aS (iv, av, nm, ro, fa))) (fun u => lp_h' _ _ _) (fun k u H locs hw hP hD hS => ?_)
  obtain ⟨c1, of1⟩ := u
  refine lv_istore (lv' := (5, .int k) :: lwL b (aX 0) (Q 0) qo i) hx hb dL_law_1065 hl (by decide) rfl (fun ls hl => ?_)
  refine lv_aload_n hx hb dL_law_1067 rfl (lv_at hl 3 rfl) ?_
  refine lw_arg C0 hS hl 5 1 rfl rfl hi 1 (by decide) dL_law_1068 dL_law_1069 dL_law_1071 dL_law_1072 dL_law_1073 ?_
  have hPm := g_P hP (lp_m (LO cyJ qo of1) (MW cyI Q v) (CW cyI cyS aX aS c1))
  have hDm := g_D hD (lp_m (LO cyJ qo of1) (MW cyI Q v) (CW cyI cyS aX aS c1))
  have hFm := g_F hD (lp_m (LO cyJ qo of1) (MW cyI Q v) (CW cyI cyS aX aS c1)) hS hA
  refine g_calli (x1 := fun u : Int32 × Int32 × Int32 × Int32 × (Nat → Int32) => (LO cyJ qo of1) :: (MW cyI Q (i7 (v.1 0) (v.1 1) (u.2.1) (u.2.2.1) (u.2.2.2.1) (v.1 5) (v.1 6), f6 (v.2 0) (v.2 1) (v.2 2) (u.2.2.2.2) (v.2 4) (v.2 5)) ++ (CW cyI cyS aX aS c1))) (va_runV (As := [.int (xs (i + 1))]) (rest := []) ⟨hx, hb, hml, hown, hts⟩ (c_X9_predicted l dC dI cyI H.size (Q 0) (Q 1) (Q 2) (Q 3) (Q 4) (Q 5) (Q 6) (v.1 0) (v.1 1) (v.1 2) (v.1 3) (v.1 4) (v.1 5) (v.1 6) (v.2 0) (v.2 1) (v.2 2) (v.2 3) (v.2 4) (v.2 5) (xs (i + 1)) hR.G) (cwV 1 hts (gBV b_763 b_764 b_765 b_5 b_766) rfl rfl rfl (by decide +kernel) ⟨Nat.le_of_ble_eq_true rfl, Nat.le_of_ble_eq_true rfl⟩) (prm_v eM_ok trivial hS hPm hDm (hK.sub [0] rfl) hFm 0 rfl rfl rfl) rfl rfl hl.1 rfl (lv_room (Nat.le_of_ble_eq_true rfl)) dL_law_1074 ⟨(show _ ≤ 601024 by omega), (show _ ≤ 7293034 by omega)⟩) hP hD hS hA (lp_m (LO cyJ qo of1) (MW cyI Q v) (CW cyI cyS aX aS c1)) (fun u => lp_m' _ _ _) (fun r2 u H locs hw2 hP hD hS => ?_)
  obtain ⟨hu, hr2⟩ := hw2
  subst hu
  rcases hw with ⟨rfl, r0, hp0, ho⟩ | ⟨rfl, hx0, hc1⟩
  · obtain ⟨-, x0, x1, x2, hm, hC, hk⟩ := hp0
    rw [hm] at hP hD hr2
    exact lw_tail C0 hP hD hS hl rfl (fun _ => by rw [hr2]; exact ho) ⟨hC.up (by omega), hR.2.kp hk⟩ (Nat.add_le_add_left (by omega : 1 ≤ 20) cells) (Nat.add_le_add_left (by omega : 6 ≤ 300) slots) hc hs kk dL_law_1077 dL_law_1079 dL_law_1080 dL_law_1083 dL_law_1085 dL_law_1090 dL_law_1092 dL_law_1095 dL_law_1096 dL_law_1097 dL_law_1098 dL_law_1100 dL_law_1101 dL_law_1102 dL_law_1107 (by decide)
  · replace hc1 : c1 = (iv, av, nm, ro, fa) := hc1
    subst hc1
    rcases hx0 with ⟨h1, hz⟩
    · have hm : m_predicted (v.1 3) (v.1 4) (v.2 0) (v.2 3) (xs (i + 1)) = _ := q_predicted_1 h1 _ _ _
      rw [hm] at hP hD hr2
      exact lw_tail C0 hP hD hS hl rfl (fun h => absurd h (by decide)) ⟨hR.1.up (by omega), hR.2⟩ (Nat.add_le_add_left (by omega : 1 ≤ 20) cells) (Nat.add_le_add_left (by omega : 6 ≤ 300) slots) hc hs kk dL_law_1077 dL_law_1079 dL_law_1080 dL_law_1083 dL_law_1085 dL_law_1090 dL_law_1092 dL_law_1095 dL_law_1096 dL_law_1097 dL_law_1098 dL_law_1100 dL_law_1101 dL_law_1102 dL_law_1107 (by decide)
set_option maxRecDepth 100000 in
set_option maxHeartbeats 4000000 in
theorem lc_15 (C0 : LCx p l s m meth c b L xs dC dI cyI cyS cyJ) : LT p l e s m below meth c b L dC dI cyI cyS cyJ qo Q aX aS Z 1110 := by
  intro H locs of v cc ls i n cells slots hP hD hS hl hR hn hi hc hs kk
  obtain ⟨iv, av, nm, ro, fa⟩ := cc
  obtain ⟨hx, hb, hr, hml, hown, hts, hX, hbl, hL, hst, hK, he⟩ := id C0
  have hA : ∀ q : Nat, s.heap.size ≤ q → lA s q := fun _ h => h
  refine lv_aload_n hx hb dL_law_1110 rfl (lv_at hl 3 rfl) ?_
  refine lw_arg C0 hS hl 4 0 rfl rfl hi 1 (by decide) dL_law_1111 dL_law_1112 dL_law_1114 dL_law_1115 dL_law_1116 ?_
  refine lv_aload_n hx hb dL_law_1117 rfl (lv_at hl 1 rfl) ?_
  have hM := fun sz => CX_boom l hst dC dI cyI cyS aX aS hR.1 (xs (i + 1)) sz
  have hH := fun sz => HL_boom l dC dI cyI cyS cyJ (aX 0) qo _ (fun u => CW cyI cyS aX aS u) (iv, av, nm, ro, fa) rfl _ _ of (xs (i + 1)) hM (fun E hE => by
    rcases hE with ⟨h1, rfl⟩
    · exact rfl) sz
  have hPh := g_P hP (lp_h (LO cyJ qo of) (MW cyI Q v) (CW cyI cyS aX aS (iv, av, nm, ro, fa)))
  have hDh := g_D hD (lp_h (LO cyJ qo of) (MW cyI Q v) (CW cyI cyS aX aS (iv, av, nm, ro, fa)))
  have hFh := g_F hD (lp_h (LO cyJ qo of) (MW cyI Q v) (CW cyI cyS aX aS (iv, av, nm, ro, fa))) hS hA
  refine g_calli (x1 := fun u : CS × (Nat → Int64) => LO cyJ qo u.2 :: (MW cyI Q v ++ CW cyI cyS aX aS u.1)) (vx_runSW (As := [.ref (aX 0), .int (xs (i + 1)), .ref qo]) (rest := []) ⟨hx, hb, hml, hown, hts⟩ (vx_Met.noX (hH H.size)) (vx_cwSW 3 hts (gBS b_767 b_768 b_101 b_769) rfl rfl rfl (by decide +kernel) ⟨Nat.le_of_ble_eq_true rfl, Nat.le_of_ble_eq_true rfl⟩) (prm_s eX_ok he hS hPh hDh hK hFh) rfl rfl hl.1 rfl (lv_room (Nat.le_of_ble_eq_true rfl)) dL_law_1118 ⟨(show _ ≤ 601024 by omega), (show _ ≤ 7293034 by omega)⟩) hP hD hS hA (lp_h (LO cyJ qo of) (MW cyI Q v) (CW cyI cyS aX aS (iv, av, nm, ro, fa))) (fun u => lp_h' _ _ _) (fun k u H locs hw hP hD hS => ?_)
  obtain ⟨c1, of1⟩ := u
  refine lv_istore (lv' := (5, .int k) :: lwL b (aX 0) (Q 0) qo i) hx hb dL_law_1121 hl (by decide) rfl (fun ls hl => ?_)
  refine lv_aload_n hx hb dL_law_1123 rfl (lv_at hl 3 rfl) ?_
  refine lw_arg C0 hS hl 5 1 rfl rfl hi 1 (by decide) dL_law_1124 dL_law_1125 dL_law_1127 dL_law_1128 dL_law_1129 ?_
  have hPm := g_P hP (lp_m (LO cyJ qo of1) (MW cyI Q v) (CW cyI cyS aX aS c1))
  have hDm := g_D hD (lp_m (LO cyJ qo of1) (MW cyI Q v) (CW cyI cyS aX aS c1))
  have hFm := g_F hD (lp_m (LO cyJ qo of1) (MW cyI Q v) (CW cyI cyS aX aS c1)) hS hA
  refine g_calli (x1 := fun u : Int32 × Int32 => (LO cyJ qo of1) :: (MW cyI Q (i7 (v.1 0) (v.1 1) (u.2) (v.1 3) (v.1 4) (v.1 5) (v.1 6), f6 (v.2 0) (v.2 1) (v.2 2) (v.2 3) (v.2 4) (v.2 5)) ++ (CW cyI cyS aX aS c1))) (va_runV (As := [.int (xs (i + 1))]) (rest := []) ⟨hx, hb, hml, hown, hts⟩ (c_X9_boom l dC dI cyI H.size (Q 0) (Q 1) (Q 2) (Q 3) (Q 4) (Q 5) (Q 6) (v.1 0) (v.1 1) (v.1 2) (v.1 3) (v.1 4) (v.1 5) (v.1 6) (v.2 0) (v.2 1) (v.2 2) (v.2 3) (v.2 4) (v.2 5) (xs (i + 1)) hR.G) (cwV 1 hts (gBV b_782 b_783 b_784 b_5 b_785) rfl rfl rfl (by decide +kernel) ⟨Nat.le_of_ble_eq_true rfl, Nat.le_of_ble_eq_true rfl⟩) (prm_v eM_ok trivial hS hPm hDm (hK.sub [0] rfl) hFm 0 rfl rfl rfl) rfl rfl hl.1 rfl (lv_room (Nat.le_of_ble_eq_true rfl)) dL_law_1130 ⟨(show _ ≤ 601024 by omega), (show _ ≤ 7293034 by omega)⟩) hP hD hS hA (lp_m (LO cyJ qo of1) (MW cyI Q v) (CW cyI cyS aX aS c1)) (fun u => lp_m' _ _ _) (fun r2 u H locs hw2 hP hD hS => ?_)
  obtain ⟨hu, hr2⟩ := hw2
  subst hu
  rcases hw with ⟨rfl, r0, hp0, ho⟩ | ⟨rfl, hx0, hc1⟩
  · obtain ⟨-, hm, hC, hk⟩ := hp0
    rw [hm] at hP hD hr2
    exact lw_tail C0 hP hD hS hl rfl (fun _ => by rw [hr2]; exact ho) ⟨hC.up (by omega), hR.2.kp hk⟩ (Nat.add_le_add_left (by omega : 1 ≤ 20) cells) (Nat.add_le_add_left (by omega : 6 ≤ 300) slots) hc hs kk dL_law_1133 dL_law_1135 dL_law_1136 dL_law_1139 dL_law_1141 dL_law_1146 dL_law_1148 dL_law_1151 dL_law_1152 dL_law_1153 dL_law_1154 dL_law_1156 dL_law_1157 dL_law_1158 dL_law_1163 (by decide)
  · replace hc1 : c1 = (iv, av, nm, ro, fa) := hc1
    subst hc1
    rcases hx0 with ⟨h1, hz⟩
    · have hm : m_boom (v.2 0) (xs (i + 1)) = _ := q_boom_1 h1
      rw [hm] at hP hD hr2
      exact lw_tail C0 hP hD hS hl rfl (fun h => absurd h (by decide)) ⟨hR.1.up (by omega), hR.2⟩ (Nat.add_le_add_left (by omega : 1 ≤ 20) cells) (Nat.add_le_add_left (by omega : 6 ≤ 300) slots) hc hs kk dL_law_1133 dL_law_1135 dL_law_1136 dL_law_1139 dL_law_1141 dL_law_1146 dL_law_1148 dL_law_1151 dL_law_1152 dL_law_1153 dL_law_1154 dL_law_1156 dL_law_1157 dL_law_1158 dL_law_1163 (by decide)
set_option maxRecDepth 100000 in
set_option maxHeartbeats 4000000 in
theorem lc_16 (C0 : LCx p l s m meth c b L xs dC dI cyI cyS cyJ) : LT p l e s m below meth c b L dC dI cyI cyS cyJ qo Q aX aS Z 1166 := by
  intro H locs of v cc ls i n cells slots hP hD hS hl hR hn hi hc hs kk
  obtain ⟨iv, av, nm, ro, fa⟩ := cc
  obtain ⟨hx, hb, hr, hml, hown, hts, hX, hbl, hL, hst, hK, he⟩ := id C0
  have hA : ∀ q : Nat, s.heap.size ≤ q → lA s q := fun _ h => h
  refine lv_aload_n hx hb dL_law_1166 rfl (lv_at hl 3 rfl) ?_
  refine lw_arg C0 hS hl 4 0 rfl rfl hi 1 (by decide) dL_law_1167 dL_law_1168 dL_law_1170 dL_law_1171 dL_law_1172 ?_
  refine lv_aload_n hx hb dL_law_1173 rfl (lv_at hl 1 rfl) ?_
  have hM := fun sz => CX_limiter l hst dC dI cyI cyS aX aS hR.1 (xs (i + 1)) (v.1 3) (v.1 4) sz
  have hH := fun sz => HL_limiter l dC dI cyI cyS cyJ (aX 0) qo _ (fun u => CW cyI cyS aX aS u) (iv, av, nm, ro, fa) rfl _ _ of (xs (i + 1)) hM (fun E hE => by
    rcases hE with ⟨h1, rfl⟩
    · exact rfl) sz
  have hPh := g_P hP (lp_h (LO cyJ qo of) (MW cyI Q v) (CW cyI cyS aX aS (iv, av, nm, ro, fa)))
  have hDh := g_D hD (lp_h (LO cyJ qo of) (MW cyI Q v) (CW cyI cyS aX aS (iv, av, nm, ro, fa)))
  have hFh := g_F hD (lp_h (LO cyJ qo of) (MW cyI Q v) (CW cyI cyS aX aS (iv, av, nm, ro, fa))) hS hA
  refine g_calli (x1 := fun u : CS × (Nat → Int64) => LO cyJ qo u.2 :: (MW cyI Q v ++ CW cyI cyS aX aS u.1)) (vx_runSW (As := [.ref (aX 0), .int (xs (i + 1)), .ref qo]) (rest := []) ⟨hx, hb, hml, hown, hts⟩ (vx_Met.noX (hH H.size)) (vx_cwSW 3 hts (gBS b_790 b_791 b_101 b_792) rfl rfl rfl (by decide +kernel) ⟨Nat.le_of_ble_eq_true rfl, Nat.le_of_ble_eq_true rfl⟩) (prm_s eX_ok he hS hPh hDh hK hFh) rfl rfl hl.1 rfl (lv_room (Nat.le_of_ble_eq_true rfl)) dL_law_1174 ⟨(show _ ≤ 601024 by omega), (show _ ≤ 7293034 by omega)⟩) hP hD hS hA (lp_h (LO cyJ qo of) (MW cyI Q v) (CW cyI cyS aX aS (iv, av, nm, ro, fa))) (fun u => lp_h' _ _ _) (fun k u H locs hw hP hD hS => ?_)
  obtain ⟨c1, of1⟩ := u
  refine lv_istore (lv' := (5, .int k) :: lwL b (aX 0) (Q 0) qo i) hx hb dL_law_1177 hl (by decide) rfl (fun ls hl => ?_)
  refine lv_aload_n hx hb dL_law_1179 rfl (lv_at hl 3 rfl) ?_
  refine lw_arg C0 hS hl 5 1 rfl rfl hi 1 (by decide) dL_law_1180 dL_law_1181 dL_law_1183 dL_law_1184 dL_law_1185 ?_
  have hPm := g_P hP (lp_m (LO cyJ qo of1) (MW cyI Q v) (CW cyI cyS aX aS c1))
  have hDm := g_D hD (lp_m (LO cyJ qo of1) (MW cyI Q v) (CW cyI cyS aX aS c1))
  have hFm := g_F hD (lp_m (LO cyJ qo of1) (MW cyI Q v) (CW cyI cyS aX aS c1)) hS hA
  refine g_calli (x1 := fun u : Int32 × Int32 × Int32 × Int32 => (LO cyJ qo of1) :: (MW cyI Q (i7 (v.1 0) (v.1 1) (u.2.1) (u.2.2.1) (u.2.2.2) (v.1 5) (v.1 6), f6 (v.2 0) (v.2 1) (v.2 2) (v.2 3) (v.2 4) (v.2 5)) ++ (CW cyI cyS aX aS c1))) (va_runV (As := [.int (xs (i + 1))]) (rest := []) ⟨hx, hb, hml, hown, hts⟩ (c_X9_limiter l dC dI cyI H.size (Q 0) (Q 1) (Q 2) (Q 3) (Q 4) (Q 5) (Q 6) (v.1 0) (v.1 1) (v.1 2) (v.1 3) (v.1 4) (v.1 5) (v.1 6) (v.2 0) (v.2 1) (v.2 2) (v.2 3) (v.2 4) (v.2 5) (xs (i + 1)) hR.G) (cwV 1 hts (gBV b_803 b_804 b_805 b_5 b_806) rfl rfl rfl (by decide +kernel) ⟨Nat.le_of_ble_eq_true rfl, Nat.le_of_ble_eq_true rfl⟩) (prm_v eM_ok trivial hS hPm hDm (hK.sub [0] rfl) hFm 0 rfl rfl rfl) rfl rfl hl.1 rfl (lv_room (Nat.le_of_ble_eq_true rfl)) dL_law_1186 ⟨(show _ ≤ 601024 by omega), (show _ ≤ 7293034 by omega)⟩) hP hD hS hA (lp_m (LO cyJ qo of1) (MW cyI Q v) (CW cyI cyS aX aS c1)) (fun u => lp_m' _ _ _) (fun r2 u H locs hw2 hP hD hS => ?_)
  obtain ⟨hu, hr2⟩ := hw2
  subst hu
  rcases hw with ⟨rfl, r0, hp0, ho⟩ | ⟨rfl, hx0, hc1⟩
  · obtain ⟨-, x0, x1, hm, hC, hk⟩ := hp0
    rw [hm] at hP hD hr2
    exact lw_tail C0 hP hD hS hl rfl (fun _ => by rw [hr2]; exact ho) ⟨hC.up (by omega), hR.2.kp hk⟩ (Nat.add_le_add_left (by omega : 1 ≤ 20) cells) (Nat.add_le_add_left (by omega : 6 ≤ 300) slots) hc hs kk dL_law_1189 dL_law_1191 dL_law_1192 dL_law_1195 dL_law_1197 dL_law_1202 dL_law_1204 dL_law_1207 dL_law_1208 dL_law_1209 dL_law_1210 dL_law_1212 dL_law_1213 dL_law_1214 dL_law_1219 (by decide)
  · replace hc1 : c1 = (iv, av, nm, ro, fa) := hc1
    subst hc1
    rcases hx0 with ⟨h1, hz⟩
    · have hm : m_limiter (v.1 3) (v.1 4) (v.2 0) (xs (i + 1)) = _ := q_limiter_1 h1 _ _
      rw [hm] at hP hD hr2
      exact lw_tail C0 hP hD hS hl rfl (fun h => absurd h (by decide)) ⟨hR.1.up (by omega), hR.2⟩ (Nat.add_le_add_left (by omega : 1 ≤ 20) cells) (Nat.add_le_add_left (by omega : 6 ≤ 300) slots) hc hs kk dL_law_1189 dL_law_1191 dL_law_1192 dL_law_1195 dL_law_1197 dL_law_1202 dL_law_1204 dL_law_1207 dL_law_1208 dL_law_1209 dL_law_1210 dL_law_1212 dL_law_1213 dL_law_1214 dL_law_1219 (by decide)
set_option maxRecDepth 100000 in
set_option maxHeartbeats 4000000 in
theorem lc_17 (C0 : LCx p l s m meth c b L xs dC dI cyI cyS cyJ) : LT p l e s m below meth c b L dC dI cyI cyS cyJ qo Q aX aS Z 1222 := by
  intro H locs of v cc ls i n cells slots hP hD hS hl hR hn hi hc hs kk
  obtain ⟨iv, av, nm, ro, fa⟩ := cc
  obtain ⟨hx, hb, hr, hml, hown, hts, hX, hbl, hL, hst, hK, he⟩ := id C0
  have hA : ∀ q : Nat, s.heap.size ≤ q → lA s q := fun _ h => h
  refine lv_aload_n hx hb dL_law_1222 rfl (lv_at hl 3 rfl) ?_
  refine lw_arg C0 hS hl 4 0 rfl rfl hi 1 (by decide) dL_law_1223 dL_law_1224 dL_law_1226 dL_law_1227 dL_law_1228 ?_
  refine lw_arg C0 hS hl 4 0 rfl rfl hi 2 (by decide) dL_law_1229 dL_law_1230 dL_law_1232 dL_law_1233 dL_law_1234 ?_
  refine lw_arg C0 hS hl 4 0 rfl rfl hi 3 (by decide) dL_law_1235 dL_law_1236 dL_law_1238 dL_law_1239 dL_law_1240 ?_
  refine lv_aload_n hx hb dL_law_1241 rfl (lv_at hl 1 rfl) ?_
  have hM := fun sz => CX_rated l hst dC dI cyI cyS aX aS hR.1 (xs (i + 1)) (xs (i + 2)) (xs (i + 3)) sz
  have hH := fun sz => HL_rated l dC dI cyI cyS cyJ (aX 0) qo _ (fun u => CW cyI cyS aX aS u) (iv, av, nm, ro, fa) rfl _ _ of (xs (i + 1)) (xs (i + 2)) (xs (i + 3)) hM (fun E hE => by
    rcases hE with ⟨h1, rfl⟩
    · exact rfl) sz
  have hPh := g_P hP (lp_h (LO cyJ qo of) (MW cyI Q v) (CW cyI cyS aX aS (iv, av, nm, ro, fa)))
  have hDh := g_D hD (lp_h (LO cyJ qo of) (MW cyI Q v) (CW cyI cyS aX aS (iv, av, nm, ro, fa)))
  have hFh := g_F hD (lp_h (LO cyJ qo of) (MW cyI Q v) (CW cyI cyS aX aS (iv, av, nm, ro, fa))) hS hA
  refine g_calli (x1 := fun u : CS × (Nat → Int64) => LO cyJ qo u.2 :: (MW cyI Q v ++ CW cyI cyS aX aS u.1)) (vx_runSW (As := [.ref (aX 0), .int (xs (i + 1)), .int (xs (i + 2)), .int (xs (i + 3)), .ref qo]) (rest := []) ⟨hx, hb, hml, hown, hts⟩ (vx_Met.noX (hH H.size)) (vx_cwSW 5 hts (gBS b_811 b_812 b_101 b_813) rfl rfl rfl (by decide +kernel) ⟨Nat.le_of_ble_eq_true rfl, Nat.le_of_ble_eq_true rfl⟩) (prm_s eX_ok he hS hPh hDh hK hFh) rfl rfl hl.1 rfl (lv_room (Nat.le_of_ble_eq_true rfl)) dL_law_1242 ⟨(show _ ≤ 601024 by omega), (show _ ≤ 7293034 by omega)⟩) hP hD hS hA (lp_h (LO cyJ qo of) (MW cyI Q v) (CW cyI cyS aX aS (iv, av, nm, ro, fa))) (fun u => lp_h' _ _ _) (fun k u H locs hw hP hD hS => ?_)
  obtain ⟨c1, of1⟩ := u
  refine lv_istore (lv' := (5, .int k) :: lwL b (aX 0) (Q 0) qo i) hx hb dL_law_1245 hl (by decide) rfl (fun ls hl => ?_)
  refine lv_aload_n hx hb dL_law_1247 rfl (lv_at hl 3 rfl) ?_
  refine lw_arg C0 hS hl 5 1 rfl rfl hi 1 (by decide) dL_law_1248 dL_law_1249 dL_law_1251 dL_law_1252 dL_law_1253 ?_
  refine lw_arg C0 hS hl 5 1 rfl rfl hi 2 (by decide) dL_law_1254 dL_law_1255 dL_law_1257 dL_law_1258 dL_law_1259 ?_
  refine lw_arg C0 hS hl 5 1 rfl rfl hi 3 (by decide) dL_law_1260 dL_law_1261 dL_law_1263 dL_law_1264 dL_law_1265 ?_
  have hPm := g_P hP (lp_m (LO cyJ qo of1) (MW cyI Q v) (CW cyI cyS aX aS c1))
  have hDm := g_D hD (lp_m (LO cyJ qo of1) (MW cyI Q v) (CW cyI cyS aX aS c1))
  have hFm := g_F hD (lp_m (LO cyJ qo of1) (MW cyI Q v) (CW cyI cyS aX aS c1)) hS hA
  refine g_calli (x1 := fun u : Int32 × Int32 => (LO cyJ qo of1) :: (MW cyI Q (i7 (v.1 0) (v.1 1) (u.2) (v.1 3) (v.1 4) (v.1 5) (v.1 6), f6 (v.2 0) (v.2 1) (v.2 2) (v.2 3) (v.2 4) (v.2 5)) ++ (CW cyI cyS aX aS c1))) (va_runV (As := [.int (xs (i + 1)), .int (xs (i + 2)), .int (xs (i + 3))]) (rest := []) ⟨hx, hb, hml, hown, hts⟩ (c_X9_rated l dC dI cyI H.size (Q 0) (Q 1) (Q 2) (Q 3) (Q 4) (Q 5) (Q 6) (v.1 0) (v.1 1) (v.1 2) (v.1 3) (v.1 4) (v.1 5) (v.1 6) (v.2 0) (v.2 1) (v.2 2) (v.2 3) (v.2 4) (v.2 5) (xs (i + 1)) (xs (i + 2)) (xs (i + 3)) hR.G) (cwV 3 hts (gBV b_818 b_819 b_820 b_5 b_821) rfl rfl rfl (by decide +kernel) ⟨Nat.le_of_ble_eq_true rfl, Nat.le_of_ble_eq_true rfl⟩) (prm_v eM_ok trivial hS hPm hDm (hK.sub [0] rfl) hFm 0 rfl rfl rfl) rfl rfl hl.1 rfl (lv_room (Nat.le_of_ble_eq_true rfl)) dL_law_1266 ⟨(show _ ≤ 601024 by omega), (show _ ≤ 7293034 by omega)⟩) hP hD hS hA (lp_m (LO cyJ qo of1) (MW cyI Q v) (CW cyI cyS aX aS c1)) (fun u => lp_m' _ _ _) (fun r2 u H locs hw2 hP hD hS => ?_)
  obtain ⟨hu, hr2⟩ := hw2
  subst hu
  rcases hw with ⟨rfl, r0, hp0, ho⟩ | ⟨rfl, hx0, hc1⟩
  · obtain ⟨-, hm, hC, hk⟩ := hp0
    rw [hm] at hP hD hr2
    exact lw_tail C0 hP hD hS hl rfl (fun _ => by rw [hr2]; exact ho) ⟨hC.up (by omega), hR.2.kp hk⟩ (Nat.add_le_add_left (by omega : 3 ≤ 20) cells) (Nat.add_le_add_left (by omega : 18 ≤ 300) slots) hc hs kk dL_law_1269 dL_law_1271 dL_law_1272 dL_law_1275 dL_law_1277 dL_law_1282 dL_law_1284 dL_law_1287 dL_law_1288 dL_law_1289 dL_law_1290 dL_law_1292 dL_law_1293 dL_law_1294 dL_law_1299 (by decide)
  · replace hc1 : c1 = (iv, av, nm, ro, fa) := hc1
    subst hc1
    rcases hx0 with ⟨h1, hz⟩
    · have hm : m_rated (v.2 0) (xs (i + 1)) (xs (i + 2)) (xs (i + 3)) = _ := q_ratedC_1 h1
      rw [hm] at hP hD hr2
      exact lw_tail C0 hP hD hS hl rfl (fun h => absurd h (by decide)) ⟨hR.1.up (by omega), hR.2⟩ (Nat.add_le_add_left (by omega : 3 ≤ 20) cells) (Nat.add_le_add_left (by omega : 18 ≤ 300) slots) hc hs kk dL_law_1269 dL_law_1271 dL_law_1272 dL_law_1275 dL_law_1277 dL_law_1282 dL_law_1284 dL_law_1287 dL_law_1288 dL_law_1289 dL_law_1290 dL_law_1292 dL_law_1293 dL_law_1294 dL_law_1299 (by decide)
set_option maxRecDepth 100000 in
set_option maxHeartbeats 4000000 in
theorem lc_18 (C0 : LCx p l s m meth c b L xs dC dI cyI cyS cyJ) : LT p l e s m below meth c b L dC dI cyI cyS cyJ qo Q aX aS Z 1302 := by
  intro H locs of v cc ls i n cells slots hP hD hS hl hR hn hi hc hs kk
  obtain ⟨iv, av, nm, ro, fa⟩ := cc
  obtain ⟨hx, hb, hr, hml, hown, hts, hX, hbl, hL, hst, hK, he⟩ := id C0
  have hA : ∀ q : Nat, s.heap.size ≤ q → lA s q := fun _ h => h
  refine lv_aload_n hx hb dL_law_1302 rfl (lv_at hl 3 rfl) ?_
  refine lw_arg C0 hS hl 4 0 rfl rfl hi 1 (by decide) dL_law_1303 dL_law_1304 dL_law_1306 dL_law_1307 dL_law_1308 ?_
  refine lv_aload_n hx hb dL_law_1309 rfl (lv_at hl 1 rfl) ?_
  have hM := fun sz => CX_maxRadius l hst dC dI cyI cyS aX aS hR.1 (xs (i + 1)) sz
  have hH := fun sz => HL_maxRadius l dC dI cyI cyS cyJ (aX 0) qo _ (fun u => CW cyI cyS aX aS u) (iv, av, nm, ro, fa) rfl _ _ of (xs (i + 1)) hM (fun E hE => by
    rcases hE with ⟨h1, rfl⟩
    · exact rfl) sz
  have hPh := g_P hP (lp_h (LO cyJ qo of) (MW cyI Q v) (CW cyI cyS aX aS (iv, av, nm, ro, fa)))
  have hDh := g_D hD (lp_h (LO cyJ qo of) (MW cyI Q v) (CW cyI cyS aX aS (iv, av, nm, ro, fa)))
  have hFh := g_F hD (lp_h (LO cyJ qo of) (MW cyI Q v) (CW cyI cyS aX aS (iv, av, nm, ro, fa))) hS hA
  refine g_calli (x1 := fun u : CS × (Nat → Int64) => LO cyJ qo u.2 :: (MW cyI Q v ++ CW cyI cyS aX aS u.1)) (vx_runSW (As := [.ref (aX 0), .int (xs (i + 1)), .ref qo]) (rest := []) ⟨hx, hb, hml, hown, hts⟩ (vx_Met.noX (hH H.size)) (vx_cwSW 3 hts (gBS b_822 b_823 b_101 b_824) rfl rfl rfl (by decide +kernel) ⟨Nat.le_of_ble_eq_true rfl, Nat.le_of_ble_eq_true rfl⟩) (prm_s eX_ok he hS hPh hDh hK hFh) rfl rfl hl.1 rfl (lv_room (Nat.le_of_ble_eq_true rfl)) dL_law_1310 ⟨(show _ ≤ 601024 by omega), (show _ ≤ 7293034 by omega)⟩) hP hD hS hA (lp_h (LO cyJ qo of) (MW cyI Q v) (CW cyI cyS aX aS (iv, av, nm, ro, fa))) (fun u => lp_h' _ _ _) (fun k u H locs hw hP hD hS => ?_)
  obtain ⟨c1, of1⟩ := u
  refine lv_istore (lv' := (5, .int k) :: lwL b (aX 0) (Q 0) qo i) hx hb dL_law_1313 hl (by decide) rfl (fun ls hl => ?_)
  refine lv_aload_n hx hb dL_law_1315 rfl (lv_at hl 3 rfl) ?_
  refine lw_arg C0 hS hl 5 1 rfl rfl hi 1 (by decide) dL_law_1316 dL_law_1317 dL_law_1319 dL_law_1320 dL_law_1321 ?_
  have hPm := g_P hP (lp_m (LO cyJ qo of1) (MW cyI Q v) (CW cyI cyS aX aS c1))
  have hDm := g_D hD (lp_m (LO cyJ qo of1) (MW cyI Q v) (CW cyI cyS aX aS c1))
  have hFm := g_F hD (lp_m (LO cyJ qo of1) (MW cyI Q v) (CW cyI cyS aX aS c1)) hS hA
  refine g_calli (x1 := fun u : Int32 × Int32 => (LO cyJ qo of1) :: (MW cyI Q (i7 (v.1 0) (v.1 1) (u.2) (v.1 3) (v.1 4) (v.1 5) (v.1 6), f6 (v.2 0) (v.2 1) (v.2 2) (v.2 3) (v.2 4) (v.2 5)) ++ (CW cyI cyS aX aS c1))) (va_runV (As := [.int (xs (i + 1))]) (rest := []) ⟨hx, hb, hml, hown, hts⟩ (c_X9_maxRadius l dC dI cyI H.size (Q 0) (Q 1) (Q 2) (Q 3) (Q 4) (Q 5) (Q 6) (v.1 0) (v.1 1) (v.1 2) (v.1 3) (v.1 4) (v.1 5) (v.1 6) (v.2 0) (v.2 1) (v.2 2) (v.2 3) (v.2 4) (v.2 5) (xs (i + 1)) hR.G) (cwV 1 hts (gBV b_829 b_830 b_831 b_5 b_832) rfl rfl rfl (by decide +kernel) ⟨Nat.le_of_ble_eq_true rfl, Nat.le_of_ble_eq_true rfl⟩) (prm_v eM_ok trivial hS hPm hDm (hK.sub [0] rfl) hFm 0 rfl rfl rfl) rfl rfl hl.1 rfl (lv_room (Nat.le_of_ble_eq_true rfl)) dL_law_1322 ⟨(show _ ≤ 601024 by omega), (show _ ≤ 7293034 by omega)⟩) hP hD hS hA (lp_m (LO cyJ qo of1) (MW cyI Q v) (CW cyI cyS aX aS c1)) (fun u => lp_m' _ _ _) (fun r2 u H locs hw2 hP hD hS => ?_)
  obtain ⟨hu, hr2⟩ := hw2
  subst hu
  rcases hw with ⟨rfl, r0, hp0, ho⟩ | ⟨rfl, hx0, hc1⟩
  · obtain ⟨-, hm, hC, hk⟩ := hp0
    rw [hm] at hP hD hr2
    exact lw_tail C0 hP hD hS hl rfl (fun _ => by rw [hr2]; exact ho) ⟨hC.up (by omega), hR.2.kp hk⟩ (Nat.add_le_add_left (by omega : 1 ≤ 20) cells) (Nat.add_le_add_left (by omega : 6 ≤ 300) slots) hc hs kk dL_law_1325 dL_law_1327 dL_law_1328 dL_law_1331 dL_law_1333 dL_law_1338 dL_law_1340 dL_law_1343 dL_law_1344 dL_law_1345 dL_law_1346 dL_law_1348 dL_law_1349 dL_law_1350 dL_law_1355 (by decide)
  · replace hc1 : c1 = (iv, av, nm, ro, fa) := hc1
    subst hc1
    rcases hx0 with ⟨h1, hz⟩
    · have hm : m_maxRadius (v.2 0) (xs (i + 1)) = _ := q_maxRadius_1 h1
      rw [hm] at hP hD hr2
      exact lw_tail C0 hP hD hS hl rfl (fun h => absurd h (by decide)) ⟨hR.1.up (by omega), hR.2⟩ (Nat.add_le_add_left (by omega : 1 ≤ 20) cells) (Nat.add_le_add_left (by omega : 6 ≤ 300) slots) hc hs kk dL_law_1325 dL_law_1327 dL_law_1328 dL_law_1331 dL_law_1333 dL_law_1338 dL_law_1340 dL_law_1343 dL_law_1344 dL_law_1345 dL_law_1346 dL_law_1348 dL_law_1349 dL_law_1350 dL_law_1355 (by decide)
set_option maxRecDepth 100000 in
set_option maxHeartbeats 4000000 in
theorem lc_19 (C0 : LCx p l s m meth c b L xs dC dI cyI cyS cyJ) : LT p l e s m below meth c b L dC dI cyI cyS cyJ qo Q aX aS Z 1358 := by
  intro H locs of v cc ls i n cells slots hP hD hS hl hR hn hi hc hs kk
  obtain ⟨iv, av, nm, ro, fa⟩ := cc
  obtain ⟨hx, hb, hr, hml, hown, hts, hX, hbl, hL, hst, hK, he⟩ := id C0
  have hA : ∀ q : Nat, s.heap.size ≤ q → lA s q := fun _ h => h
  refine lv_aload_n hx hb dL_law_1358 rfl (lv_at hl 3 rfl) ?_
  refine lw_arg C0 hS hl 4 0 rfl rfl hi 1 (by decide) dL_law_1359 dL_law_1360 dL_law_1362 dL_law_1363 dL_law_1364 ?_
  refine lw_arg C0 hS hl 4 0 rfl rfl hi 2 (by decide) dL_law_1365 dL_law_1366 dL_law_1368 dL_law_1369 dL_law_1370 ?_
  refine lw_arg C0 hS hl 4 0 rfl rfl hi 3 (by decide) dL_law_1371 dL_law_1372 dL_law_1374 dL_law_1375 dL_law_1376 ?_
  refine lv_aload_n hx hb dL_law_1377 rfl (lv_at hl 1 rfl) ?_
  have hM := fun sz => CX_worstSlew l hst dC dI cyI cyS aX aS hR.1 (xs (i + 1)) (xs (i + 2)) (xs (i + 3)) (v.1 3) (v.1 4) sz
  have hH := fun sz => HL_worstSlew l dC dI cyI cyS cyJ (aX 0) qo _ (fun u => CW cyI cyS aX aS u) (iv, av, nm, ro, fa) rfl _ _ of (xs (i + 1)) (xs (i + 2)) (xs (i + 3)) hM (fun E hE => by
    rcases hE with ⟨h1, rfl⟩ | ⟨h1, h2, rfl⟩ | ⟨h1, h2, h3, rfl⟩
    · exact rfl
    · exact rfl
    · exact rfl) sz
  have hPh := g_P hP (lp_h (LO cyJ qo of) (MW cyI Q v) (CW cyI cyS aX aS (iv, av, nm, ro, fa)))
  have hDh := g_D hD (lp_h (LO cyJ qo of) (MW cyI Q v) (CW cyI cyS aX aS (iv, av, nm, ro, fa)))
  have hFh := g_F hD (lp_h (LO cyJ qo of) (MW cyI Q v) (CW cyI cyS aX aS (iv, av, nm, ro, fa))) hS hA
  refine g_calli (x1 := fun u : CS × (Nat → Int64) => LO cyJ qo u.2 :: (MW cyI Q v ++ CW cyI cyS aX aS u.1)) (vx_runSW (As := [.ref (aX 0), .int (xs (i + 1)), .int (xs (i + 2)), .int (xs (i + 3)), .ref qo]) (rest := []) ⟨hx, hb, hml, hown, hts⟩ (vx_Met.noX (hH H.size)) (vx_cwSW 5 hts (gBS b_833 b_834 b_101 b_835) rfl rfl rfl (by decide +kernel) ⟨Nat.le_of_ble_eq_true rfl, Nat.le_of_ble_eq_true rfl⟩) (prm_s eX_ok he hS hPh hDh hK hFh) rfl rfl hl.1 rfl (lv_room (Nat.le_of_ble_eq_true rfl)) dL_law_1378 ⟨(show _ ≤ 601024 by omega), (show _ ≤ 7293034 by omega)⟩) hP hD hS hA (lp_h (LO cyJ qo of) (MW cyI Q v) (CW cyI cyS aX aS (iv, av, nm, ro, fa))) (fun u => lp_h' _ _ _) (fun k u H locs hw hP hD hS => ?_)
  obtain ⟨c1, of1⟩ := u
  refine lv_istore (lv' := (5, .int k) :: lwL b (aX 0) (Q 0) qo i) hx hb dL_law_1381 hl (by decide) rfl (fun ls hl => ?_)
  refine lv_aload_n hx hb dL_law_1383 rfl (lv_at hl 3 rfl) ?_
  refine lw_arg C0 hS hl 5 1 rfl rfl hi 1 (by decide) dL_law_1384 dL_law_1385 dL_law_1387 dL_law_1388 dL_law_1389 ?_
  refine lw_arg C0 hS hl 5 1 rfl rfl hi 2 (by decide) dL_law_1390 dL_law_1391 dL_law_1393 dL_law_1394 dL_law_1395 ?_
  refine lw_arg C0 hS hl 5 1 rfl rfl hi 3 (by decide) dL_law_1396 dL_law_1397 dL_law_1399 dL_law_1400 dL_law_1401 ?_
  have hPm := g_P hP (lp_m (LO cyJ qo of1) (MW cyI Q v) (CW cyI cyS aX aS c1))
  have hDm := g_D hD (lp_m (LO cyJ qo of1) (MW cyI Q v) (CW cyI cyS aX aS c1))
  have hFm := g_F hD (lp_m (LO cyJ qo of1) (MW cyI Q v) (CW cyI cyS aX aS c1)) hS hA
  refine g_calli (x1 := fun u : Int32 × Int32 × Int32 × Int32 => (LO cyJ qo of1) :: (MW cyI Q (i7 (v.1 0) (v.1 1) (u.2.1) (u.2.2.1) (u.2.2.2) (v.1 5) (v.1 6), f6 (v.2 0) (v.2 1) (v.2 2) (v.2 3) (v.2 4) (v.2 5)) ++ (CW cyI cyS aX aS c1))) (va_runV (As := [.int (xs (i + 1)), .int (xs (i + 2)), .int (xs (i + 3))]) (rest := []) ⟨hx, hb, hml, hown, hts⟩ (c_X9_worstSlew l dC dI cyI H.size (Q 0) (Q 1) (Q 2) (Q 3) (Q 4) (Q 5) (Q 6) (v.1 0) (v.1 1) (v.1 2) (v.1 3) (v.1 4) (v.1 5) (v.1 6) (v.2 0) (v.2 1) (v.2 2) (v.2 3) (v.2 4) (v.2 5) (xs (i + 1)) (xs (i + 2)) (xs (i + 3)) hR.G) (cwV 3 hts (gBV b_841 b_842 b_843 b_5 b_844) rfl rfl rfl (by decide +kernel) ⟨Nat.le_of_ble_eq_true rfl, Nat.le_of_ble_eq_true rfl⟩) (prm_v eM_ok trivial hS hPm hDm (hK.sub [0] rfl) hFm 0 rfl rfl rfl) rfl rfl hl.1 rfl (lv_room (Nat.le_of_ble_eq_true rfl)) dL_law_1402 ⟨(show _ ≤ 601024 by omega), (show _ ≤ 7293034 by omega)⟩) hP hD hS hA (lp_m (LO cyJ qo of1) (MW cyI Q v) (CW cyI cyS aX aS c1)) (fun u => lp_m' _ _ _) (fun r2 u H locs hw2 hP hD hS => ?_)
  obtain ⟨hu, hr2⟩ := hw2
  subst hu
  rcases hw with ⟨rfl, r0, hp0, ho⟩ | ⟨rfl, hx0, hc1⟩
  · obtain ⟨-, -, -, x0, x1, hm, hC, hk⟩ := hp0
    rw [hm] at hP hD hr2
    exact lw_tail C0 hP hD hS hl rfl (fun _ => by rw [hr2]; exact ho) ⟨hC.up (by omega), hR.2.kp hk⟩ (Nat.add_le_add_left (by omega : 3 ≤ 20) cells) (Nat.add_le_add_left (by omega : 18 ≤ 300) slots) hc hs kk dL_law_1405 dL_law_1407 dL_law_1408 dL_law_1411 dL_law_1413 dL_law_1418 dL_law_1420 dL_law_1423 dL_law_1424 dL_law_1425 dL_law_1426 dL_law_1428 dL_law_1429 dL_law_1430 dL_law_1435 (by decide)
  · replace hc1 : c1 = (iv, av, nm, ro, fa) := hc1
    subst hc1
    rcases hx0 with ⟨h1, hz⟩ | ⟨h1, h2, hz⟩ | ⟨h1, h2, h3, hz⟩
    · have hm : m_worstSlew (v.1 3) (v.1 4) (v.2 0) (xs (i + 1)) (xs (i + 2)) (xs (i + 3)) = _ := q_worst_1 (fun k => h1 k.1) _ _
      rw [hm] at hP hD hr2
      exact lw_tail C0 hP hD hS hl rfl (fun h => absurd h (by decide)) ⟨hR.1.up (by omega), hR.2⟩ (Nat.add_le_add_left (by omega : 3 ≤ 20) cells) (Nat.add_le_add_left (by omega : 18 ≤ 300) slots) hc hs kk dL_law_1405 dL_law_1407 dL_law_1408 dL_law_1411 dL_law_1413 dL_law_1418 dL_law_1420 dL_law_1423 dL_law_1424 dL_law_1425 dL_law_1426 dL_law_1428 dL_law_1429 dL_law_1430 dL_law_1435 (by decide)
    · have hm : m_worstSlew (v.1 3) (v.1 4) (v.2 0) (xs (i + 1)) (xs (i + 2)) (xs (i + 3)) = _ := q_worst_1 (fun k => h2 k.2.1) _ _
      rw [hm] at hP hD hr2
      exact lw_tail C0 hP hD hS hl rfl (fun h => absurd h (by decide)) ⟨hR.1.up (by omega), hR.2⟩ (Nat.add_le_add_left (by omega : 3 ≤ 20) cells) (Nat.add_le_add_left (by omega : 18 ≤ 300) slots) hc hs kk dL_law_1405 dL_law_1407 dL_law_1408 dL_law_1411 dL_law_1413 dL_law_1418 dL_law_1420 dL_law_1423 dL_law_1424 dL_law_1425 dL_law_1426 dL_law_1428 dL_law_1429 dL_law_1430 dL_law_1435 (by decide)
    · have hm : m_worstSlew (v.1 3) (v.1 4) (v.2 0) (xs (i + 1)) (xs (i + 2)) (xs (i + 3)) = _ := q_worst_1 (fun k => h3 k.2.2) _ _
      rw [hm] at hP hD hr2
      exact lw_tail C0 hP hD hS hl rfl (fun h => absurd h (by decide)) ⟨hR.1.up (by omega), hR.2⟩ (Nat.add_le_add_left (by omega : 3 ≤ 20) cells) (Nat.add_le_add_left (by omega : 18 ≤ 300) slots) hc hs kk dL_law_1405 dL_law_1407 dL_law_1408 dL_law_1411 dL_law_1413 dL_law_1418 dL_law_1420 dL_law_1423 dL_law_1424 dL_law_1425 dL_law_1426 dL_law_1428 dL_law_1429 dL_law_1430 dL_law_1435 (by decide)
set_option maxRecDepth 100000 in
set_option maxHeartbeats 4000000 in
theorem lc_21 (C0 : LCx p l s m meth c b L xs dC dI cyI cyS cyJ) : LT p l e s m below meth c b L dC dI cyI cyS cyJ qo Q aX aS Z 1451 := by
  intro H locs of v cc ls i n cells slots hP hD hS hl hR hn hi hc hs kk
  obtain ⟨iv, av, nm, ro, fa⟩ := cc
  obtain ⟨hx, hb, hr, hml, hown, hts, hX, hbl, hL, hst, hK, he⟩ := id C0
  have hA : ∀ q : Nat, s.heap.size ≤ q → lA s q := fun _ h => h
  refine lv_aload_n hx hb dL_law_1451 rfl (lv_at hl 3 rfl) ?_
  refine lw_arg C0 hS hl 4 0 rfl rfl hi 1 (by decide) dL_law_1452 dL_law_1453 dL_law_1455 dL_law_1456 dL_law_1457 ?_
  refine lw_arg C0 hS hl 4 0 rfl rfl hi 2 (by decide) dL_law_1458 dL_law_1459 dL_law_1461 dL_law_1462 dL_law_1463 ?_
  refine lv_aload_n hx hb dL_law_1464 rfl (lv_at hl 1 rfl) ?_
  have hM := fun sz => CX_event l hst dC dI cyI cyS aX aS hR.1 (xs (i + 1)) (xs (i + 2)) sz
  have hH := fun sz => HL_event l dC dI cyI cyS cyJ (aX 0) qo _ (fun u => CW cyI cyS aX aS u) (iv, av, nm, ro, fa) rfl _ _ of (xs (i + 1)) (xs (i + 2)) hM (fun E hE => by
    rcases hE with ⟨h1, rfl⟩ | ⟨h1, h2, rfl⟩
    · exact Or.inl rfl
    · exact Or.inr rfl) sz
  have hPh := g_P hP (lp_h (LO cyJ qo of) (MW cyI Q v) (CW cyI cyS aX aS (iv, av, nm, ro, fa)))
  have hDh := g_D hD (lp_h (LO cyJ qo of) (MW cyI Q v) (CW cyI cyS aX aS (iv, av, nm, ro, fa)))
  have hFh := g_F hD (lp_h (LO cyJ qo of) (MW cyI Q v) (CW cyI cyS aX aS (iv, av, nm, ro, fa))) hS hA
  refine g_calli (x1 := fun u : CS × (Nat → Int64) => LO cyJ qo u.2 :: (MW cyI Q v ++ CW cyI cyS aX aS u.1)) (vx_runSW (As := [.ref (aX 0), .int (xs (i + 1)), .int (xs (i + 2)), .ref qo]) (rest := []) ⟨hx, hb, hml, hown, hts⟩ (vx_Met.noX (hH H.size)) (vx_cwSW 4 hts (gBS b_854 b_855 b_101 b_856) rfl rfl rfl (by decide +kernel) ⟨Nat.le_of_ble_eq_true rfl, Nat.le_of_ble_eq_true rfl⟩) (prm_s eX_ok he hS hPh hDh hK hFh) rfl rfl hl.1 rfl (lv_room (Nat.le_of_ble_eq_true rfl)) dL_law_1465 ⟨(show _ ≤ 601024 by omega), (show _ ≤ 7293034 by omega)⟩) hP hD hS hA (lp_h (LO cyJ qo of) (MW cyI Q v) (CW cyI cyS aX aS (iv, av, nm, ro, fa))) (fun u => lp_h' _ _ _) (fun k u H locs hw hP hD hS => ?_)
  obtain ⟨c1, of1⟩ := u
  refine lv_istore (lv' := (5, .int k) :: lwL b (aX 0) (Q 0) qo i) hx hb dL_law_1468 hl (by decide) rfl (fun ls hl => ?_)
  refine lv_aload_n hx hb dL_law_1470 rfl (lv_at hl 3 rfl) ?_
  refine lw_arg C0 hS hl 5 1 rfl rfl hi 1 (by decide) dL_law_1471 dL_law_1472 dL_law_1474 dL_law_1475 dL_law_1476 ?_
  refine lw_arg C0 hS hl 5 1 rfl rfl hi 2 (by decide) dL_law_1477 dL_law_1478 dL_law_1480 dL_law_1481 dL_law_1482 ?_
  have hPm := g_P hP (lp_m (LO cyJ qo of1) (MW cyI Q v) (CW cyI cyS aX aS c1))
  have hDm := g_D hD (lp_m (LO cyJ qo of1) (MW cyI Q v) (CW cyI cyS aX aS c1))
  have hFm := g_F hD (lp_m (LO cyJ qo of1) (MW cyI Q v) (CW cyI cyS aX aS c1)) hS hA
  refine g_calli (x1 := fun u : Int32 × Int32 => (LO cyJ qo of1) :: (MW cyI Q (i7 (v.1 0) (v.1 1) (u.2) (v.1 3) (v.1 4) (v.1 5) (v.1 6), f6 (v.2 0) (v.2 1) (v.2 2) (v.2 3) (v.2 4) (v.2 5)) ++ (CW cyI cyS aX aS c1))) (va_runV (As := [.int (xs (i + 1)), .int (xs (i + 2))]) (rest := []) ⟨hx, hb, hml, hown, hts⟩ (c_X9_event l dC dI cyI H.size (Q 0) (Q 1) (Q 2) (Q 3) (Q 4) (Q 5) (Q 6) (v.1 0) (v.1 1) (v.1 2) (v.1 3) (v.1 4) (v.1 5) (v.1 6) (v.2 0) (v.2 1) (v.2 2) (v.2 3) (v.2 4) (v.2 5) (xs (i + 1)) (xs (i + 2)) hR.G) (cwV 2 hts (gBV b_865 b_866 b_867 b_5 b_868) rfl rfl rfl (by decide +kernel) ⟨Nat.le_of_ble_eq_true rfl, Nat.le_of_ble_eq_true rfl⟩) (prm_v eM_ok trivial hS hPm hDm (hK.sub [0] rfl) hFm 0 rfl rfl rfl) rfl rfl hl.1 rfl (lv_room (Nat.le_of_ble_eq_true rfl)) dL_law_1483 ⟨(show _ ≤ 601024 by omega), (show _ ≤ 7293034 by omega)⟩) hP hD hS hA (lp_m (LO cyJ qo of1) (MW cyI Q v) (CW cyI cyS aX aS c1)) (fun u => lp_m' _ _ _) (fun r2 u H locs hw2 hP hD hS => ?_)
  obtain ⟨hu, hr2⟩ := hw2
  subst hu
  rcases hw with ⟨rfl, r0, hp0, ho⟩ | ⟨rfl, hx0, hc1⟩ | ⟨rfl, hx0, hc1⟩
  · obtain ⟨-, -, hm, hC, hk⟩ := hp0
    rw [hm] at hP hD hr2
    exact lw_tail C0 hP hD hS hl rfl (fun _ => by rw [hr2]; exact ho) ⟨hC.up (by omega), hR.2.kp hk⟩ (Nat.add_le_add_left (by omega : 2 ≤ 20) cells) (Nat.add_le_add_left (by omega : 12 ≤ 300) slots) hc hs kk dL_law_1486 dL_law_1488 dL_law_1489 dL_law_1492 dL_law_1494 dL_law_1499 dL_law_1501 dL_law_1504 dL_law_1505 dL_law_1506 dL_law_1507 dL_law_1509 dL_law_1510 dL_law_1511 dL_law_1516 (by decide)
  · replace hc1 : c1 = (iv, av, nm, ro, fa) := hc1
    subst hc1
    rcases hx0 with ⟨h1, hz⟩ | ⟨h1, h2, hz⟩
    · have hm : m_event (v.2 0) (xs (i + 1)) (xs (i + 2)) = _ := q_event_1 hR.1.1 h1
      rw [hm] at hP hD hr2
      exact lw_tail C0 hP hD hS hl rfl (fun h => absurd h (by decide)) ⟨hR.1.up (by omega), hR.2⟩ (Nat.add_le_add_left (by omega : 2 ≤ 20) cells) (Nat.add_le_add_left (by omega : 12 ≤ 300) slots) hc hs kk dL_law_1486 dL_law_1488 dL_law_1489 dL_law_1492 dL_law_1494 dL_law_1499 dL_law_1501 dL_law_1504 dL_law_1505 dL_law_1506 dL_law_1507 dL_law_1509 dL_law_1510 dL_law_1511 dL_law_1516 (by decide)
    · exact absurd hz (by decide)
  · replace hc1 : c1 = (iv, av, nm, ro, fa) := hc1
    subst hc1
    rcases hx0 with ⟨h1, hz⟩ | ⟨h1, h2, hz⟩
    · exact absurd hz (by decide)
    · have hm : m_event (v.2 0) (xs (i + 1)) (xs (i + 2)) = _ := q_event_2 hR.1.1 h1 h2
      rw [hm] at hP hD hr2
      exact lw_tail C0 hP hD hS hl rfl (fun h => absurd h (by decide)) ⟨hR.1.up (by omega), hR.2⟩ (Nat.add_le_add_left (by omega : 2 ≤ 20) cells) (Nat.add_le_add_left (by omega : 12 ≤ 300) slots) hc hs kk dL_law_1486 dL_law_1488 dL_law_1489 dL_law_1492 dL_law_1494 dL_law_1499 dL_law_1501 dL_law_1504 dL_law_1505 dL_law_1506 dL_law_1507 dL_law_1509 dL_law_1510 dL_law_1511 dL_law_1516 (by decide)
set_option maxRecDepth 100000 in
set_option maxHeartbeats 4000000 in
theorem lc_22 (C0 : LCx p l s m meth c b L xs dC dI cyI cyS cyJ) : LT p l e s m below meth c b L dC dI cyI cyS cyJ qo Q aX aS Z 1519 := by
  intro H locs of v cc ls i n cells slots hP hD hS hl hR hn hi hc hs kk
  obtain ⟨iv, av, nm, ro, fa⟩ := cc
  obtain ⟨hx, hb, hr, hml, hown, hts, hX, hbl, hL, hst, hK, he⟩ := id C0
  have hA : ∀ q : Nat, s.heap.size ≤ q → lA s q := fun _ h => h
  refine lv_aload_n hx hb dL_law_1519 rfl (lv_at hl 3 rfl) ?_
  refine lw_arg C0 hS hl 4 0 rfl rfl hi 1 (by decide) dL_law_1520 dL_law_1521 dL_law_1523 dL_law_1524 dL_law_1525 ?_
  refine lv_aload_n hx hb dL_law_1526 rfl (lv_at hl 1 rfl) ?_
  have hM := fun sz => CX_stateTime l hst dC dI cyI cyS aX aS hR.1 (xs (i + 1)) sz
  have hH := fun sz => HL_stateTime l dC dI cyI cyS cyJ (aX 0) qo _ (fun u => CW cyI cyS aX aS u) (iv, av, nm, ro, fa) rfl _ _ of (xs (i + 1)) hM (fun E hE => by
    rcases hE with ⟨h1, rfl⟩
    · exact rfl) sz
  have hPh := g_P hP (lp_h (LO cyJ qo of) (MW cyI Q v) (CW cyI cyS aX aS (iv, av, nm, ro, fa)))
  have hDh := g_D hD (lp_h (LO cyJ qo of) (MW cyI Q v) (CW cyI cyS aX aS (iv, av, nm, ro, fa)))
  have hFh := g_F hD (lp_h (LO cyJ qo of) (MW cyI Q v) (CW cyI cyS aX aS (iv, av, nm, ro, fa))) hS hA
  refine g_calli (x1 := fun u : CS × (Nat → Int64) => LO cyJ qo u.2 :: (MW cyI Q v ++ CW cyI cyS aX aS u.1)) (vx_runSW (As := [.ref (aX 0), .int (xs (i + 1)), .ref qo]) (rest := []) ⟨hx, hb, hml, hown, hts⟩ (vx_Met.noX (hH H.size)) (vx_cwSW 3 hts (gBS b_869 b_870 b_101 b_871) rfl rfl rfl (by decide +kernel) ⟨Nat.le_of_ble_eq_true rfl, Nat.le_of_ble_eq_true rfl⟩) (prm_s eX_ok he hS hPh hDh hK hFh) rfl rfl hl.1 rfl (lv_room (Nat.le_of_ble_eq_true rfl)) dL_law_1527 ⟨(show _ ≤ 601024 by omega), (show _ ≤ 7293034 by omega)⟩) hP hD hS hA (lp_h (LO cyJ qo of) (MW cyI Q v) (CW cyI cyS aX aS (iv, av, nm, ro, fa))) (fun u => lp_h' _ _ _) (fun k u H locs hw hP hD hS => ?_)
  obtain ⟨c1, of1⟩ := u
  refine lv_istore (lv' := (5, .int k) :: lwL b (aX 0) (Q 0) qo i) hx hb dL_law_1530 hl (by decide) rfl (fun ls hl => ?_)
  refine lv_aload_n hx hb dL_law_1532 rfl (lv_at hl 3 rfl) ?_
  refine lw_arg C0 hS hl 5 1 rfl rfl hi 1 (by decide) dL_law_1533 dL_law_1534 dL_law_1536 dL_law_1537 dL_law_1538 ?_
  have hPm := g_P hP (lp_m (LO cyJ qo of1) (MW cyI Q v) (CW cyI cyS aX aS c1))
  have hDm := g_D hD (lp_m (LO cyJ qo of1) (MW cyI Q v) (CW cyI cyS aX aS c1))
  have hFm := g_F hD (lp_m (LO cyJ qo of1) (MW cyI Q v) (CW cyI cyS aX aS c1)) hS hA
  refine g_calli (x1 := fun u : Int32 × Int32 => (LO cyJ qo of1) :: (MW cyI Q (i7 (v.1 0) (v.1 1) (u.2) (v.1 3) (v.1 4) (v.1 5) (v.1 6), f6 (v.2 0) (v.2 1) (v.2 2) (v.2 3) (v.2 4) (v.2 5)) ++ (CW cyI cyS aX aS c1))) (va_runV (As := [.int (xs (i + 1))]) (rest := []) ⟨hx, hb, hml, hown, hts⟩ (c_X9_stateTime l dC dI cyI H.size (Q 0) (Q 1) (Q 2) (Q 3) (Q 4) (Q 5) (Q 6) (v.1 0) (v.1 1) (v.1 2) (v.1 3) (v.1 4) (v.1 5) (v.1 6) (v.2 0) (v.2 1) (v.2 2) (v.2 3) (v.2 4) (v.2 5) (xs (i + 1))) (cwV 1 hts (gBV b_878 b_879 b_880 b_5 b_881) rfl rfl rfl (by decide +kernel) ⟨Nat.le_of_ble_eq_true rfl, Nat.le_of_ble_eq_true rfl⟩) (prm_v eM_ok trivial hS hPm hDm (hK.sub [0] rfl) hFm 0 rfl rfl rfl) rfl rfl hl.1 rfl (lv_room (Nat.le_of_ble_eq_true rfl)) dL_law_1539 ⟨(show _ ≤ 601024 by omega), (show _ ≤ 7293034 by omega)⟩) hP hD hS hA (lp_m (LO cyJ qo of1) (MW cyI Q v) (CW cyI cyS aX aS c1)) (fun u => lp_m' _ _ _) (fun r2 u H locs hw2 hP hD hS => ?_)
  obtain ⟨hu, hr2⟩ := hw2
  subst hu
  rcases hw with ⟨rfl, r0, hp0, ho⟩ | ⟨rfl, hx0, hc1⟩
  · obtain ⟨-, hm, hC, hk⟩ := hp0
    rw [hm] at hP hD hr2
    exact lw_tail C0 hP hD hS hl rfl (fun _ => by rw [hr2]; exact ho) ⟨hC.up (by omega), hR.2.kp hk⟩ (Nat.add_le_add_left (by omega : 1 ≤ 20) cells) (Nat.add_le_add_left (by omega : 6 ≤ 300) slots) hc hs kk dL_law_1542 dL_law_1544 dL_law_1545 dL_law_1548 dL_law_1550 dL_law_1555 dL_law_1557 dL_law_1560 dL_law_1561 dL_law_1562 dL_law_1563 dL_law_1565 dL_law_1566 dL_law_1567 dL_law_1572 (by decide)
  · replace hc1 : c1 = (iv, av, nm, ro, fa) := hc1
    subst hc1
    rcases hx0 with ⟨h1, hz⟩
    · have hm : m_stateTime (v.2 0) (xs (i + 1)) = _ := q_stateTime_1 h1
      rw [hm] at hP hD hr2
      exact lw_tail C0 hP hD hS hl rfl (fun h => absurd h (by decide)) ⟨hR.1.up (by omega), hR.2⟩ (Nat.add_le_add_left (by omega : 1 ≤ 20) cells) (Nat.add_le_add_left (by omega : 6 ≤ 300) slots) hc hs kk dL_law_1542 dL_law_1544 dL_law_1545 dL_law_1548 dL_law_1550 dL_law_1555 dL_law_1557 dL_law_1560 dL_law_1561 dL_law_1562 dL_law_1563 dL_law_1565 dL_law_1566 dL_law_1567 dL_law_1572 (by decide)
set_option maxRecDepth 100000 in
set_option maxHeartbeats 4000000 in
theorem lc_23 (C0 : LCx p l s m meth c b L xs dC dI cyI cyS cyJ) : LT p l e s m below meth c b L dC dI cyI cyS cyJ qo Q aX aS Z 1575 := by
  intro H locs of v cc ls i n cells slots hP hD hS hl hR hn hi hc hs kk
  obtain ⟨iv, av, nm, ro, fa⟩ := cc
  obtain ⟨hx, hb, hr, hml, hown, hts, hX, hbl, hL, hst, hK, he⟩ := id C0
  have hA : ∀ q : Nat, s.heap.size ≤ q → lA s q := fun _ h => h
  refine lv_aload_n hx hb dL_law_1575 rfl (lv_at hl 3 rfl) ?_
  refine lw_arg C0 hS hl 4 0 rfl rfl hi 1 (by decide) dL_law_1576 dL_law_1577 dL_law_1579 dL_law_1580 dL_law_1581 ?_
  refine lv_aload_n hx hb dL_law_1582 rfl (lv_at hl 1 rfl) ?_
  have hM := fun sz => CX_lifts l hst dC dI cyI cyS aX aS hR.1 (xs (i + 1)) sz
  have hH := fun sz => HL_lifts l dC dI cyI cyS cyJ (aX 0) qo _ (fun u => CW cyI cyS aX aS u) (iv, av, nm, ro, fa) rfl _ _ of (xs (i + 1)) hM (fun E hE => by
    rcases hE with ⟨h1, rfl⟩
    · exact rfl) sz
  have hPh := g_P hP (lp_h (LO cyJ qo of) (MW cyI Q v) (CW cyI cyS aX aS (iv, av, nm, ro, fa)))
  have hDh := g_D hD (lp_h (LO cyJ qo of) (MW cyI Q v) (CW cyI cyS aX aS (iv, av, nm, ro, fa)))
  have hFh := g_F hD (lp_h (LO cyJ qo of) (MW cyI Q v) (CW cyI cyS aX aS (iv, av, nm, ro, fa))) hS hA
  refine g_calli (x1 := fun u : CS × (Nat → Int64) => LO cyJ qo u.2 :: (MW cyI Q v ++ CW cyI cyS aX aS u.1)) (vx_runSW (As := [.ref (aX 0), .int (xs (i + 1)), .ref qo]) (rest := []) ⟨hx, hb, hml, hown, hts⟩ (vx_Met.noX (hH H.size)) (vx_cwSW 3 hts (gBS b_882 b_883 b_101 b_884) rfl rfl rfl (by decide +kernel) ⟨Nat.le_of_ble_eq_true rfl, Nat.le_of_ble_eq_true rfl⟩) (prm_s eX_ok he hS hPh hDh hK hFh) rfl rfl hl.1 rfl (lv_room (Nat.le_of_ble_eq_true rfl)) dL_law_1583 ⟨(show _ ≤ 601024 by omega), (show _ ≤ 7293034 by omega)⟩) hP hD hS hA (lp_h (LO cyJ qo of) (MW cyI Q v) (CW cyI cyS aX aS (iv, av, nm, ro, fa))) (fun u => lp_h' _ _ _) (fun k u H locs hw hP hD hS => ?_)
  obtain ⟨c1, of1⟩ := u
  refine lv_istore (lv' := (5, .int k) :: lwL b (aX 0) (Q 0) qo i) hx hb dL_law_1586 hl (by decide) rfl (fun ls hl => ?_)
  refine lv_aload_n hx hb dL_law_1588 rfl (lv_at hl 3 rfl) ?_
  refine lw_arg C0 hS hl 5 1 rfl rfl hi 1 (by decide) dL_law_1589 dL_law_1590 dL_law_1592 dL_law_1593 dL_law_1594 ?_
  have hPm := g_P hP (lp_m (LO cyJ qo of1) (MW cyI Q v) (CW cyI cyS aX aS c1))
  have hDm := g_D hD (lp_m (LO cyJ qo of1) (MW cyI Q v) (CW cyI cyS aX aS c1))
  have hFm := g_F hD (lp_m (LO cyJ qo of1) (MW cyI Q v) (CW cyI cyS aX aS c1)) hS hA
  refine g_calli (x1 := fun u : Int32 × Int32 => (LO cyJ qo of1) :: (MW cyI Q (i7 (v.1 0) (v.1 1) (u.2) (v.1 3) (v.1 4) (v.1 5) (v.1 6), f6 (v.2 0) (v.2 1) (v.2 2) (v.2 3) (v.2 4) (v.2 5)) ++ (CW cyI cyS aX aS c1))) (va_runV (As := [.int (xs (i + 1))]) (rest := []) ⟨hx, hb, hml, hown, hts⟩ (c_X9_lifts l dC dI cyI H.size (Q 0) (Q 1) (Q 2) (Q 3) (Q 4) (Q 5) (Q 6) (v.1 0) (v.1 1) (v.1 2) (v.1 3) (v.1 4) (v.1 5) (v.1 6) (v.2 0) (v.2 1) (v.2 2) (v.2 3) (v.2 4) (v.2 5) (xs (i + 1))) (cwV 1 hts (gBV b_890 b_891 b_892 b_5 b_893) rfl rfl rfl (by decide +kernel) ⟨Nat.le_of_ble_eq_true rfl, Nat.le_of_ble_eq_true rfl⟩) (prm_v eM_ok trivial hS hPm hDm (hK.sub [0] rfl) hFm 0 rfl rfl rfl) rfl rfl hl.1 rfl (lv_room (Nat.le_of_ble_eq_true rfl)) dL_law_1595 ⟨(show _ ≤ 601024 by omega), (show _ ≤ 7293034 by omega)⟩) hP hD hS hA (lp_m (LO cyJ qo of1) (MW cyI Q v) (CW cyI cyS aX aS c1)) (fun u => lp_m' _ _ _) (fun r2 u H locs hw2 hP hD hS => ?_)
  obtain ⟨hu, hr2⟩ := hw2
  subst hu
  rcases hw with ⟨rfl, r0, hp0, ho⟩ | ⟨rfl, hx0, hc1⟩
  · obtain ⟨-, hm, hC, hk⟩ := hp0
    rw [hm] at hP hD hr2
    exact lw_tail C0 hP hD hS hl rfl (fun _ => by rw [hr2]; exact ho) ⟨hC.up (by omega), hR.2.kp hk⟩ (Nat.add_le_add_left (by omega : 1 ≤ 20) cells) (Nat.add_le_add_left (by omega : 6 ≤ 300) slots) hc hs kk dL_law_1598 dL_law_1600 dL_law_1601 dL_law_1604 dL_law_1606 dL_law_1611 dL_law_1613 dL_law_1616 dL_law_1617 dL_law_1618 dL_law_1619 dL_law_1621 dL_law_1622 dL_law_1623 dL_law_1628 (by decide)
  · replace hc1 : c1 = (iv, av, nm, ro, fa) := hc1
    subst hc1
    rcases hx0 with ⟨h1, hz⟩
    · have hm : m_lifts (v.2 0) (xs (i + 1)) = _ := q_lifts_1 h1
      rw [hm] at hP hD hr2
      exact lw_tail C0 hP hD hS hl rfl (fun h => absurd h (by decide)) ⟨hR.1.up (by omega), hR.2⟩ (Nat.add_le_add_left (by omega : 1 ≤ 20) cells) (Nat.add_le_add_left (by omega : 6 ≤ 300) slots) hc hs kk dL_law_1598 dL_law_1600 dL_law_1601 dL_law_1604 dL_law_1606 dL_law_1611 dL_law_1613 dL_law_1616 dL_law_1617 dL_law_1618 dL_law_1619 dL_law_1621 dL_law_1622 dL_law_1623 dL_law_1628 (by decide)
set_option maxRecDepth 100000 in
set_option maxHeartbeats 4000000 in
theorem lc_25 (C0 : LCx p l s m meth c b L xs dC dI cyI cyS cyJ) : LT p l e s m below meth c b L dC dI cyI cyS cyJ qo Q aX aS Z 1644 := by
  intro H locs of v cc ls i n cells slots hP hD hS hl hR hn hi hc hs kk
  obtain ⟨iv, av, nm, ro, fa⟩ := cc
  obtain ⟨hx, hb, hr, hml, hown, hts, hX, hbl, hL, hst, hK, he⟩ := id C0
  have hA : ∀ q : Nat, s.heap.size ≤ q → lA s q := fun _ h => h
  refine lv_aload_n hx hb dL_law_1644 rfl (lv_at hl 3 rfl) ?_
  refine lw_arg C0 hS hl 4 0 rfl rfl hi 1 (by decide) dL_law_1645 dL_law_1646 dL_law_1648 dL_law_1649 dL_law_1650 ?_
  refine lv_aload_n hx hb dL_law_1651 rfl (lv_at hl 1 rfl) ?_
  have hM := fun sz => CX_type l hst dC dI cyI cyS aX aS hR.1 (xs (i + 1)) (by rw [show nm 2 = v.1 1 from hR.2.1]; exact hR.T.1) (by rw [show nm 2 = v.1 1 from hR.2.1]; exact hR.T.2) hR.2.2.2.2 sz
  have hH := fun sz => HL_type l dC dI cyI cyS cyJ (aX 0) qo _ (fun u => CW cyI cyS aX aS u) (iv, av, nm, ro, fa) rfl _ _ of (xs (i + 1)) hM (fun E hE => by
    rcases hE with ⟨h1, rfl⟩ | ⟨h1, h2, rfl⟩
    · exact Or.inl rfl
    · exact Or.inr rfl) sz
  have hPh := g_P hP (lp_h (LO cyJ qo of) (MW cyI Q v) (CW cyI cyS aX aS (iv, av, nm, ro, fa)))
  have hDh := g_D hD (lp_h (LO cyJ qo of) (MW cyI Q v) (CW cyI cyS aX aS (iv, av, nm, ro, fa)))
  have hFh := g_F hD (lp_h (LO cyJ qo of) (MW cyI Q v) (CW cyI cyS aX aS (iv, av, nm, ro, fa))) hS hA
  refine g_calli (x1 := fun u : CS × (Nat → Int64) => LO cyJ qo u.2 :: (MW cyI Q v ++ CW cyI cyS aX aS u.1)) (vx_runSW (As := [.ref (aX 0), .int (xs (i + 1)), .ref qo]) (rest := []) ⟨hx, hb, hml, hown, hts⟩ (vx_Met.noX (hH H.size)) (vx_cwSW 3 hts (gBS b_909 b_910 b_101 b_911) rfl rfl rfl (by decide +kernel) ⟨Nat.le_of_ble_eq_true rfl, Nat.le_of_ble_eq_true rfl⟩) (prm_s eX_ok he hS hPh hDh hK hFh) rfl rfl hl.1 rfl (lv_room (Nat.le_of_ble_eq_true rfl)) dL_law_1652 ⟨(show _ ≤ 601024 by omega), (show _ ≤ 7293034 by omega)⟩) hP hD hS hA (lp_h (LO cyJ qo of) (MW cyI Q v) (CW cyI cyS aX aS (iv, av, nm, ro, fa))) (fun u => lp_h' _ _ _) (fun k u H locs hw hP hD hS => ?_)
  obtain ⟨c1, of1⟩ := u
  refine lv_istore (lv' := (5, .int k) :: lwL b (aX 0) (Q 0) qo i) hx hb dL_law_1655 hl (by decide) rfl (fun ls hl => ?_)
  refine lv_aload_n hx hb dL_law_1657 rfl (lv_at hl 3 rfl) ?_
  refine lw_arg C0 hS hl 5 1 rfl rfl hi 1 (by decide) dL_law_1658 dL_law_1659 dL_law_1661 dL_law_1662 dL_law_1663 ?_
  have hPm := g_P hP (lp_m (LO cyJ qo of1) (MW cyI Q v) (CW cyI cyS aX aS c1))
  have hDm := g_D hD (lp_m (LO cyJ qo of1) (MW cyI Q v) (CW cyI cyS aX aS c1))
  have hFm := g_F hD (lp_m (LO cyJ qo of1) (MW cyI Q v) (CW cyI cyS aX aS c1)) hS hA
  refine g_calli (x1 := fun u : Int32 × Int32 × Int32 × (Nat → Int32) => (LO cyJ qo of1) :: (MW cyI Q (i7 (v.1 0) (u.2.1) (u.2.2.1) (v.1 3) (v.1 4) (v.1 5) (v.1 6), f6 (v.2 0) (v.2 1) (u.2.2.2) (v.2 3) (v.2 4) (v.2 5)) ++ (CW cyI cyS aX aS c1))) (va_runV (As := [.int (xs (i + 1))]) (rest := []) ⟨hx, hb, hml, hown, hts⟩ (c_X9_type l dC dI cyI H.size (Q 0) (Q 1) (Q 2) (Q 3) (Q 4) (Q 5) (Q 6) (v.1 0) (v.1 1) (v.1 2) (v.1 3) (v.1 4) (v.1 5) (v.1 6) (v.2 0) (v.2 1) (v.2 2) (v.2 3) (v.2 4) (v.2 5) (xs (i + 1)) hR.T.1 hR.T.2) (cwV 1 hts (gBV b_917 b_918 b_919 b_5 b_920) rfl rfl rfl (by decide +kernel) ⟨Nat.le_of_ble_eq_true rfl, Nat.le_of_ble_eq_true rfl⟩) (prm_v eM_ok trivial hS hPm hDm (hK.sub [0] rfl) hFm 0 rfl rfl rfl) rfl rfl hl.1 rfl (lv_room (Nat.le_of_ble_eq_true rfl)) dL_law_1664 ⟨(show _ ≤ 601024 by omega), (show _ ≤ 7293034 by omega)⟩) hP hD hS hA (lp_m (LO cyJ qo of1) (MW cyI Q v) (CW cyI cyS aX aS c1)) (fun u => lp_m' _ _ _) (fun r2 u H locs hw2 hP hD hS => ?_)
  obtain ⟨hu, hr2⟩ := hw2
  subst hu
  rcases hw with ⟨rfl, r0, hp0, ho⟩ | ⟨rfl, hx0, hc1⟩ | ⟨rfl, hx0, hc1⟩
  · obtain ⟨-, -, x0, hm, hC, e1, e2, e3, e4⟩ := hp0
    rw [show nm 2 = v.1 1 from hR.2.1] at hm
    rw [hm] at hP hD hr2
    exact lw_tail C0 hP hD hS hl rfl (fun _ => by rw [hr2]; exact ho) ⟨hC.up (by omega), ⟨e1, e2, e3, e4⟩⟩ (Nat.add_le_add_left (by omega : 2 ≤ 20) cells) (Nat.add_le_add_left (by omega : 12 ≤ 300) slots) hc hs kk dL_law_1667 dL_law_1669 dL_law_1670 dL_law_1673 dL_law_1675 dL_law_1680 dL_law_1682 dL_law_1685 dL_law_1686 dL_law_1687 dL_law_1688 dL_law_1690 dL_law_1691 dL_law_1692 dL_law_1697 (by decide)
  · replace hc1 : c1 = (iv, av, nm, ro, fa) := hc1
    subst hc1
    rcases hx0 with ⟨h1, hz⟩ | ⟨h1, h2, hz⟩
    · have hm : m_type (v.1 1) (v.2 2) (xs (i + 1)) = _ := q_type_1 (tl := v.1 1) (zt := v.2 2) h1
      rw [hm] at hP hD hr2
      exact lw_tail C0 hP hD hS hl rfl (fun h => absurd h (by decide)) ⟨hR.1.up (by omega), hR.2⟩ (Nat.add_le_add_left (by omega : 2 ≤ 20) cells) (Nat.add_le_add_left (by omega : 12 ≤ 300) slots) hc hs kk dL_law_1667 dL_law_1669 dL_law_1670 dL_law_1673 dL_law_1675 dL_law_1680 dL_law_1682 dL_law_1685 dL_law_1686 dL_law_1687 dL_law_1688 dL_law_1690 dL_law_1691 dL_law_1692 dL_law_1697 (by decide)
    · exact absurd hz (by decide)
  · replace hc1 : c1 = (iv, av, nm, ro, fa) := hc1
    subst hc1
    rcases hx0 with ⟨h1, hz⟩ | ⟨h1, h2, hz⟩
    · exact absurd hz (by decide)
    · have hm : m_type (v.1 1) (v.2 2) (xs (i + 1)) = _ := q_type_2 (zt := v.2 2) h1 hR.T.2 (by rw [← show nm 2 = v.1 1 from hR.2.1]; exact h2)
      rw [hm] at hP hD hr2
      exact lw_tail C0 hP hD hS hl rfl (fun h => absurd h (by decide)) ⟨hR.1.up (by omega), hR.2⟩ (Nat.add_le_add_left (by omega : 2 ≤ 20) cells) (Nat.add_le_add_left (by omega : 12 ≤ 300) slots) hc hs kk dL_law_1667 dL_law_1669 dL_law_1670 dL_law_1673 dL_law_1675 dL_law_1680 dL_law_1682 dL_law_1685 dL_law_1686 dL_law_1687 dL_law_1688 dL_law_1690 dL_law_1691 dL_law_1692 dL_law_1697 (by decide)
set_option maxRecDepth 100000 in
set_option maxHeartbeats 4000000 in
theorem lc_28 (C0 : LCx p l s m meth c b L xs dC dI cyI cyS cyJ) : LT p l e s m below meth c b L dC dI cyI cyS cyJ qo Q aX aS Z 1726 := by
  intro H locs of v cc ls i n cells slots hP hD hS hl hR hn hi hc hs kk
  obtain ⟨iv, av, nm, ro, fa⟩ := cc
  obtain ⟨hx, hb, hr, hml, hown, hts, hX, hbl, hL, hst, hK, he⟩ := id C0
  have hA : ∀ q : Nat, s.heap.size ≤ q → lA s q := fun _ h => h
  refine lv_aload_n hx hb dL_law_1726 rfl (lv_at hl 3 rfl) ?_
  refine lv_aload_n hx hb dL_law_1727 rfl (lv_at hl 1 rfl) ?_
  have hM := fun sz => CX_undo l hst dC dI cyI cyS aX aS hR.1 sz
  have hH := fun sz => HL_undo l dC dI cyI cyS cyJ (aX 0) qo _ (fun u => CW cyI cyS aX aS u) (iv, av, nm, ro, fa) rfl _ _ of  hM (fun E hE => by
    rcases hE with ⟨h1, rfl⟩
    · exact rfl) sz
  have hPh := g_P hP (lp_h (LO cyJ qo of) (MW cyI Q v) (CW cyI cyS aX aS (iv, av, nm, ro, fa)))
  have hDh := g_D hD (lp_h (LO cyJ qo of) (MW cyI Q v) (CW cyI cyS aX aS (iv, av, nm, ro, fa)))
  have hFh := g_F hD (lp_h (LO cyJ qo of) (MW cyI Q v) (CW cyI cyS aX aS (iv, av, nm, ro, fa))) hS hA
  refine g_calli (x1 := fun u : CS × (Nat → Int64) => LO cyJ qo u.2 :: (MW cyI Q v ++ CW cyI cyS aX aS u.1)) (vx_runSW (As := [.ref (aX 0), .ref qo]) (rest := []) ⟨hx, hb, hml, hown, hts⟩ (vx_Met.noX (hH H.size)) (vx_cwSW 2 hts (gBS b_1004 b_1005 b_101 b_1006) rfl rfl rfl (by decide +kernel) ⟨Nat.le_of_ble_eq_true rfl, Nat.le_of_ble_eq_true rfl⟩) (prm_s eX_ok he hS hPh hDh hK hFh) rfl rfl hl.1 rfl (lv_room (Nat.le_of_ble_eq_true rfl)) dL_law_1728 ⟨(show _ ≤ 601024 by omega), (show _ ≤ 7293034 by omega)⟩) hP hD hS hA (lp_h (LO cyJ qo of) (MW cyI Q v) (CW cyI cyS aX aS (iv, av, nm, ro, fa))) (fun u => lp_h' _ _ _) (fun k u H locs hw hP hD hS => ?_)
  obtain ⟨c1, of1⟩ := u
  refine lv_istore (lv' := (5, .int k) :: lwL b (aX 0) (Q 0) qo i) hx hb dL_law_1731 hl (by decide) rfl (fun ls hl => ?_)
  refine lv_aload_n hx hb dL_law_1733 rfl (lv_at hl 3 rfl) ?_
  have hPm := g_P hP (lp_m (LO cyJ qo of1) (MW cyI Q v) (CW cyI cyS aX aS c1))
  have hDm := g_D hD (lp_m (LO cyJ qo of1) (MW cyI Q v) (CW cyI cyS aX aS c1))
  have hFm := g_F hD (lp_m (LO cyJ qo of1) (MW cyI Q v) (CW cyI cyS aX aS c1)) hS hA
  refine g_calli (x1 := fun u : Int32 × Int32 × Int32 × (Nat → Int32) => (LO cyJ qo of1) :: (MW cyI Q (i7 (u.2.1) (v.1 1) (u.2.2.1) (v.1 3) (v.1 4) (v.1 5) (v.1 6), f6 (u.2.2.2) (v.2 1) (v.2 2) (v.2 3) (v.2 4) (v.2 5)) ++ (CW cyI cyS aX aS c1))) (va_runV (As := []) (rest := []) ⟨hx, hb, hml, hown, hts⟩ (c_X9_undo l dC dI cyI H.size (Q 0) (Q 1) (Q 2) (Q 3) (Q 4) (Q 5) (Q 6) (v.1 0) (v.1 1) (v.1 2) (v.1 3) (v.1 4) (v.1 5) (v.1 6) (v.2 0) (v.2 1) (v.2 2) (v.2 3) (v.2 4) (v.2 5) hR.hsv.1 hR.hsv.2) (cwV 0 hts (gBV b_1012 b_1013 b_1014 b_5 b_1015) rfl rfl rfl (by decide +kernel) ⟨Nat.le_of_ble_eq_true rfl, Nat.le_of_ble_eq_true rfl⟩) (prm_v eM_ok trivial hS hPm hDm (hK.sub [0] rfl) hFm 0 rfl rfl rfl) rfl rfl hl.1 rfl (lv_room (Nat.le_of_ble_eq_true rfl)) dL_law_1734 ⟨(show _ ≤ 601024 by omega), (show _ ≤ 7293034 by omega)⟩) hP hD hS hA (lp_m (LO cyJ qo of1) (MW cyI Q v) (CW cyI cyS aX aS c1)) (fun u => lp_m' _ _ _) (fun r2 u H locs hw2 hP hD hS => ?_)
  obtain ⟨hu, hr2⟩ := hw2
  subst hu
  rcases hw with ⟨rfl, r0, hp0, ho⟩ | ⟨rfl, hx0, hc1⟩
  · obtain ⟨-, x0, hm, hC, hk⟩ := hp0
    rw [hm] at hP hD hr2
    exact lw_tail C0 hP hD hS hl rfl (fun _ => by rw [hr2]; exact ho) ⟨hC.up (by omega), hR.2.kp hk⟩ (Nat.add_le_add_left (by omega : 1 ≤ 20) cells) (Nat.add_le_add_left (by omega : 6 ≤ 300) slots) hc hs kk dL_law_1737 dL_law_1739 dL_law_1740 dL_law_1743 dL_law_1745 dL_law_1750 dL_law_1752 dL_law_1755 dL_law_1756 dL_law_1757 dL_law_1758 dL_law_1760 dL_law_1761 dL_law_1762 dL_law_1767 (by decide)
  · replace hc1 : c1 = (iv, av, nm, ro, fa) := hc1
    subst hc1
    rcases hx0 with ⟨h1, hz⟩
    · have hm : m_undo (v.1 0) (v.2 0) (v.2 1) = _ := q_undo_1 hR.1.2.1 h1
      rw [hm] at hP hD hr2
      exact lw_tail C0 hP hD hS hl rfl (fun h => absurd h (by decide)) ⟨hR.1.up (by omega), hR.2⟩ (Nat.add_le_add_left (by omega : 1 ≤ 20) cells) (Nat.add_le_add_left (by omega : 6 ≤ 300) slots) hc hs kk dL_law_1737 dL_law_1739 dL_law_1740 dL_law_1743 dL_law_1745 dL_law_1750 dL_law_1752 dL_law_1755 dL_law_1756 dL_law_1757 dL_law_1758 dL_law_1760 dL_law_1761 dL_law_1762 dL_law_1767 (by decide)
end LC

