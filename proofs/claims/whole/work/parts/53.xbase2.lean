/-! worlds with a tail of unknown length: the saved states -/
section TAIL
variable {D : va_G} {cl : List vw_C} {A A0 : Nat → Prop} {H H0 H1 : Heap} {locs : List Loc}
theorem xt_P {ws : va_W} : va_P D cl ws H ↔ ∀ q ∈ ws, va_at D cl q H :=
  ⟨fun h q hq => (List.mem_iff_getElem?.mp hq).elim fun k hk => h k q hk, fun h k q hk => h q (List.mem_of_getElem? hk)⟩
theorem xt_D {ws : va_W} : va_D A ws ↔ (ws.map (·.1)).Nodup ∧ ∀ q ∈ ws, A q.1 := by
  constructor
  · intro h
    refine ⟨?_, fun q hq => (List.mem_iff_getElem?.mp hq).elim fun k hk => h.2 k q hk⟩
    unfold List.Nodup
    rw [List.pairwise_iff_getElem]
    intro i j hi hj hij e
    rw [List.length_map] at hi hj
    rw [List.getElem_map, List.getElem_map] at e
    have e2 := h.1 i j _ _ (List.getElem?_eq_getElem hi) (List.getElem?_eq_getElem hj) e
    omega
  · intro h
    refine ⟨fun i j p q hi hj e => ?_, fun k q hk => h.2 q (List.mem_of_getElem? hk)⟩
    have n := h.1
    unfold List.Nodup at n
    rw [List.pairwise_iff_getElem] at n
    obtain ⟨hil, ei⟩ := List.getElem?_eq_some_iff.mp hi
    obtain ⟨hjl, ej⟩ := List.getElem?_eq_some_iff.mp hj
    rcases Nat.lt_trichotomy i j with c | c | c
    · exact absurd (by rw [List.getElem_map, List.getElem_map, ei, ej]; exact e) (n i j (by rw [List.length_map]; exact hil) (by rw [List.length_map]; exact hjl) c)
    · exact c
    · exact absurd (by rw [List.getElem_map, List.getElem_map, ei, ej]; exact e.symm) (n j i (by rw [List.length_map]; exact hjl) (by rw [List.length_map]; exact hil) c)
theorem xt_mem {x y : va_W} {is : List Nat} (hs : is.map (fun i => x[i]?) = y.map some) {q : Nat × va_E} (hq : q ∈ y) : ∃ i ∈ is, x[i]? = some q := by
  have h1 : some q ∈ is.map (fun i => x[i]?) := by rw [hs]; exact List.mem_map.mpr ⟨q, hq, rfl⟩
  obtain ⟨i, hi, e⟩ := List.mem_map.mp h1
  exact ⟨i, hi, e⟩
theorem xt_left {x g : va_W} (h : va_P D cl (x ++ g) H) : va_P D cl x H := xt_P.mpr fun q hq => xt_P.mp h q (List.mem_append_left _ hq)
theorem xt_leftD {x g : va_W} (h : va_D A (x ++ g)) : va_D A x := by
  obtain ⟨h1, h2⟩ := xt_D.mp h
  rw [List.map_append] at h1
  exact xt_D.mpr ⟨(List.nodup_append.mp h1).1, fun q hq => h2 q (List.mem_append_left _ hq)⟩
theorem va_P.subT {x g y : va_W} (h : va_P D cl (x ++ g) H) (is : List Nat) (hs : is.filterMap (fun i => x[i]?) = y) : va_P D cl (y ++ g) H :=
  xt_P.mpr fun q hq => (List.mem_append.mp hq).elim (fun k => xt_P.mp ((xt_left h).sub is hs) q k) (fun k => xt_P.mp h q (List.mem_append_right _ k))
theorem va_D.subT {x g y : va_W} (h : va_D A (x ++ g)) (is : List Nat) (hn : va_nd is = true) (hs : is.map (fun i => x[i]?) = y.map some) : va_D A (y ++ g) := by
  obtain ⟨h1, h2⟩ := xt_D.mp h
  obtain ⟨h3, h4⟩ := xt_D.mp ((xt_leftD h).sub is hn hs)
  rw [List.map_append] at h1
  obtain ⟨-, h5, h6⟩ := List.nodup_append.mp h1
  refine xt_D.mpr ⟨?_, fun q hq => (List.mem_append.mp hq).elim (h4 q) (fun k => h2 q (List.mem_append_right _ k))⟩
  rw [List.map_append]
  refine List.nodup_append.mpr ⟨h3, h5, fun a ha b hb => h6 a ?_ b hb⟩
  obtain ⟨q, hq, e⟩ := List.mem_map.mp ha
  obtain ⟨i, -, hi⟩ := xt_mem hs hq
  exact List.mem_map.mpr ⟨q, List.mem_of_getElem? hi, e⟩
theorem va_freeT {x g wc : va_W} (hD : va_D A0 (x ++ g)) (hS : va_S A0 H0 H locs) (hA : ∀ q, H0.size ≤ q → A0 q) (isC : List Nat) (hC : isC.map (fun i => x[i]?) = wc.map some) : ∀ q, va_A (wc ++ g) H.size q → A0 q := by
  intro q hq
  obtain ⟨-, h2⟩ := xt_D.mp hD
  rcases hq with ⟨k, e, hk⟩ | hq
  · rcases List.mem_append.mp (List.mem_of_getElem? hk) with h | h
    · obtain ⟨i, -, hi⟩ := xt_mem hC h
      exact h2 _ (List.mem_append_left _ (List.mem_of_getElem? hi))
    · exact h2 _ (List.mem_append_right _ h)
  · exact hA q (Nat.le_trans hS.1 hq)
theorem xt_gen {ws wc wr w1 : va_W} (hP : va_P D cl ws H) (hD : va_D A0 ws) (hwr : ∀ q ∈ wr, q ∈ ws) (nd : (wr.map (·.1)).Nodup) (hout : ∀ q ∈ wr, ∀ p ∈ wc, q.1 ≠ p.1)
    (hk : ∀ q : Nat, q < H.size → ¬ va_A wc H.size q → H1[q]? = H[q]?) (hF : ∀ q, va_A wc H.size q → A0 q) (hP1 : va_P D cl w1 H1) (hD1 : va_D (va_A wc H.size) w1) : va_P D cl (wr ++ w1) H1 ∧ va_D A0 (wr ++ w1) := by
  have key : ∀ q ∈ wr, ¬ va_A wc H.size q.1 := by
    intro q hq hA
    rcases hA with ⟨k, e, hk⟩ | hA
    · exact hout q hq _ (List.mem_of_getElem? hk) rfl
    · have := (xt_P.mp hP q (hwr q hq)).lt
      omega
  obtain ⟨n1, a1⟩ := xt_D.mp hD1
  obtain ⟨-, a0⟩ := xt_D.mp hD
  refine ⟨xt_P.mpr fun q hq => ?_, xt_D.mpr ⟨?_, fun q hq => ?_⟩⟩
  · rcases List.mem_append.mp hq with h | h
    · exact (xt_P.mp hP q (hwr q h)).kept (hk q.1 (xt_P.mp hP q (hwr q h)).lt (key q h))
    · exact xt_P.mp hP1 q h
  · rw [List.map_append]
    refine List.nodup_append.mpr ⟨nd, n1, fun a ha b hb e => ?_⟩
    obtain ⟨q, hq, rfl⟩ := List.mem_map.mp ha
    obtain ⟨p, hp, rfl⟩ := List.mem_map.mp hb
    exact key q hq (by rw [e]; exact a1 p hp)
  · rcases List.mem_append.mp hq with h | h
    · exact a0 q (hwr q h)
    · exact hF _ (a1 q h)
theorem xt_nd {x y : va_W} {A : Nat → Prop} (hD : va_D A x) {is : List Nat} (hn : va_nd is = true) (hs : is.map (fun i => x[i]?) = y.map some) : (y.map (·.1)).Nodup := (xt_D.mp (hD.sub is hn hs)).1
theorem xt_apart {x y z : va_W} (hD : va_D A x) {is js : List Nat} (hy : is.map (fun i => x[i]?) = y.map some) (hz : js.map (fun i => x[i]?) = z.map some) (hdis : ∀ i ∈ is, i ∉ js) : ∀ q ∈ y, ∀ p ∈ z, q.1 ≠ p.1 := by
  intro q hq p hp e
  obtain ⟨i, hi, ei⟩ := xt_mem hy hq
  obtain ⟨j, hj, ej⟩ := xt_mem hz hp
  exact hdis i hi (by rw [hD.1 i j _ _ ei ej e]; exact hj)
theorem xt_apartR {x g y : va_W} (hD : va_D A (x ++ g)) {is : List Nat} (hy : is.map (fun i => x[i]?) = y.map some) : ∀ q ∈ y, ∀ p ∈ g, q.1 ≠ p.1 := by
  intro q hq p hp e
  obtain ⟨i, hi, ei⟩ := xt_mem hy hq
  obtain ⟨h1, -⟩ := xt_D.mp hD
  rw [List.map_append] at h1
  exact (List.nodup_append.mp h1).2.2 q.1 (List.mem_map.mpr ⟨q, List.mem_of_getElem? ei, rfl⟩) p.1 (List.mem_map.mpr ⟨p, hp, rfl⟩) e
/-- behind a call that has nothing to do with the tail -/
theorem xt_join {x g wc wr w1 : va_W} (hP : va_P D cl (x ++ g) H) (hD : va_D A0 (x ++ g)) (isC isR : List Nat) (hC : isC.map (fun i => x[i]?) = wc.map some) (hR : isR.map (fun i => x[i]?) = wr.map some) (hn : va_nd isR = true) (hdis : ∀ i ∈ isR, i ∉ isC)
    (hk : ∀ q : Nat, q < H.size → ¬ va_A wc H.size q → H1[q]? = H[q]?) (hF : ∀ q, va_A wc H.size q → A0 q) (hP1 : va_P D cl w1 H1) (hD1 : va_D (va_A wc H.size) w1) : va_P D cl ((wr ++ w1) ++ g) H1 ∧ va_D A0 ((wr ++ w1) ++ g) := by
  have hx := xt_leftD hD
  obtain ⟨n0, -⟩ := xt_D.mp hD
  rw [List.map_append] at n0
  have h := xt_gen (wr := wr ++ g) hP hD (fun q hq => (List.mem_append.mp hq).elim (fun k => by obtain ⟨i, -, hi⟩ := xt_mem hR k; exact List.mem_append_left _ (List.mem_of_getElem? hi)) (fun k => List.mem_append_right _ k))
    (by
      rw [List.map_append]
      refine List.nodup_append.mpr ⟨xt_nd hx hn hR, (List.nodup_append.mp n0).2.1, fun a ha b hb e => ?_⟩
      obtain ⟨q, hq, rfl⟩ := List.mem_map.mp ha
      obtain ⟨p, hp, rfl⟩ := List.mem_map.mp hb
      exact xt_apartR hD hR q hq p hp e)
    (fun q hq p hp => (List.mem_append.mp hq).elim (fun k => xt_apart hx hR hC hdis q k p hp) (fun k => (xt_apartR hD hC p hp q k).symm)) hk hF hP1 hD1
  obtain ⟨h1, h2⟩ := h
  refine ⟨xt_P.mpr fun q hq => xt_P.mp h1 q ?_, ?_⟩
  · simp only [List.mem_append] at hq ⊢
    rcases hq with (h | h) | h
    · exact Or.inl (Or.inl h)
    · exact Or.inr h
    · exact Or.inl (Or.inr h)
  · obtain ⟨n, a⟩ := xt_D.mp h2
    refine xt_D.mpr ⟨?_, fun q hq => a q ?_⟩
    · have p : List.Perm ((wr ++ g) ++ w1) ((wr ++ w1) ++ g) := by
        rw [List.append_assoc, List.append_assoc]
        exact List.Perm.append_left _ List.perm_append_comm
      exact (p.map _).nodup_iff.mp n
    · simp only [List.mem_append] at hq ⊢
      rcases hq with (h | h) | h
      · exact Or.inl (Or.inl h)
      · exact Or.inr h
      · exact Or.inl (Or.inr h)
/-- behind a call that the tail goes into -/
theorem xt_joinS {x g wc wr w1 : va_W} (hP : va_P D cl (x ++ g) H) (hD : va_D A0 (x ++ g)) (isC isR : List Nat) (hC : isC.map (fun i => x[i]?) = wc.map some) (hR : isR.map (fun i => x[i]?) = wr.map some) (hn : va_nd isR = true) (hdis : ∀ i ∈ isR, i ∉ isC)
    (hk : ∀ q : Nat, q < H.size → ¬ va_A (wc ++ g) H.size q → H1[q]? = H[q]?) (hF : ∀ q, va_A (wc ++ g) H.size q → A0 q) (hP1 : va_P D cl w1 H1) (hD1 : va_D (va_A (wc ++ g) H.size) w1) : va_P D cl (wr ++ w1) H1 ∧ va_D A0 (wr ++ w1) := by
  have hx := xt_leftD hD
  exact xt_gen hP hD (fun q hq => by obtain ⟨i, -, hi⟩ := xt_mem hR hq; exact List.mem_append_left _ (List.mem_of_getElem? hi)) (xt_nd hx hn hR)
    (fun q hq p hp => (List.mem_append.mp hp).elim (fun k => xt_apart hx hR hC hdis q hq p k) (fun k => xt_apartR hD hR q hq p k)) hk hF hP1 hD1
end TAIL
section MT
variable {p : Program} {l : Launch} {e : Env} {R : Room} {s : State} {m : MethodId} {args : Array Value} {below : List Frame} {meth : Method} {c : Code} {H H0 : Heap} {locs : List Loc} {cells slots mc ms : Nat} {Q : State → Prop} {pc : Nat} {ls : Array Slot} {st0 rest : List Value} {a : Array Value} {D : va_G} {cl : List vw_C} {x g wc wr : va_W} {A0 : Nat → Prop} {S : Type} {w1 : S → va_W}
/-- as mj_i, mj_l, mj_v, before a tail that the callee doesn't see -/
theorem mt_i {post : Int32 → S → Prop} (hr : va_Run p l e R s m args below meth c H locs cells slots mc ms (F0 m pc ls st0) rest (va_Qi post (fun u t => va_P D cl (w1 u) t.heap ∧ va_D (va_A wc H.size) (w1 u)) (va_A wc H.size) a) (va_A wc H.size)) (hP : va_P D cl (x ++ g) H) (hD : va_D A0 (x ++ g)) (hS : va_S A0 H0 H locs) (hA : ∀ q, H0.size ≤ q → A0 q) (isC isR : List Nat) (hC : isC.map (fun i => x[i]?) = wc.map some) (hR : isR.map (fun i => x[i]?) = wr.map some) (hn : va_nd isR = true) (hdis : ∀ i ∈ isR, i ∉ isC)
    (kk : ∀ (r : Int32) (u : S) (H1 : Heap) (locs1 : List Loc), post r u → va_P D cl ((wr ++ w1 u) ++ g) H1 → va_D A0 ((wr ++ w1 u) ++ g) → va_S A0 H0 H1 locs1 → W p l e R s m args below meth c H1 locs1 (cells + mc) (slots + ms) Q (F0 m (pc + 3) ls (.int r :: rest))) : W p l e R s m args below meth c H locs cells slots Q (F0 m pc ls st0) := by
  have hF := va_free (xt_leftD hD) hS hA isC hC
  refine va_calli hr hS (fun q _ h => hF q h) hF (fun r u t H1 locs1 ht hvm hw hB hz hk hS1 => ?_)
  obtain ⟨hP1, hD1⟩ := hB
  rw [ht] at hP1
  obtain ⟨h1, h2⟩ := xt_join hP hD isC isR hC hR hn hdis hk hF hP1 hD1
  exact kk r u H1 locs1 hw h1 h2 hS1
theorem mt_l {post : Int64 → S → Prop} (hr : va_Run p l e R s m args below meth c H locs cells slots mc ms (F0 m pc ls st0) rest (va_Ql post (fun u t => va_P D cl (w1 u) t.heap ∧ va_D (va_A wc H.size) (w1 u)) (va_A wc H.size) a) (va_A wc H.size)) (hP : va_P D cl (x ++ g) H) (hD : va_D A0 (x ++ g)) (hS : va_S A0 H0 H locs) (hA : ∀ q, H0.size ≤ q → A0 q) (isC isR : List Nat) (hC : isC.map (fun i => x[i]?) = wc.map some) (hR : isR.map (fun i => x[i]?) = wr.map some) (hn : va_nd isR = true) (hdis : ∀ i ∈ isR, i ∉ isC)
    (kk : ∀ (r : Int64) (u : S) (H1 : Heap) (locs1 : List Loc), post r u → va_P D cl ((wr ++ w1 u) ++ g) H1 → va_D A0 ((wr ++ w1 u) ++ g) → va_S A0 H0 H1 locs1 → W p l e R s m args below meth c H1 locs1 (cells + mc) (slots + ms) Q (F0 m (pc + 3) ls (.long r :: rest))) : W p l e R s m args below meth c H locs cells slots Q (F0 m pc ls st0) := by
  have hF := va_free (xt_leftD hD) hS hA isC hC
  refine va_calll hr hS (fun q _ h => hF q h) hF (fun r u t H1 locs1 ht hvm hw hB hz hk hS1 => ?_)
  obtain ⟨hP1, hD1⟩ := hB
  rw [ht] at hP1
  obtain ⟨h1, h2⟩ := xt_join hP hD isC isR hC hR hn hdis hk hF hP1 hD1
  exact kk r u H1 locs1 hw h1 h2 hS1
theorem mt_v {post : S → Prop} (hr : va_Run p l e R s m args below meth c H locs cells slots mc ms (F0 m pc ls st0) rest (va_Qv post (fun u t => va_P D cl (w1 u) t.heap ∧ va_D (va_A wc H.size) (w1 u)) (va_A wc H.size) a) (va_A wc H.size)) (hP : va_P D cl (x ++ g) H) (hD : va_D A0 (x ++ g)) (hS : va_S A0 H0 H locs) (hA : ∀ q, H0.size ≤ q → A0 q) (isC isR : List Nat) (hC : isC.map (fun i => x[i]?) = wc.map some) (hR : isR.map (fun i => x[i]?) = wr.map some) (hn : va_nd isR = true) (hdis : ∀ i ∈ isR, i ∉ isC)
    (kk : ∀ (u : S) (H1 : Heap) (locs1 : List Loc), post u → va_P D cl ((wr ++ w1 u) ++ g) H1 → va_D A0 ((wr ++ w1 u) ++ g) → va_S A0 H0 H1 locs1 → W p l e R s m args below meth c H1 locs1 (cells + mc) (slots + ms) Q (F0 m (pc + 3) ls rest)) : W p l e R s m args below meth c H locs cells slots Q (F0 m pc ls st0) := by
  have hF := va_free (xt_leftD hD) hS hA isC hC
  refine va_callv hr hS (fun q _ h => hF q h) hF (fun u t H1 locs1 ht hvm hw hB hz hk hS1 => ?_)
  obtain ⟨hP1, hD1⟩ := hB
  rw [ht] at hP1
  obtain ⟨h1, h2⟩ := xt_join hP hD isC isR hC hR hn hdis hk hF hP1 hD1
  exact kk u H1 locs1 hw h1 h2 hS1
/-- a call that the tail goes into -/
theorem ms_v {post : S → Prop} (hr : va_Run p l e R s m args below meth c H locs cells slots mc ms (F0 m pc ls st0) rest (va_Qv post (fun u t => va_P D cl (w1 u) t.heap ∧ va_D (va_A (wc ++ g) H.size) (w1 u)) (va_A (wc ++ g) H.size) a) (va_A (wc ++ g) H.size)) (hP : va_P D cl (x ++ g) H) (hD : va_D A0 (x ++ g)) (hS : va_S A0 H0 H locs) (hA : ∀ q, H0.size ≤ q → A0 q) (isC isR : List Nat) (hC : isC.map (fun i => x[i]?) = wc.map some) (hR : isR.map (fun i => x[i]?) = wr.map some) (hn : va_nd isR = true) (hdis : ∀ i ∈ isR, i ∉ isC)
    (kk : ∀ (u : S) (H1 : Heap) (locs1 : List Loc), post u → va_P D cl (wr ++ w1 u) H1 → va_D A0 (wr ++ w1 u) → va_S A0 H0 H1 locs1 → W p l e R s m args below meth c H1 locs1 (cells + mc) (slots + ms) Q (F0 m (pc + 3) ls rest)) : W p l e R s m args below meth c H locs cells slots Q (F0 m pc ls st0) := by
  have hF := va_freeT hD hS hA isC hC
  refine va_callv hr hS (fun q _ h => hF q h) hF (fun u t H1 locs1 ht hvm hw hB hz hk hS1 => ?_)
  obtain ⟨hP1, hD1⟩ := hB
  rw [ht] at hP1
  obtain ⟨h1, h2⟩ := xt_joinS hP hD isC isR hC hR hn hdis hk hF hP1 hD1
  exact kk u H1 locs1 hw h1 h2 hS1
end MT
section RQ
variable {p : Program} {l : Launch} {e : Env} {R : Room} {s : State} {m : MethodId} {args : Array Value} {below : List Frame} {meth : Method} {c : Code} {H H0 : Heap} {locs : List Loc} {cells slots : Nat} {Q : State → Prop} {pc : Nat} {ls : Array Slot} {rest : List Value} {D : va_G} {cl : List vw_C} {ws : va_W} {A : Nat → Prop} {a : Nat} {tys : List (ClassId × FieldType)} {cc : ByteArray}
theorem ra_ldq (hexec : p.tables.exec = Jvm.exec) (hb : c.code = cc) (hK : va_K D cl tys s) (hP : va_P D cl ws H) (q0 t0 : Nat) {cA : ClassId} {C : String} {n : Nat} {f : Nat → Option Nat} (ha : ws[q0]? = some (a, .inl (cA, n, .inr (.inr (.inr (.inr f)))))) (ht : tys[t0]? = some (cA, .object C)) {i : Int32} {j : Nat} (hi : i = nI j) (hj : j < n) (hn : n < 2 ^ 31) {o : Option Nat} (ho : f j = o) (hdg : decode cc pc = .ok (.aaload, 1))
    (kk : W p l e R s m args below meth c H locs cells slots Q (F0 m (pc + 1) ls (va_rf o :: rest))) : W p l e R s m args below meth c H locs cells slots Q (F0 m pc ls (.int i :: .ref a :: rest)) :=
  va_aldq hexec hb hK hP q0 t0 ha ht (nin hi hj hn).1 hdg (by rw [(nin hi hj hn).2, ho]; exact kk)
theorem ra_stq (hexec : p.tables.exec = Jvm.exec) (hb : c.code = cc) (hK : va_K D cl tys s) (hP : va_P D cl ws H) (hD : va_D A ws) (hS : va_S A H0 H locs) (q0 t0 qk ci : Nat) {cA : ClassId} {r : vw_C} {n v : Nat} {vs : List Value} {f : Nat → Option Nat} (ha : ws[q0]? = some (a, .inl (cA, n, .inr (.inr (.inr (.inr f)))))) (ht : tys[t0]? = some (cA, .object r.1)) (hv : ws[qk]? = some (v, .inr (ci, vs))) (hc : cl[ci]? = some r) {i : Int32} {j : Nat} (hi : i = nI j) (hj : j < n) (hn : n < 2 ^ 31) (hdg : decode cc pc = .ok (.aastore, 1))
    (kk : ∀ (H1 : Heap) (locs1 : List Loc), va_P D cl (ws.set q0 (a, .inl (cA, n, .inr (.inr (.inr (.inr (va_up f j (some v)))))))) H1 → va_D A (ws.set q0 (a, .inl (cA, n, .inr (.inr (.inr (.inr (va_up f j (some v)))))))) → va_S A H0 H1 locs1 → W p l e R s m args below meth c H1 locs1 cells slots Q (F0 m (pc + 1) ls rest)) : W p l e R s m args below meth c H locs cells slots Q (F0 m pc ls (.ref v :: .int i :: .ref a :: rest)) :=
  va_astq hexec hb hK hP hD hS q0 t0 qk ci ha ht hv hc (nin hi hj hn).1 hdg (by rw [(nin hi hj hn).2]; exact kk)
theorem ra_newq (hexec : p.tables.exec = Jvm.exec) (hb : c.code = cc) {own C : String} {index : Nat} (hown : s.vm.findClass own = some m.cls) (hclink : (Cond.classLink own index C).before args s = true) (hover : va_AO C s) (hK : va_K D cl tys s) (hP : va_P D cl ws H) (hD : va_D A ws) (hS : va_S A H0 H locs) (hA : ∀ q, H0.size ≤ q → A q) (t0 : Nat) {cS : ClassId} (ht : tys[t0]? = some (cS, .object C))
    {n : Int32} {N : Nat} (hn : ¬ n < 0) (hN : n.toNatClampNeg = N) (hbytes : N * 4 ≤ 536870912) (hcells : cells + 1 ≤ R.cells) (hslots : slots + N ≤ R.slots) (hdg : decode cc pc = .ok (.anewarray index, 3))
    (kk : ∀ (q : Nat) (H1 : Heap), va_P D cl (ws ++ [(q, .inl (cS, N, .inr (.inr (.inr (.inr (fun _ => none))))))]) H1 → va_D A (ws ++ [(q, .inl (cS, N, .inr (.inr (.inr (.inr (fun _ => none))))))]) → va_S A H0 H1 locs →
      W p l e R s m args below meth c H1 locs (cells + 1) (slots + N) Q (F0 m (pc + 3) ls (.ref q :: rest))) : W p l e R s m args below meth c H locs cells slots Q (F0 m pc ls (.int n :: rest)) := by
  refine va_newq hexec hb hown hclink hover hK hP hD hS hA hn hN hbytes hcells hslots hdg (fun q cA H1 hK1 hP1 hD1 hS1 => ?_)
  have h1 := va_nmO (hK1.2 tys.length (cA, .object C) (by simp)).2 rfl
  have h2 := va_nmO (hK.2 t0 _ ht).2 rfl
  cases Option.some.inj (h1.symm.trans h2)
  exact kk q H1 hP1 hD1 hS1
end RQ
theorem ra_oinit {p : Program} {l : Launch} {e : Env} {R : Room} {s : State} {m : MethodId} {args : Array Value} {below : List Frame} {meth : Method} {c : Code} {H : Heap} {locs : List Loc} {cells slots : Nat} {Q : State → Prop} {pc : Nat} {ls : Array Slot} {rest : List Value} {cc : ByteArray} {a : Nat} (hexec : p.tables.exec = Jvm.exec) (hb : c.code = cc) {own : String} (hown : s.vm.findClass own = some m.cls) {idx : Nat} (h1 : (Cond.methodLink own idx objectInit).before args s = true) (h2 : (Cond.instanceMethod objectInit).before args s = true) (h3 : (Cond.code objectInit ⟨#[0xb1]⟩ 1 none).before args s = true) (hs : ls.size = c.maxLocals) (hdg : decode cc pc = .ok (.invokespecial idx, 3)) (hf : 1 ≤ R.frames) (hl : (rest.map fun v => v.category).sum + 12 ≤ R.locals)
    (kk : W p l e R s m args below meth c H locs cells slots Q (F0 m (pc + 3) ls rest)) : W p l e R s m args below meth c H locs cells slots Q (F0 m pc ls (.ref a :: rest)) :=
  W.objInit hexec hb hown h1 h2 h3 rfl hs rfl hdg hf (by show 2 * 0 + _ + 12 ≤ _; omega) kk

