/-! calls out of the law: the callee's part of the world by any order -/
theorem vx_Met.noX {l : Launch} {y : MethodName} {ws : List Cond} {rm : Room} {Pc : Array Value → State → Prop} {Qc : Array Value → State → Outcome → State → Prop} {B : String → Unit → State → Prop} {A : Nat → Prop} {mc ms : Nat} {free : Addr → Prop} (h : vx_Met l y ws rm Pc Qc (vx_X (fun _ : Unit => False) B A) mc ms free) : Met l y ws rm Pc Qc mc ms free := by
  intro p e ha hc hk s m args below h1 happ hP hK
  obtain ⟨k, o, h2, h3, h4, hQ⟩ := h p e ha hc hk s m args below h1 happ hP hK
  refine ⟨k, o, h2, h3, h4, ?_⟩
  rcases hQ with hQ | ⟨q, h5, E, ce, L, ⟨u, hf, -⟩, -⟩
  · exact hQ
  · exact hf.elim
section GC
variable {p : Program} {l : Launch} {e : Env} {R : Room} {s : State} {m : MethodId} {args : Array Value} {below : List Frame} {meth : Method} {c : Code} {H H0 : Heap} {locs : List Loc} {cells slots mc ms : Nat} {Q : State → Prop} {pc : Nat} {ls : Array Slot} {st0 rest : List Value} {a : Array Value} {D : va_G} {cl : List vw_C} {A0 : Nat → Prop} {S : Type} {w1 x1 : S → va_W} {wc wr x : va_W}
theorem g_P (hP : va_P D cl x H) (hp : x.Perm (wc ++ wr)) : va_P D cl wc H := xt_left (hP.perm hp)
theorem g_D (hD : va_D A0 x) (hp : x.Perm (wc ++ wr)) : va_D A0 wc := xt_leftD (hD.perm hp)
theorem g_F (hD : va_D A0 x) (hp : x.Perm (wc ++ wr)) (hS : va_S A0 H0 H locs) (hA : ∀ q, H0.size ≤ q → A0 q) : ∀ q, va_A wc H.size q → A0 q := fun q hq => by
  rcases hq with ⟨k, e, h⟩ | h
  · exact (xt_D.mp (g_D hD hp)).2 (q, e) (List.mem_of_getElem? h)
  · exact hA q (Nat.le_trans hS.1 h)
theorem g_join {w2 : va_W} {H1 : Heap} (hP : va_P D cl x H) (hD : va_D A0 x) (hS : va_S A0 H0 H locs) (hA : ∀ q, H0.size ≤ q → A0 q) (hp : x.Perm (wc ++ wr)) (hk : ∀ q : Nat, q < H.size → ¬ va_A wc H.size q → H1[q]? = H[q]?) (hP1 : va_P D cl w2 H1) (hD1 : va_D (va_A wc H.size) w2) : va_P D cl (wr ++ w2) H1 ∧ va_D A0 (wr ++ w2) := by
  have n := (xt_D.mp (hD.perm hp)).1
  rw [List.map_append] at n
  obtain ⟨n1, n2, n3⟩ := List.nodup_append.mp n
  exact xt_gen hP hD (fun q hq => hp.mem_iff.mpr (List.mem_append_right _ hq)) n2 (fun q hq p hq2 e => n3 p.1 (List.mem_map.mpr ⟨p, hq2, rfl⟩) q.1 (List.mem_map.mpr ⟨q, hq, rfl⟩) e.symm) hk (g_F hD hp hS hA) hP1 hD1
theorem g_calli {post : Int32 → S → Prop} (hr : va_Run p l e R s m args below meth c H locs cells slots mc ms (F0 m pc ls st0) rest (va_Qi post (fun u t => va_P D cl (w1 u) t.heap ∧ va_D (va_A wc H.size) (w1 u)) (va_A wc H.size) a) (va_A wc H.size)) (hP : va_P D cl x H) (hD : va_D A0 x) (hS : va_S A0 H0 H locs) (hA : ∀ q, H0.size ≤ q → A0 q) (hp : x.Perm (wc ++ wr)) (hp1 : ∀ u, (wr ++ w1 u).Perm (x1 u))
    (kk : ∀ (r : Int32) (u : S) (H1 : Heap) (locs1 : List Loc), post r u → va_P D cl (x1 u) H1 → va_D A0 (x1 u) → va_S A0 H0 H1 locs1 → W p l e R s m args below meth c H1 locs1 (cells + mc) (slots + ms) Q (F0 m (pc + 3) ls (.int r :: rest))) : W p l e R s m args below meth c H locs cells slots Q (F0 m pc ls st0) := by
  have hF := g_F hD hp hS hA
  refine va_calli hr hS (fun q _ h => hF q h) hF (fun r u t H1 locs1 ht hvm hw hB hz hk hS1 => ?_)
  obtain ⟨hP1, hD1⟩ := hB
  rw [ht] at hP1
  obtain ⟨h1, h2⟩ := g_join hP hD hS hA hp hk hP1 hD1
  exact kk r u H1 locs1 hw (h1.perm (hp1 u)) (h2.perm (hp1 u)) hS1
theorem g_calll {post : Int64 → S → Prop} (hr : va_Run p l e R s m args below meth c H locs cells slots mc ms (F0 m pc ls st0) rest (va_Ql post (fun u t => va_P D cl (w1 u) t.heap ∧ va_D (va_A wc H.size) (w1 u)) (va_A wc H.size) a) (va_A wc H.size)) (hP : va_P D cl x H) (hD : va_D A0 x) (hS : va_S A0 H0 H locs) (hA : ∀ q, H0.size ≤ q → A0 q) (hp : x.Perm (wc ++ wr)) (hp1 : ∀ u, (wr ++ w1 u).Perm (x1 u))
    (kk : ∀ (r : Int64) (u : S) (H1 : Heap) (locs1 : List Loc), post r u → va_P D cl (x1 u) H1 → va_D A0 (x1 u) → va_S A0 H0 H1 locs1 → W p l e R s m args below meth c H1 locs1 (cells + mc) (slots + ms) Q (F0 m (pc + 3) ls (.long r :: rest))) : W p l e R s m args below meth c H locs cells slots Q (F0 m pc ls st0) := by
  have hF := g_F hD hp hS hA
  refine va_calll hr hS (fun q _ h => hF q h) hF (fun r u t H1 locs1 ht hvm hw hB hz hk hS1 => ?_)
  obtain ⟨hP1, hD1⟩ := hB
  rw [ht] at hP1
  obtain ⟨h1, h2⟩ := g_join hP hD hS hA hp hk hP1 hD1
  exact kk r u H1 locs1 hw (h1.perm (hp1 u)) (h2.perm (hp1 u)) hS1
end GC
/-- the three ways to cut the law's world: the helper's part, the reference's, the crane's -/
theorem lp_h {α : Type} (o : α) (M g : List α) : (o :: (M ++ g)).Perm ((o :: g) ++ M) := by
  rw [List.cons_append]
  exact List.Perm.cons o List.perm_append_comm
theorem lp_h' {α : Type} (o : α) (M g : List α) : (M ++ (o :: g)).Perm (o :: (M ++ g)) := List.perm_middle
theorem lp_m {α : Type} (o : α) (M g : List α) : (o :: (M ++ g)).Perm (M ++ (o :: g)) := List.perm_middle.symm
theorem lp_m' {α : Type} (o : α) (M g : List α) : ((o :: g) ++ M).Perm (o :: (M ++ g)) := (lp_h o M g).symm
theorem lp_x {α : Type} (o : α) (M g : List α) : (o :: (M ++ g)).Perm (g ++ (o :: M)) := by
  rw [← List.cons_append]
  exact List.perm_append_comm
theorem lp_x' {α : Type} (o : α) (M g : List α) : ((o :: M) ++ g).Perm (o :: (M ++ g)) := by
  rw [List.cons_append]

