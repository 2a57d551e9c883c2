/-! the law's helpers: a call that may throw, caught -/
section HC
variable {p : Program} {l : Launch} {e : Env} {R : Room} {s : State} {m : MethodId} {args : Array Value} {below : List Frame} {meth : Method} {c : Code} {H H0 : Heap} {locs : List Loc} {cells slots mc ms : Nat} {Q : State → Prop} {pc : Nat} {ls : Array Slot} {st0 rest : List Value} {a : Array Value} {D : va_G} {cl : List vw_C} {A0 : Nat → Prop}
theorem hx_call {S : Type} {post : Int32 → S → Prop} {XE : String → Prop} {w1 : S → va_W} {g : va_W} {o : Nat × va_E} (hr : vx_Run p l e R s m args below meth c H locs cells slots mc ms (F0 m pc ls st0) rest (va_Qi post (fun (u : S) t => va_P D cl (w1 u) t.heap ∧ va_D (va_A g H.size) (w1 u)) (va_A g H.size) a) (vx_X (fun _ : Unit => True) (fun E _ _ => XE E) aF) (va_A g H.size)) (hP : va_P D cl (o :: g) H) (hD : va_D A0 (o :: g)) (hS : va_S A0 H0 H locs) (hA : ∀ q, H0.size ≤ q → A0 q)
    (kx : ∀ (E : String) (ce : Cell) (q9 : Addr) (H1 : Heap) (locs1 : List Loc), XE E → va_P D cl (o :: g) H1 → va_S A0 H0 H1 locs1 → H1[q9]? = some ce → ce.vm = .none → s.vm.findClass E = some ce.cls → vx_W p l e R s m args below meth c H1 locs1 (cells + mc) (slots + ms) Q (F0 m pc ls rest) q9)
    (kk : ∀ (r : Int32) (u : S) (H1 : Heap) (locs1 : List Loc), post r u → va_P D cl (o :: w1 u) H1 → va_D A0 (o :: w1 u) → va_S A0 H0 H1 locs1 → W p l e R s m args below meth c H1 locs1 (cells + mc) (slots + ms) Q (F0 m (pc + 3) ls (.int r :: rest))) : W p l e R s m args below meth c H locs cells slots Q (F0 m pc ls st0) := by
  have hF : ∀ q, va_A g H.size q → A0 q := fun q hq => by
    rcases hq with ⟨k, e, h⟩ | h
    · exact (xt_D.mp hD).2 (q, e) (List.mem_cons_of_mem _ (List.mem_of_getElem? h))
    · exact hA q (Nat.le_trans hS.1 h)
  refine vx_calli hr hS (fun q _ h => hF q h) hF (fun q _ h => h.elim) (fun E ce q9 u t H1 locs1 ht hvm hpx hBX hz hk hS1 hce hcv hcl => ?_) (fun r u t H1 locs1 ht hvm hw hB hz hk hS1 => ?_)
  · exact kx E ce q9 H1 locs1 hBX (hP.kept (fun k q h => hk q.1 (hP k q h).lt (fun z => z))) hS1 hce hcv hcl
  · obtain ⟨hP1, hD1⟩ := hB
    rw [ht] at hP1
    have n := (xt_D.mp hD).1
    rw [List.map_cons, List.nodup_cons] at n
    obtain ⟨h1, h2⟩ := xt_gen (wr := [o]) hP hD (fun q hq => by rw [List.mem_singleton.mp hq]; exact List.mem_cons_self) (by simp) (fun q hq p hp e => n.1 (by rw [List.mem_singleton.mp hq] at e; rw [e]; exact List.mem_map.mpr ⟨p, hp, rfl⟩)) hk hF hP1 hD1
    exact kk r u H1 locs1 hw h1 h2 hS1
end HC

