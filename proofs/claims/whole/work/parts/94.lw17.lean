/-! the start: what stands beside the world, out of the tables' words -/
theorem eSt_of {args : Array Value} {s : State} {C n : String} {N : Nat} {f : Nat → Int32} (hN : N < 2 ^ 31) (hl : (Cond.laysStatic C n "[I").before args s = true) (hini : (Cond.initialized C).before args s = true) (harr : (Cond.arrayOf (.static C n "[I") .int).before args s = true) (hlen : (Cond.eq (.length (.static C n "[I")) (.int (Int32.ofNat N))).before args s = true) (hel : ∀ j : Nat, j < N → (Cond.eq (.elem (.static C n "[I") (.int (Int32.ofNat j))) (.int (f j))).before args s = true) : eSt C n N f (lA s) s s.heap := by
  have hA : ∀ a : Nat, a < s.heap.size → ¬ lA s a := fun a h => Nat.not_le.mpr h
  obtain ⟨t, ht, hT⟩ := va_Tof (f := fun j => .int (f j)) (A := lA s) hN harr (va_eqt hlen) (fun j hj => va_eqt (hel j hj)) hA
  exact ⟨t, va_Zref hl hini ht hA, hT⟩
theorem txt_of {args : Array Value} {s : State} {C tx : String} {k : Nat} (h : (Cond.stringRef C k tx).before args s = true) : ∃ a : Nat, vk_R C k tx a s := by
  cases hc : s.vm.findClass C with
  | none => simp [Cond.before, Cond.holds, Cond.value, hc] at h
  | some cc =>
    obtain ⟨k1, cf, i, a, -, -, -, -, -, hev⟩ := Cond.stringRef_spec hc h
    exact ⟨a, vk_R.of h hev⟩
section E0
variable {s : State} {b : Nat}
theorem eX_cos (hts : ∀ w ∈ lw_tbl, w.before #[Value.ref b] s = true) (hs : ∀ w ∈ flatC (Jvm.Cond.and given_1 narrow_1), w.before #[Value.ref b] s = true) : eSt RX0 "COSINES" 10 tCos (lA s) s s.heap := by
  have h : ∀ j, j < 10 → Cond.eq (.elem (.static RX0 "COSINES" "[I") (.int (Int32.ofNat j))) (.int (tCos j)) ∈ flatC (Jvm.Cond.and given_1 narrow_1) := by decide +kernel
  exact eSt_of (by decide) (hts _ (by decide +kernel)) (hts _ (by decide +kernel)) (hs _ (by decide +kernel)) (hs _ (by decide +kernel)) (fun j hj => hs _ (h j hj))
theorem eX_len (hts : ∀ w ∈ lw_tbl, w.before #[Value.ref b] s = true) (hs : ∀ w ∈ flatC (Jvm.Cond.and given_1 narrow_1), w.before #[Value.ref b] s = true) : eSt RX1 "LENGTHS" 4 tLen (lA s) s s.heap := by
  have h : ∀ j, j < 4 → Cond.eq (.elem (.static RX1 "LENGTHS" "[I") (.int (Int32.ofNat j))) (.int (tLen j)) ∈ flatC (Jvm.Cond.and given_1 narrow_1) := by decide +kernel
  exact eSt_of (by decide) (hts _ (by decide +kernel)) (hts _ (by decide +kernel)) (hs _ (by decide +kernel)) (hs _ (by decide +kernel)) (fun j hj => hs _ (h j hj))
theorem eX_rad (hts : ∀ w ∈ lw_tbl, w.before #[Value.ref b] s = true) (hs : ∀ w ∈ flatC (Jvm.Cond.and given_1 narrow_1), w.before #[Value.ref b] s = true) : eSt RX1 "RADII" 6 tRad (lA s) s s.heap := by
  have h : ∀ j, j < 6 → Cond.eq (.elem (.static RX1 "RADII" "[I") (.int (Int32.ofNat j))) (.int (tRad j)) ∈ flatC (Jvm.Cond.and given_1 narrow_1) := by decide +kernel
  exact eSt_of (by decide) (hts _ (by decide +kernel)) (hts _ (by decide +kernel)) (hs _ (by decide +kernel)) (hs _ (by decide +kernel)) (fun j hj => hs _ (h j hj))
theorem eX_nest (hts : ∀ w ∈ lw_tbl, w.before #[Value.ref b] s = true) : pNest s := by
  have h : ∀ q ∈ nestL, Cond.methodLinkNest q.1 q.2.1 q.2.2 RX8 ∈ lw_tbl := by decide +kernel
  exact fun q hq => va_Nw.of rfl (hts _ (h q hq))
theorem eX_exc (hts : ∀ w ∈ lw_tbl, w.before #[Value.ref b] s = true) (hs : ∀ w ∈ flatC (Jvm.Cond.and given_1 narrow_1), w.before #[Value.ref b] s = true) : pExc s := by
  have h1 : ∀ y ∈ declL, Cond.declares y ∈ lw_tbl := by decide +kernel
  have h2 : ∀ n ∈ [nIO, nIA, nIS], Cond.castable n n ∈ lw_tbl := by decide +kernel
  exact ⟨fun y hy => va_Nw.of rfl (hts _ (h1 y hy)), fun n hn => va_Nw.of rfl (hts _ (h2 n hn)), va_Nc.of (hs _ (by decide +kernel)), va_Nc.of (hs _ (by decide +kernel))⟩
theorem eX_txt (hts : ∀ w ∈ lw_tbl, w.before #[Value.ref b] s = true) : pTxt s := by
  have h : ∀ q ∈ textL, Cond.stringRef RX8 q.1 q.2 ∈ lw_tbl := by decide +kernel
  exact fun q hq => txt_of (hts _ (h q hq))
theorem eX_0 (hts : ∀ w ∈ lw_tbl, w.before #[Value.ref b] s = true) (hgv : (Jvm.Cond.and given_1 narrow_1).before #[Value.ref b] s = true) : eX (lA s) s s.heap := by
  have hs := flat_of_before _ hgv
  have hA : ∀ a : Nat, a < s.heap.size → ¬ lA s a := fun a h => Nat.not_le.mpr h
  refine And.intro (eX_cos hts hs) (And.intro (eX_len hts hs) (And.intro (eX_rad hts hs) (And.intro (eX_nest hts) (And.intro (va_AO.of (hts _ (by decide +kernel))) (And.intro (eX_exc hts hs) (And.intro (eX_txt hts) (And.intro ?_ ?_)))))))
  · exact vx_Zqof (hts _ (by decide +kernel)) (hts _ (by decide +kernel)) (hs _ (by decide +kernel)) hA
  · exact vx_Zqof (hts _ (by decide +kernel)) (hts _ (by decide +kernel)) (hs _ (by decide +kernel)) hA
end E0

