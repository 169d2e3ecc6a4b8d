/-! THE LAW's START -/
theorem lw_arr {args : Array Value} {s : State} {ty : FieldType} (h : (Cond.arrayClass ty).before args s = true) : ∃ cA, ArrOfT s cA ty ∧ s.vm.findClass ("[" ++ ty.toString) = some cA := by
  obtain ⟨c, k, comp, h1, h2, h3⟩ := Cond.arrayClass_spec h
  exact ⟨c, fun n z => ⟨fun k h => (by cases h), k, h2, comp, h3⟩, h1⟩
theorem lw_arrO {s : State} {C : String} (h : va_AO C s) : ∃ cA, ArrOfT s cA (.object C) ∧ va_RA s cA (.object C) := by
  obtain ⟨comp, c, k, h1, h2, h3, h4, h5⟩ := Cond.arrayOver_spec h
  exact ⟨c, fun n z => ⟨fun k h => (by cases h), k, h3, comp, h4⟩, k, comp, h3, h4, h1, h5⟩
set_option maxRecDepth 100000 in
theorem ek_nest_t : ∀ w ∈ ek_nest, w ∈ lw_tbl := List.forall_mem_cons.mpr ⟨lw_u1 (List.mem_of_getElem? (i := 60) rfl), List.forall_mem_cons.mpr ⟨lw_u1 (List.mem_of_getElem? (i := 61) rfl), List.forall_mem_cons.mpr ⟨lw_u1 (List.mem_of_getElem? (i := 62) rfl), List.forall_mem_cons.mpr ⟨lw_u1 (List.mem_of_getElem? (i := 64) rfl), List.forall_mem_cons.mpr ⟨lw_u1 (List.mem_of_getElem? (i := 65) rfl), List.forall_mem_cons.mpr ⟨lw_u1 (List.mem_of_getElem? (i := 66) rfl), List.forall_mem_cons.mpr ⟨lw_u1 (List.mem_of_getElem? (i := 72) rfl), List.forall_mem_cons.mpr ⟨lw_u1 (List.mem_of_getElem? (i := 73) rfl), List.forall_mem_cons.mpr ⟨lw_u1 (List.mem_of_getElem? (i := 74) rfl), List.forall_mem_cons.mpr ⟨lw_u1 (List.mem_of_getElem? (i := 76) rfl), List.forall_mem_cons.mpr ⟨lw_u1 (List.mem_of_getElem? (i := 77) rfl), List.forall_mem_cons.mpr ⟨lw_u1 (List.mem_of_getElem? (i := 79) rfl), List.forall_mem_cons.mpr ⟨lw_u1 (List.mem_of_getElem? (i := 81) rfl), List.forall_mem_cons.mpr ⟨lw_u1 (List.mem_of_getElem? (i := 83) rfl), List.forall_mem_cons.mpr ⟨lw_u1 (List.mem_of_getElem? (i := 85) rfl), List.forall_mem_cons.mpr ⟨lw_u1 (List.mem_of_getElem? (i := 87) rfl), List.forall_mem_cons.mpr ⟨lw_u1 (List.mem_of_getElem? (i := 89) rfl), List.forall_mem_cons.mpr ⟨lw_u1 (List.mem_of_getElem? (i := 90) rfl), List.forall_mem_cons.mpr ⟨lw_u1 (List.mem_of_getElem? (i := 92) rfl), List.forall_mem_cons.mpr ⟨lw_u1 (List.mem_of_getElem? (i := 94) rfl), List.forall_mem_cons.mpr ⟨lw_u1 (List.mem_of_getElem? (i := 96) rfl), List.forall_mem_cons.mpr ⟨lw_u1 (List.mem_of_getElem? (i := 98) rfl), List.forall_mem_cons.mpr ⟨lw_u1 (List.mem_of_getElem? (i := 100) rfl), List.forall_mem_cons.mpr ⟨lw_u1 (List.mem_of_getElem? (i := 101) rfl), List.forall_mem_cons.mpr ⟨lw_u1 (List.mem_of_getElem? (i := 103) rfl), List.forall_mem_cons.mpr ⟨lw_u1 (List.mem_of_getElem? (i := 104) rfl), List.forall_mem_cons.mpr ⟨lw_u1 (List.mem_of_getElem? (i := 137) rfl), List.forall_mem_cons.mpr ⟨lw_u1 (List.mem_of_getElem? (i := 138) rfl), List.forall_mem_cons.mpr ⟨lw_u1 (List.mem_of_getElem? (i := 140) rfl), List.forall_mem_cons.mpr ⟨lw_u1 (List.mem_of_getElem? (i := 141) rfl), List.forall_mem_cons.mpr ⟨lw_u1 (List.mem_of_getElem? (i := 177) rfl), fun _ h => absurd h List.not_mem_nil⟩⟩⟩⟩⟩⟩⟩⟩⟩⟩⟩⟩⟩⟩⟩⟩⟩⟩⟩⟩⟩⟩⟩⟩⟩⟩⟩⟩⟩⟩⟩
set_option maxRecDepth 100000 in
theorem ek_over_t : Cond.arrayOver (.object ek_TaskC) ∈ lw_tbl := lw_u1 (List.mem_of_getElem? (i := 31) rfl)
theorem lw_know {b : Nat} {s : State} (hts : ∀ w ∈ lw_tbl, w.before #[Value.ref b] s = true) : ∃ (D : va_G) (cf : Nat → ClassId), ∀ n0, ek_K (D, cf, n0) s := by
  have hg : ∀ w ∈ lw_g, w.before #[Value.ref b] s = true := fun w hw => hts w (List.mem_filter.mp hw).1
  obtain ⟨c0, i0, k0⟩ := u_known hg in_Dv (hg _ q_156)
  obtain ⟨c1, i1, k1⟩ := u_known hg in_Fr (hg _ q_38)
  obtain ⟨c2, i2, k2⟩ := u_known hg in_Na (hg _ q_44)
  obtain ⟨c3, i3, k3⟩ := u_known hg in_Ro (hg _ q_25)
  obtain ⟨c4, i4, k4⟩ := u_known hg in_Sp (hg _ q_148)
  obtain ⟨c5, i5, k5⟩ := u_known hg in_Ta (hg _ q_32)
  obtain ⟨c6, i6, k6⟩ := u_known hg in_Ke (hg _ q_17)
  obtain ⟨c7, i7, k7⟩ := u_known hg in_Mo (hg _ q_566)
  obtain ⟨a0, hA0, hN0⟩ := lw_arr (hg _ q_53)
  obtain ⟨a1, hA1, hN1⟩ := lw_arr (hg _ q_652)
  obtain ⟨a2, hA2, hN2⟩ := lw_arrO (va_AO.of (hts _ ek_over_t))
  refine ⟨(fun k => [c0, c1, c2, c3, c4, c5, c6, c7].getD k c0, fun k => [i0, i1, i2, i3, i4, i5, i6, i7].getD k i0), fun k => [a0, a1, a2].getD k a0, fun n0 => ⟨⟨fun k q hq => ?_, fun k q hq => ?_⟩, fun w hw => ?_⟩⟩
  · match k, hq with
    | 0, hq => cases hq; exact k0
    | 1, hq => cases hq; exact k1
    | 2, hq => cases hq; exact k2
    | 3, hq => cases hq; exact k3
    | 4, hq => cases hq; exact k4
    | 5, hq => cases hq; exact k5
    | 6, hq => cases hq; exact k6
    | 7, hq => cases hq; exact k7
    | k + 8, hq => exact absurd hq (by simp)
  · match k, hq with
    | 0, hq => cases hq; exact ⟨hA0, hN0⟩
    | 1, hq => cases hq; exact ⟨hA1, hN1⟩
    | 2, hq => cases hq; exact ⟨hA2, hN2⟩
    | k + 3, hq => exact absurd hq (by simp)
  · have h1 := hts w (ek_nest_t w hw)
    obtain ⟨a, i, b, n, d, h, rfl⟩ := ek_nest_f hw
    exact va_Nw.of rfl h1
set_option maxRecDepth 100000 in
theorem tpF_t : ∀ w ∈ tpF, w ∈ lw_tbl := List.forall_mem_cons.mpr ⟨lw_u2 (List.mem_of_getElem? (i := 228) rfl), List.forall_mem_cons.mpr ⟨lw_u2 (List.mem_of_getElem? (i := 230) rfl), List.forall_mem_cons.mpr ⟨lw_u2 (List.mem_of_getElem? (i := 232) rfl), List.forall_mem_cons.mpr ⟨lw_u2 (List.mem_of_getElem? (i := 226) rfl), fun _ h => absurd h List.not_mem_nil⟩⟩⟩⟩
set_option maxRecDepth 100000 in
theorem tz_t1 : Cond.laysStatic Bundle.tN "UNASSIGNED_STACK" Bundle.steD ∈ lw_tbl := lw_u3 (List.mem_of_getElem? (i := 11) rfl)
set_option maxRecDepth 100000 in
theorem tz_t2 : Cond.laysStatic Bundle.tN "SUPPRESSED_SENTINEL" Bundle.listD ∈ lw_tbl := lw_u3 (List.mem_of_getElem? (i := 13) rfl)
set_option maxRecDepth 100000 in
theorem tz_t3 : Cond.stringRef "ElasticKernel" 76 "n is not 1 .. 5000" ∈ lw_tbl := lw_u3 (List.mem_of_getElem? (i := 23) rfl)
theorem lw_TP {b n0 : Nat} {s : State} (hsz : s.heap.size = n0 + 1) (hts : ∀ w ∈ lw_tbl, w.before #[Value.ref b] s = true) (hg : (Jvm.Cond.and given_1 narrow_1).before #[Value.ref b] s = true) : TP (n0 + 1) s s.heap := by
  have hs := flat_of_before _ hg
  have h1 : (Cond.isRef (.static Bundle.tN "UNASSIGNED_STACK" Bundle.steD)).before #[Value.ref b] s = true := hs _ (by decide +kernel)
  have h2 : (Cond.isRef (.static Bundle.tN "SUPPRESSED_SENTINEL" Bundle.listD)).before #[Value.ref b] s = true := hs _ (by decide +kernel)
  have h3 : (Cond.exactly (.string "ElasticKernel" 76) "java/lang/String").before #[Value.ref b] s = true := hs _ (by decide +kernel)
  have z1 := tzS.of (hts _ tz_t1) h1
  have z2 := tzS.of (hts _ tz_t2) h2
  rw [hsz] at z1 z2
  refine ⟨fun w hw => ?_, z1, z2, ?_⟩
  · have h4 := hts w (tpF_t w hw)
    have h5 : w.onTables = true := by
      simp only [tpF, List.mem_cons, List.not_mem_nil, or_false] at hw
      rcases hw with rfl | rfl | rfl | rfl <;> rfl
    exact va_Nw.of h5 h4
  · obtain ⟨a2, c, cA, kA, q1, -⟩ := Cond.exactly_spec (args := #[Value.ref b]) (first := s) (o := none) (s := s) (idx := []) h3
    exact ⟨a2, vk_R.of (A := #[Value.ref b]) (hts _ tz_t3) q1⟩
set_option maxHeartbeats 2000000 in
theorem whole_start {p : Program} {e : Env} {s : State} {m : MethodId} {below : List Frame} {meth : Method} {c : Code} (l : Launch) (hl0 : l.stackTraces = false) {b L : Nat} {xs : Nat → Int32} (hL : L ≤ 3072) (C0 : lw_At p s m meth c b L xs) : W p l e room_1 s m #[Value.ref b] below meth c s.heap [] 0 0 (lw_Z below #[Value.ref b] s) (entryFrame m ([Value.ref b] : List Value).toArray 7) := by
  obtain ⟨hx, hb, hr, hml, hown0, hts, hX, hbl, hlk, hgv⟩ := C0
  have hown : s.vm.findClass "ElasticKernelLaw" = some m.cls := hown0
  have hgw : ∀ w ∈ lw_g, w.before #[Value.ref b] s = true := fun w hw => hts w (List.mem_filter.mp hw).1
  obtain ⟨n0, hn0⟩ : ∃ n0, s.heap.size = n0 + 1 := ⟨s.heap.size - 1, by omega⟩
  obtain ⟨D, cf, hKa⟩ := lw_know hts
  obtain ⟨Im0, hbe, h00, hST⟩ := st0
  have hov : va_AO ek_TaskC s := va_AO.of (hts _ ek_over_t)
  have hS : CallFix p m c code 7 s #[Value.ref b] lw_g "ElasticKernelLaw" := ⟨hx, hb, hml, hown, hgw⟩
  rw [lg_entry_eq]
  have hl := lv_entry [Value.ref b] (n := 7) (show ([Slot.val (Value.ref b)] : List Slot).length ≤ 7 from by simp)
  generalize (lg_sl [Value.ref b] ++ List.replicate (7 - (lg_sl [Value.ref b]).length) Slot.unset).toArray = ls at hl ⊢
  have hl : lv_has ls 7 [(0, .ref b)] := hl
  refine ek_new (G := (D, cf, n0)) (x := 1) hx hb hgw 7 in_Ke ty_Ke ty_Ke_ok hown q_16 q_17 q_1 (hKa n0) rfl (by decide +kernel) hn0 (by decide) (by decide) dL0 (fun H1 z1 o1 k1 => ?_)
  refine lv_dup hx hb dL3 rfl ?_
  refine ek_ctor (lo := n0 + 1) hS (hKa n0) hov (c_Ke (l := l) (G := (D, cf, n0))) z1 o1 q_18 q_19 q_1 q_20 rfl (by decide +kernel) ⟨rfl, rfl⟩ (by decide) hl.1 (by show 1 ≤ 4; decide) (by decide) dL4 (Nat.le_refl _) (fun q hq => by cases hq) (fun H2 locs2 l2 z2 c2 k2 => ?_)
  refine lv_astore_n hx hb dL7 rfl hl (by decide) rfl (fun ls1 hl1 => ?_)
  have z2' : H2.size = n0 + 105 + 1 := z2
  refine ek_new (G := (D, cf, n0 + 105)) (x := 1) hx hb hgw 8 in_Mo ty_Mo ty_Mo_ok hown q_565 q_566 q_8 (hKa (n0 + 105)) rfl (by decide +kernel) z2' (by decide) (by decide) dL8 (fun H3 z3 o3 k3 => ?_)
  refine lv_dup hx hb dL11 rfl ?_
  refine ek_ctor (lo := n0 + 1) hS (hKa (n0 + 105)) hov (c_Mo (l := l) (G := (D, cf, n0 + 105)) hbe) z3 o3 q_567 q_568 q_8 q_569 rfl (by decide +kernel) ⟨rfl, rfl⟩ (by decide) hl1.1 (by show 1 ≤ 4; decide) (by decide) dL12 (show n0 + 1 ≤ n0 + 105 + 1 by omega) l2 (fun H4 locs4 l4 z4 c4 k4 => ?_)
  refine lv_astore_n hx hb dL15 rfl hl1 (by decide) rfl (fun ls2 hl2 => ?_)
  have z4' : H4.size = n0 + 124 := z4
  refine lv_iconst (v := 1) hx hb dL16 (by decide) ?_
  refine va_newaK (atype := .long) (N := 1) hx hb (show (Cond.arrayClass (newarray.typeOf .long)).before #[Value.ref b] s = true from hgw _ q_815) (g := F0 m 17 ls2 [.int 1]) rfl dL17 rfl (by decide) (by decide) (by decide) (by decide) (by decide) z4' fun H5 cL e5 z5 k5 hAr hNm => ?_
  show W p l e room_1 s m _ below meth c H5 locs4 _ _ _ (F0 m 19 ls2 [.ref (n0 + 124)])
  refine lv_astore_n hx hb dL19 rfl hl2 (by decide) rfl (fun ls3 hl3 => ?_)
  refine lv_iconst (v := 0) hx hb dL20 (by decide) ?_
  refine lv_istore hx hb dL21 hl3 (by decide) rfl (fun ls4 hl4 => ?_)
  have Y : lwC p s m meth c b L xs n0 D cf cL := ⟨hS, hr, hlk, hX, by omega, hL, hn0, hKa n0, hAr, lw_TP hn0 hts hgv⟩
  refine lw_loop hl0 Y 512 0 H5 locs4 iX Im0 0 0 ls4 _ _ ⟨⟨rfl, fun x hx0 => ?_⟩, ⟨rfl, fun x hx0 => ?_⟩, e5, fun q hq => ?_, l4⟩ hST (by decide) hl4 (by omega) (by decide) (by decide) (by decide)
  · have g := kX_dom hx0
    refine ek_at_kept (c2 x g.1 (by omega)) ?_
    show H5[n0 + x]? = H2[n0 + x]?
    rw [k5 _ (by omega), k4 _ (show n0 + x < n0 + 105 + 1 by omega), k3 _ (show n0 + x < n0 + 105 + 1 by omega)]
  · have g := kM_dom hx0
    exact ek_at_kept (c4 x g.1 (by omega)) (k5 _ (show n0 + 105 + x < n0 + 124 by omega))
  · rw [k5 q (by omega), k4 q (show q < n0 + 105 + 1 by omega), k3 q (show q < n0 + 105 + 1 by omega), k2 q hq, k1 q hq]
