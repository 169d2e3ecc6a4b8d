/-! TICK out of range: it throws, and nothing old changes -/
def tQ (st : State) (o : Outcome) (t : State) : Prop := ∃ (xa : Nat) (ce : Cell), o = .threw xa ∧ st.WarmedH t.vm ∧ st.sameButNew ({ t with vm := st.vm } : State) [] 1 6 ∧ t.heap[xa]? = some ce ∧ ce.vm = .none ∧ st.vm.findClass xIAE = some ce.cls
section EKE
variable {p : Program} {l : Launch} {e : Env} {R : Room} {s : State} {m : MethodId} {args : Array Value} {below : List Frame} {meth : Method} {c : Code} {H : Heap} {locs : List Loc} {cells slots : Nat} {Q : State → Prop}
variable {pc : Nat} {ls : Array Slot} {rest st0 : List Value} {G : ek_G} {I' : ek_St} {rv : Option Value} {a : Array Value}
/-- a call that touches nothing -/
theorem ek_runE (hr : va_Run p l e R s m args below meth c H locs cells slots 0 0 (F0 m pc ls st0) rest (ek_Q G (fun _ => 0) rv I' a) (ek_A G (fun _ => 0))) (hcs : s.heap.size + cells ≤ H.size)
    (kk : W p l e R s m args below meth c H locs cells slots Q (F0 m (pc + 3) ls (rv.toList ++ rest))) : W p l e R s m args below meth c H locs cells slots Q (F0 m pc ls st0) := by
  intro T hT X
  obtain ⟨v, st₀, t, T', L, h0, X', hL, e1, e2, ⟨hv, hw, hz, hk⟩, st⟩ := hr T hT X
  cases hv
  rw [h0] at hz hk
  have hle : T'.heap.size ≤ s.heap.size + (cells + 0) := X'.heapSize
  have hL0 : L = [] := by
    cases L with
    | nil => rfl
    | cons x L =>
      obtain ⟨z, hz, -⟩ := hL x List.mem_cons_self
      exact absurd rfl hz
  subst hL0
  rw [List.append_nil] at X'
  have hH : T'.heap = H := by
    refine Array.ext_getElem? (fun q => ?_)
    by_cases hq : q < H.size
    · rw [e1]
      exact hk q hq (fun ⟨z, hz, _⟩ => hz rfl)
    · rw [Array.getElem?_eq_none (by omega), Array.getElem?_eq_none (by omega)]
  obtain ⟨t2, a1, b1⟩ := kk T' hH X'
  exact ⟨t2, st t2 a1, b1⟩
end EKE
theorem isW_no {kd : Nat → Nat} {I : ek_St} {a : Int32} (h : ¬ (1 ≤ a ∧ a ≤ 5000)) : fKe_isWithin kd I a 5000 = some (I, 0) := by
  simp only [fKe_isWithin, fKe_isWithin_0, fKe_isWithin_14, ck0]
  by_cases h1 : a < 1
  · rw [if_pos h1]
  · rw [if_neg h1]
    by_cases h2 : (5000 : Int32) < a
    · rw [if_pos h2]
    · exact absurd ⟨Int32.not_lt.mp h1, Int32.not_lt.mp h2⟩ h
abbrev rm_T : Room := { frames := 6, cells := 1, slots := 6, locals := 82 }
theorem dKet10 : decode prog_1_method_6_code 10 = .ok (.new 74, 3) := by decide +kernel
theorem dKet13 : decode prog_1_method_6_code 13 = .ok (.dup, 1) := by decide +kernel
theorem dKet14 : decode prog_1_method_6_code 14 = .ok (.ldc 76, 2) := by decide +kernel
theorem dKet16 : decode prog_1_method_6_code 16 = .ok (.invokespecial 78, 3) := by decide +kernel
theorem dKet19 : decode prog_1_method_6_code 19 = .ok (.athrow, 1) := by decide +kernel
theorem dKet0 : decode prog_1_method_6_code 0 = .ok (.iload_n 1, 1) := by decide +kernel
theorem dKet1 : decode prog_1_method_6_code 1 = .ok (.sipush 5000, 3) := by decide +kernel
theorem dKet4 : decode prog_1_method_6_code 4 = .ok (.invokestatic 27, 3) := by decide +kernel
theorem dKet7 : decode prog_1_method_6_code 7 = .ok (.ifCond .ne 13, 3) := by decide +kernel
set_option maxHeartbeats 4000000 in
theorem mKe_tickT {l : Launch} (hl : l.stackTraces = false) {G : ek_G} {b lo : Nat} {a : Int32} (ha : ¬ (1 ≤ a ∧ a ≤ 5000)) : MetFree l y_Ke_tick (headSpec (.code y_Ke_tick prog_1_method_6_code 6 (some .int) :: lw_g) rm_T) (va_Pc [.ref b, .int a] (fun U => ek_K G U ∧ TP lo U U.heap)) (fun _ _ _ _ _ => True) (fun _ st o t => tQ st o t) := by
  refine MetFree.of_bodyS (code := prog_1_method_6_code) (maxLocals := 6) (ret := some .int) (by decide) ?_ ?_
  · intro args s m h hn
    obtain ⟨meth, c, h1, h2, h3, h4, h5, h6, -, -⟩ := Cond.code_spec hn (atoms_spec (ws := .code y_Ke_tick prog_1_method_6_code 6 (some .int) :: lw_g) h _ List.mem_cons_self)
    exact ⟨meth, c, h1, h2, h3, h4, h5, h6⟩
  · intro p e s m args below meth c s₁ B hml hP _
    obtain ⟨rfl, hK, hTP⟩ := hP
    have X₀ : Stand p l e rm_T s m _ below meth c s₁ [] 0 0 := Stand.of_body B
    have hh0 : s₁.heap = s.heap := by rw [B.state]; rfl
    have hws := atoms_spec (ws := .code y_Ke_tick prog_1_method_6_code 6 (some .int) :: lw_g) B.pre
    have hts : ∀ w ∈ lw_g, w.before [Value.ref b, Value.int a].toArray s = true := fun w hw => hws w (List.mem_cons_of_mem _ hw)
    have hown : s.vm.findClass "ElasticKernel" = some m.cls := findClass_of_methodNamed B.named
    have htr : e.platform.stackTraces = false := by rw [Jvm.Example.NoTraceControls.admits_follows X₀.admits]; exact hl
    have hcov : ∀ x ∈ c.exceptionTable.toList, covers x 19 = false := covers_of_empty (B.noHandlers (hws _ List.mem_cons_self)) _
    have hx := B.exec
    have hb := B.bytes
    have hlocks := B.notSynchronized
    have K : W p l e rm_T s m [Value.ref b, Value.int a].toArray below meth c s.heap [] 0 0 (fun t => ∃ o, t.status = .running ∧ Ended t below o ∧ tQ s o t) (entryFrame m [Value.ref b, Value.int a].toArray 6) := by
      rw [lg_entry_eq]
      have hl := lv_entry [Value.ref b, Value.int a] (n := 6) (show ([Slot.val (Value.ref b), Slot.val (Value.int a)] : List Slot).length ≤ 6 from by simp)
      generalize (lg_sl [Value.ref b, Value.int a] ++ List.replicate (6 - (lg_sl [Value.ref b, Value.int a]).length) Slot.unset).toArray = ls at hl ⊢
      have hl : lv_has ls 6 [(0, .ref b), (1, .int a)] := hl
      refine lv_iload_n hx hb dKet0 rfl (lv_at hl 1 rfl) ?_
      refine lv_sipush (v := 5000) hx hb dKet1 (by decide) ?_
      have hrun := ek_rS (l := l) (e := e) (R := rm_T) (below := below) (meth := meth) (H := s.heap) (locs := []) (cells := 0) (slots := 0) (pc := 4) (ls := ls) (G := G) (kd := fun _ => 0) (I := fun _ _ => 0) (As := [.int a, .int 5000]) (rest := []) ⟨hx, hb, hml, hown, hts⟩ hK ⟨rfl, fun z hz => absurd rfl hz⟩ (mKe_isWithin (isW_no ha)) (ek_cwS 2 hts q_222 q_223 q_1 q_224 (by decide +kernel) (by decide)) rfl hl.1 rfl (by decide) dKet4 (by decide)
      refine ek_runE hrun (by omega) ?_
      show W p l e rm_T s m _ below meth c s.heap [] 0 0 _ (F0 m 7 ls [.int 0])
      refine lv_if_ne (tgt := 20) hx hb dKet7 (by decide) (fun h => absurd rfl h) (fun _ => ?_)
      refine W.newc hx hb (C := xIAE) (n := 6) hown (hts _ q_464) (hts _ q_465) (hts _ q_15) (g := F0 m 10 ls []) rfl dKet10 (by decide) (by decide) (fun cX kX hfX hkX _ _ => ?_)
      obtain ⟨q, hq⟩ := hTP.2.2.2
      show W p l e rm_T s m _ below meth c (s.heap.push (freshCell cX kX)) [] 1 6 _ (F0 m 13 ls [.ref s.heap.size])
      refine lv_dup hx hb dKet13 rfl ?_
      refine va_ldcS hx hb hown hq dKet14 ?_
      intro T hT X
      have hcellA : T.heap[s.heap.size]? = some (freshCell cX kX) := by rw [hT]; exact Array.getElem?_push_size
      obtain ⟨U, hsteps, hrun, hend, hW, hsame, ce, hce, K⟩ := X.ctorThrowS hx htr (own := "ElasticKernel") (cls := xIAE) (names := upIAE) (ic := 78) hown (by decide +kernel) (by decide +kernel)
        (tp_atoms hts hTP) (fun y hy => by cases hy) hfX hkX hcellA (Nat.le_refl _) (msg := .ref q) rfl
        (g := F0 m 16 ls [.ref q, .ref s.heap.size, .ref s.heap.size]) rfl (hl.1.trans hml.symm) rfl rfl (rest := []) rfl
        (by rw [hb]; exact dKet16) (by rw [hb]; exact dKet19) hcov (by decide) (by simp [upIAE, Value.category, JFrame.monitorRoom]) hlocks
      exact ⟨U, hsteps, .threw s.heap.size, hrun, hend, s.heap.size, ce, rfl, hW, hsame, hce, K.vm, K.cls⟩
    obtain ⟨t, a1, o, b1, b2, b3⟩ := K s₁ hh0 X₀
    exact ⟨t, o, a1, b1, b2, b3⟩
