/-! THE LAW's tick: 0 and the answer in the long array, or 1 where the class throws -/
abbrev y_Lt : MethodName := ⟨"ElasticKernelLaw", "tick", "(LElasticKernel;I[J)I"⟩
abbrev hh_Lt : List (Nat × Nat × Nat × Nat) := [(0, 9, 12, 13)]
abbrev rm_Lt : Room := { frames := 4, cells := 0, slots := 0, locals := 94 }
abbrev rm_LtT : Room := { frames := 7, cells := 1, slots := 6, locals := 107 }
def lgC (cL : ClassId) (v : Int64) : Cell := arrV cL 1 (fun _ => .long v)
theorem lgC_set {cL : ClassId} {v x : Int64} : (lgC cL v).setSlot 0 (.long x) = lgC cL x := by
  unfold lgC
  rw [arrV_store]
  unfold arrV
  congr 2
  funext j
  have : j.val = 0 := by omega
  simp [updV, this]
theorem lgC_size {cL : ClassId} {v : Int64} : (lgC cL v).slots.size = 1 := arrV_size _ _ _
section EKU
variable {p : Program} {l : Launch} {e : Env} {R : Room} {s : State} {m : MethodId} {args : Array Value} {below : List Frame} {meth : Method} {c : Code} {H : Heap} {locs : List Loc} {cells slots : Nat} {Q : State → Prop}
variable {cc : ByteArray} {pc : Nat} {ls : Array Slot} {rest st0 : List Value} {G : ek_G} {kd : Nat → Nat} {I' : ek_St} {rv : Option Value} {a : Array Value} {cL : ClassId} {o : Nat} {v x : Int64}
theorem lg_put (hexec : p.tables.exec = Jvm.exec) (hb : c.code = cc) (hc : H[o]? = some (lgC cL v)) (hA : ArrOfT s cL .long) (hdg : decode cc pc = .ok (.lastore, 1))
    (kk : ∀ H1 : Heap, H1[o]? = some (lgC cL x) → H1.size = H.size → (∀ q, q ≠ o → H1[q]? = H[q]?) → W p l e R s m args below meth c H1 (locs ++ [⟨o, 0⟩]) cells slots Q (F0 m (pc + 1) ls rest)) : W p l e R s m args below meth c H locs cells slots Q (F0 m pc ls (.long x :: .int 0 :: .ref o :: rest)) := by
  refine W.last (j := 0) hexec hb hc (hA 1 _) (fun h => by cases h) (by rw [lgC_size]; decide) rfl rfl hdg fun H1 e z oq => ?_
  exact kk H1 (by rw [e]; exact congrArg some lgC_set) z oq
theorem lg_get (hexec : p.tables.exec = Jvm.exec) (hb : c.code = cc) (hc : H[o]? = some (lgC cL v)) (hA : ArrOfT s cL .long) (hdg : decode cc pc = .ok (.laload, 1))
    (kk : W p l e R s m args below meth c H locs cells slots Q (F0 m (pc + 1) ls (.long v :: rest))) : W p l e R s m args below meth c H locs cells slots Q (F0 m pc ls (.int 0 :: .ref o :: rest)) :=
  W.lald (j := 0) (v := .long v) hexec hb hc (hA 1 _) (fun h => by cases h) (by rw [lgC_size]; decide) (arrV_read _ _ (by decide)) rfl rfl hdg kk
/-- a call in a world, whatever else lies in the heap -/
theorem ek_runL (hr : va_Run p l e R s m args below meth c H locs cells slots 0 0 (F0 m pc ls st0) rest (ek_Q G kd rv I' a) (ek_A G kd))
    (kk : ∀ (H1 : Heap) (L : List Loc), (∀ q ∈ L, ek_A G kd q.base) → ek_W G kd I' H1 → H.size ≤ H1.size → (∀ q, q < H.size → ¬ ek_A G kd q → H1[q]? = H[q]?) → W p l e R s m args below meth c H1 (locs ++ L) cells slots Q (F0 m (pc + 3) ls (rv.toList ++ rest))) : W p l e R s m args below meth c H locs cells slots Q (F0 m pc ls st0) := by
  intro T hT X
  obtain ⟨v, st₀, t, T', L, h0, X', hL, e1, e2, ⟨hv, hw, hz, hk⟩, st⟩ := hr T hT X
  cases hv
  rw [h0] at hz hk
  obtain ⟨t2, a1, b1⟩ := kk T'.heap L hL (by rw [e1]; exact hw) (by rw [e1]; exact hz) (fun q h1 h2 => by rw [e1]; exact hk q h1 h2) T' rfl X'
  exact ⟨t2, st t2 a1, b1⟩
end EKU
theorem dLt0 : decode method_3_code 0 = .ok (.aload_n 2, 1) := by decide +kernel
theorem dLt1 : decode method_3_code 1 = .ok (.iconst 0, 1) := by decide +kernel
theorem dLt2 : decode method_3_code 2 = .ok (.aload_n 0, 1) := by decide +kernel
theorem dLt3 : decode method_3_code 3 = .ok (.iload_n 1, 1) := by decide +kernel
theorem dLt4 : decode method_3_code 4 = .ok (.invokevirtual 7, 3) := by decide +kernel
theorem dLt7 : decode method_3_code 7 = .ok (.i2l, 1) := by decide +kernel
theorem dLt8 : decode method_3_code 8 = .ok (.lastore, 1) := by decide +kernel
theorem dLt9 : decode method_3_code 9 = .ok (.goto 6, 3) := by decide +kernel
theorem dLt12 : decode method_3_code 12 = .ok (.astore_n 3, 1) := by decide +kernel
theorem dLt13 : decode method_3_code 13 = .ok (.iconst 1, 1) := by decide +kernel
theorem dLt14 : decode method_3_code 14 = .ok (.ireturn, 1) := by decide +kernel
theorem dLt15 : decode method_3_code 15 = .ok (.iconst 0, 1) := by decide +kernel
theorem dLt16 : decode method_3_code 16 = .ok (.ireturn, 1) := by decide +kernel
def ltA (G : ek_G) (o q : Nat) : Prop := ek_A G kX q ∨ q = o
def ltB (G : ek_G) (I : ek_St) (cL : ClassId) (o : Nat) (v : Int64) (U : State) : Prop := ek_W G kX I U.heap ∧ ek_K G U ∧ ArrOfT U cL .long ∧ U.heap[o]? = some (lgC cL v) ∧ ¬ ek_A G kX o
def ltQ (G : ek_G) (I' : ek_St) (cL : ClassId) (o : Nat) (r : Int32) : Array Value → State → Outcome → State → Prop := fun _ st oc t => oc = .returned (some (.int 0)) ∧ ek_W G kX I' t.heap ∧ t.heap[o]? = some (lgC cL r.toInt64) ∧ va_F (ltA G o) st t
def ltBT (G : ek_G) (I : ek_St) (lo : Nat) (U : State) : Prop := ek_W G kX I U.heap ∧ ek_K G U ∧ TP lo U U.heap
def ltQT : Array Value → State → Outcome → State → Prop := fun _ st oc t => oc = .returned (some (.int 1)) ∧ st.heap.size ≤ t.heap.size ∧ ∀ q, q < st.heap.size → t.heap[q]? = st.heap[q]?
set_option maxHeartbeats 2000000 in
theorem c_Lt {l : Launch} {G : ek_G} {I I' : ek_St} {a r : Int32} {o : Nat} {cL : ClassId} {v : Int64} (hf : fKe_tick kX I 1 a = some (I', r)) : Met l y_Lt (.codeWith y_Lt method_3_code 4 (some .int) hh_Lt :: lw_g) rm_Lt (va_Pc [.ref (G.2.2 + 1), .int a, .ref o] (ltB G I cL o v)) (ltQ G I' cL o r) 0 0 (ltA G o) := by
  refine va_MetW (cc := method_3_code) (maxL := 4) (ret := some .int) (hh := hh_Lt) (by decide) rfl ?_
  intro p e s m args below meth c s₁ B hml hP
  obtain ⟨rfl, hw, hK, hAr, hc, hno⟩ := hP
  have hx := B.exec
  have hb := B.bytes
  have hr := B.returns
  have hlk := B.notSynchronized
  have hown : s.vm.findClass "ElasticKernelLaw" = some m.cls := findClass_of_methodNamed B.named
  have hts : ∀ w ∈ lw_g, w.before [Value.ref (G.2.2 + 1), Value.int a, Value.ref o].toArray s = true := fun w hw => atoms_spec (ws := .codeWith y_Lt method_3_code 4 (some .int) hh_Lt :: lw_g) B.pre w (List.mem_cons_of_mem _ hw)
  show W p l e rm_Lt s m _ below meth c s.heap [] 0 0 _ _
  rw [lg_entry_eq]
  have hl := lv_entry [Value.ref (G.2.2 + 1), Value.int a, Value.ref o] (n := 4) (show ([Slot.val (Value.ref (G.2.2 + 1)), Slot.val (Value.int a), Slot.val (Value.ref o)] : List Slot).length ≤ 4 from by simp)
  generalize (lg_sl [Value.ref (G.2.2 + 1), Value.int a, Value.ref o] ++ List.replicate (4 - (lg_sl [Value.ref (G.2.2 + 1), Value.int a, Value.ref o]).length) Slot.unset).toArray = ls at hl ⊢
  have hl : lv_has ls 4 [(0, .ref (G.2.2 + 1)), (1, .int a), (2, .ref o)] := hl
  have hlt : o < s.heap.size := (Array.getElem?_eq_some_iff.mp hc).1
  refine lv_aload_n hx hb dLt0 rfl (lv_at hl 2 rfl) ?_
  refine lv_iconst (v := 0) hx hb dLt1 (by decide) ?_
  refine lv_aload_n hx hb dLt2 rfl (lv_at hl 0 rfl) ?_
  refine lv_iload_n hx hb dLt3 rfl (lv_at hl 1 rfl) ?_
  have hrun := ek_rV (l := l) (e := e) (R := rm_Lt) (below := below) (meth := meth) (locs := []) (cells := 0) (slots := 0) (pc := 4) (ls := ls) (G := G) (kd := kX) (x := 1) (rest := [.int 0, .ref o]) (n := 1) ⟨hx, hb, hml, hown, hts⟩ hK hw 7 (C := "ElasticKernel") rfl (by decide) (by decide) (by decide) (mKe_tick hf) (cwV 1 hts (lw_V q_460 q_461 q_462 q_1 q_463) rfl rfl rfl (by decide +kernel) (by decide)) rfl hl.1 (st0 := [.int a, .ref (G.2.2 + 1), .int 0, .ref o]) (by rw [ek_r_ref (by omega)]; rfl) (by show 2 ≤ 4; decide) dLt4 (by decide)
  refine ek_runL hrun (fun H1 L hL w1 z1 k1 => ?_)
  show W p l e rm_Lt s m _ below meth c H1 _ 0 0 _ (F0 m 7 ls [.int r, .int 0, .ref o])
  refine lv_i2l (v := r.toInt64) hx hb dLt7 rfl ?_
  refine lg_put (v := v) hx hb (by rw [k1 o hlt hno]; exact hc) hAr dLt8 (fun H2 c2 z2 k2 => ?_)
  have w2 : ek_W G kX I' H2 := ek_W_kept w1 (fun x hx0 => k2 _ (fun he => hno ⟨x, hx0, he.symm⟩))
  refine lv_goto (tgt := 15) hx hb dLt9 (by decide) ?_
  refine lv_iconst (v := 0) hx hb dLt15 (by decide) ?_
  have k3 : ∀ q, q < s.heap.size → ¬ ltA G o q → H2[q]? = s.heap[q]? := fun q h1 h2 => by rw [k2 q (fun he => h2 (Or.inr he)), k1 q h1 (fun he => h2 (Or.inl he))]
  have l3 : ∀ q ∈ ([] ++ L ++ [(⟨o, 0⟩ : Loc)]), ltA G o q.base := fun q hq => by
    rcases List.mem_append.mp hq with h | h
    · exact Or.inl (hL q h)
    · rw [List.mem_singleton.mp h]
      exact Or.inr rfl
  exact W.iret hx hb hr (fun t ht _ => ⟨rfl, by rw [ht]; exact w2, by rw [ht]; exact c2, by rw [ht, z2]; exact z1, fun q h1 h2 => by rw [ht]; exact k3 q h1 h2⟩) l3 dLt16 hlk
theorem ltBT_blind {G : ek_G} {I : ek_St} {lo : Nat} {av : List Value} : FrameBlind (va_Pc av (ltBT G I lo)) := fun a U g mk q => ⟨q.1, q.2.1, ek_K_same (u := U) (U := U.calling g mk a) rfl q.2.2.1, TP.warm (s := U) (U := U.calling g mk a) (State.WarmedH.refl U) q.2.2.2⟩
theorem ltB_blind {G : ek_G} {I : ek_St} {cL : ClassId} {o : Nat} {v : Int64} {av : List Value} : FrameBlind (va_Pc av (ltB G I cL o v)) := fun a U g mk q => ⟨q.1, q.2.1, ek_K_same (u := U) (U := U.calling g mk a) rfl q.2.2.1, arrOfT_moved (E := U.calling g mk a) (Vm.Alike.refl _) q.2.2.2.1, q.2.2.2.2.1, q.2.2.2.2.2⟩
set_option maxHeartbeats 2000000 in
theorem c_LtT {l : Launch} (hl0 : l.stackTraces = false) {G : ek_G} {I : ek_St} {a : Int32} {o lo : Nat} (ha : ¬ (1 ≤ a ∧ a ≤ 5000)) : Met l y_Lt (.codeWith y_Lt method_3_code 4 (some .int) hh_Lt :: lw_g) rm_LtT (va_Pc [.ref (G.2.2 + 1), .int a, .ref o] (ltBT G I lo)) ltQT 1 6 (fun _ => False) := by
  refine va_MetW (cc := method_3_code) (maxL := 4) (ret := some .int) (hh := hh_Lt) (by decide) rfl ?_
  intro p e s m args below meth c s₁ B hml hP
  obtain ⟨rfl, hw, hK, hTP⟩ := hP
  have hx := B.exec
  have hb := B.bytes
  have hr := B.returns
  have hlk := B.notSynchronized
  have hown : s.vm.findClass "ElasticKernelLaw" = some m.cls := findClass_of_methodNamed B.named
  have hws := atoms_spec (ws := .codeWith y_Lt method_3_code 4 (some .int) hh_Lt :: lw_g) B.pre
  have hts : ∀ w ∈ lw_g, w.before [Value.ref (G.2.2 + 1), Value.int a, Value.ref o].toArray s = true := fun w hw => hws w (List.mem_cons_of_mem _ hw)
  have hct : c.exceptionTable.toList = [(⟨0, 9, 12, 13⟩ : ExceptionTableEntry)] := by
    obtain ⟨m9, meth9, c9, hn9, h1, h2, -, -, h5, -⟩ := Cond.codeWith_spec (hws _ List.mem_cons_self)
    cases B.named.symm.trans hn9
    cases B.method.symm.trans h1
    cases (Stand.of_body B).code.symm.trans h2
    generalize c.exceptionTable.toList = L at h5
    match L, h5 with
    | [x], h5 =>
      obtain ⟨x1, x2, x3, x4⟩ := x
      simp at h5
      obtain ⟨rfl, rfl, rfl, rfl⟩ := h5
      rfl
    | [], h5 => cases h5
    | x :: y :: t, h5 => simp at h5
  show W p l e rm_LtT s m _ below meth c s.heap [] 0 0 _ _
  rw [lg_entry_eq]
  have hl := lv_entry [Value.ref (G.2.2 + 1), Value.int a, Value.ref o] (n := 4) (show ([Slot.val (Value.ref (G.2.2 + 1)), Slot.val (Value.int a), Slot.val (Value.ref o)] : List Slot).length ≤ 4 from by simp)
  generalize (lg_sl [Value.ref (G.2.2 + 1), Value.int a, Value.ref o] ++ List.replicate (4 - (lg_sl [Value.ref (G.2.2 + 1), Value.int a, Value.ref o]).length) Slot.unset).toArray = ls at hl ⊢
  have hl : lv_has ls 4 [(0, .ref (G.2.2 + 1)), (1, .int a), (2, .ref o)] := hl
  refine lv_aload_n hx hb dLt0 rfl (lv_at hl 2 rfl) ?_
  refine lv_iconst (v := 0) hx hb dLt1 (by decide) ?_
  refine lv_aload_n hx hb dLt2 rfl (lv_at hl 0 rfl) ?_
  refine lv_iload_n hx hb dLt3 rfl (lv_at hl 1 rfl) ?_
  obtain ⟨cell, q1, q2, q3, -⟩ := ek_W_obj hw (x := 1) (kx := 7) (by decide) (by decide) (by decide) rfl
  refine ct_callV (R := rm_LtT) (C := "ElasticKernel") (index := 7) (n := 1) (maxL := 6) (ret := some .int) (bytes := prog_1_method_6_code) (rest := [.int 0, .ref o]) (As := [.int a]) (b := G.2.2 + 1) (x := (⟨0, 9, 12, 13⟩ : ExceptionTableEntry)) ⟨hx, hb, hml, hown, hts⟩ (mKe_tickT (l := l) hl0 (G := G) (b := G.2.2 + 1) (lo := lo) ha) (cwV 1 hts (lw_V q_460 q_461 q_462 q_1 q_463) rfl rfl rfl (by decide +kernel) (by decide))
    ⟨fun a U g mk q => ⟨q.1, ek_K_same (u := U) (U := U.calling g mk a) rfl q.2.1, TP.warm (s := U) (U := U.calling g mk a) (State.WarmedH.refl U) q.2.2⟩, ⟨cell, q1, by rw [q3]; rfl, by rw [q2]; exact (hK.1.1 6 _ rfl).2.1⟩, fun U hU hW => ⟨rfl, ek_K_warm hW hK, by rw [hU]; exact TP.warm hW hTP⟩⟩ rfl hl.1 rfl (by show 2 ≤ 4; decide) dLt4 (by decide) hct (by decide) (by decide) (hts _ q_459) (hTP.1 _ (List.mem_of_getElem? (i := 3) rfl)) (fun H1 xa z1 k1 => ?_)
  show W p l e rm_LtT s m _ below meth c H1 [] 1 6 _ (F0 m 12 ls [.ref xa])
  refine lv_astore_n hx hb dLt12 rfl hl (by decide) rfl (fun ls2 hl2 => ?_)
  refine lv_iconst (v := 1) hx hb dLt13 (by decide) ?_
  exact W.iret hx hb hr (fun t ht _ => ⟨rfl, by rw [ht]; exact z1, fun q h1 => by rw [ht]; exact k1 q h1⟩) (fun q hq => by cases hq) dLt14 hlk
