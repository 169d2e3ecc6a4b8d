/-! TICK THROWS: what the exception's making reads of the tables and of two static fields -/
def xIAE : String := "java/lang/IllegalArgumentException"
def upIAE : List String := ["java/lang/RuntimeException", "java/lang/Exception"]
/-- a static field that holds a reference, its cell below lo -/
def tzS (n d : String) (lo : Nat) (U : State) (H : Heap) : Prop := ∃ (c : ClassId) (k : Class) (i : Nat) (f : Field) (a : Nat) (cell : Cell) (v : Value), U.vm.findClass Bundle.tN = some c ∧ U.fieldFound? Bundle.tN n d = some (c, k, i, f) ∧ f.isStatic = true ∧ k.statics = some a ∧ H[a]? = some cell ∧ cell.vm.isStatics = true ∧ cell.cls = c ∧ f.slot < cell.slots.size ∧ k.staticTypes[f.slot]? = some f.type ∧ cell.slots[f.slot]? = some v ∧ v.isRef = true ∧ a < lo
theorem tzS.moved {n d : String} {lo : Nat} {u U : State} {H : Heap} (hvm : u.vm.Alike U.vm) (h : tzS n d lo u H) : tzS n d lo U H := by
  obtain ⟨c, k, i, f, a, cell, v, h1, h2, h3, h4, h5, h6, h7, h8, h9, h10⟩ := h
  obtain ⟨k', hi', he⟩ := State.fieldFound?_setVm hvm h2
  exact ⟨c, k', i, f, a, cell, v, by rw [hvm.findClass]; exact h1, hi', h3, by rw [he]; exact h4, h5, h6, h7, h8, by rw [he]; exact h9, h10⟩
theorem tzS.kept {n d : String} {lo : Nat} {U : State} {H H1 : Heap} (h : tzS n d lo U H) (hq : ∀ q, q < lo → H1[q]? = H[q]?) : tzS n d lo U H1 := by
  obtain ⟨c, k, i, f, a, cell, v, h1, h2, h3, h4, h5, h6, h7, h8, h9, h10, h11, h12⟩ := h
  exact ⟨c, k, i, f, a, cell, v, h1, h2, h3, h4, by rw [hq a h12]; exact h5, h6, h7, h8, h9, h10, h11, h12⟩
theorem tzS.of {args : Array Value} {s : State} {n d : String} (hl : (Cond.laysStatic Bundle.tN n d).before args s = true) (hr : (Cond.isRef (.static Bundle.tN n d)).before args s = true) : tzS n d s.heap.size s s.heap := by
  obtain ⟨c, k, i, f, a, cell, hc, hi, hst, ha, hcell, hs, hcls, hlt, hty⟩ := Cond.laysStatic_spec hl
  obtain ⟨v, hv, hvr⟩ := Cond.isRef_spec hr
  obtain ⟨-, a', cell', ha', hcell', -, hslot⟩ := Term.static_spec hi hv
  cases ha.symm.trans ha'
  cases hcell.symm.trans hcell'
  exact ⟨c, k, i, f, a, cell, v, hc, hi, hst, ha, hcell, hs, hcls, hlt, hty, hslot, hvr, (Array.getElem?_eq_some_iff.mp hcell).1⟩
theorem tzS.lays {args : Array Value} {n d : String} {lo : Nat} {U : State} (h : tzS n d lo U U.heap) : (Cond.laysStatic Bundle.tN n d).before args U = true := by
  obtain ⟨c, k, i, f, a, cell, v, h1, h2, h3, h4, h5, h6, h7, h8, h9, h10⟩ := h
  exact Cond.laysStatic_of h1 h2 h3 h4 h5 h6 h7 h8 h9
theorem tzS.ref {args : Array Value} {n d : String} {lo : Nat} {U : State} (h : tzS n d lo U U.heap) : (Cond.isRef (.static Bundle.tN n d)).before args U = true := by
  obtain ⟨c, k, i, f, a, cell, v, h1, h2, h3, h4, h5, h6, h7, h8, h9, h10, h11, h12⟩ := h
  have e : (Term.static Bundle.tN n d).eval args U none [] U = some v := Term.static_eval h2 h3 h4 h5 h6 h10
  simp only [Cond.before, Cond.holds, Cond.value, e]
  cases v <;> first | rfl | (simp [Value.isRef] at h11)
/-- words of the tables that no call hands on by itself -/
def tpF : List Cond := [.declares (Bundle.initS "java/lang/RuntimeException"), .declares (Bundle.initS "java/lang/Exception"), .declares (Bundle.initS "java/lang/Throwable"), .castable xIAE xIAE]
theorem tpF_warm {w : Cond} (h : w ∈ tpF) {A : Array Value} {s U : State} (hW : s.WarmedH U.vm) (hb : w.before A s = true) : w.before #[] U = true := by
  have key : w.onTables = true ∧ w.keepsFace = true := by
    simp only [tpF, List.mem_cons, List.not_mem_nil, or_false] at h
    rcases h with rfl | rfl | rfl | rfl <;> exact ⟨rfl, rfl⟩
  have h1 : w.before A (s.setVm U.vm) = true := Cond.before_shiftedFace (State.Shifted.of_warmed hW) _ key.2 hb
  exact va_tabs (u := s.setVm U.vm) key.1 rfl h1
/-- all that the throw needs -/
def TP (lo : Nat) (U : State) (H : Heap) : Prop := (∀ w ∈ tpF, w.before #[] U = true) ∧ tzS "UNASSIGNED_STACK" Bundle.steD lo U H ∧ tzS "SUPPRESSED_SENTINEL" Bundle.listD lo U H ∧ ∃ q, vk_R "ElasticKernel" 76 "n is not 1 .. 5000" q U
theorem TP.warm {lo : Nat} {s U : State} {H : Heap} (hW : s.WarmedH U.vm) (h : TP lo s H) : TP lo U H := ⟨fun w hw => tpF_warm hw hW (h.1 w hw), h.2.1.moved hW.alike, h.2.2.1.moved hW.alike, h.2.2.2.choose, h.2.2.2.choose_spec.warm hW⟩
theorem TP.kept {lo : Nat} {U : State} {H H1 : Heap} (h : TP lo U H) (hq : ∀ q, q < lo → H1[q]? = H[q]?) : TP lo U H1 := ⟨h.1, h.2.1.kept hq, h.2.2.1.kept hq, h.2.2.2⟩
set_option maxRecDepth 100000 in
theorem q_486 : (Jvm.Cond.superclass "java/lang/Throwable" "java/lang/Object") ∈ lw_g := lw_t3 (List.mem_of_getElem? (i := 6) rfl) rfl
set_option maxRecDepth 100000 in
theorem q_497 : (Jvm.Cond.codeSync ({ cls := "java/lang/Throwable", name := "fillInStackTrace", desc := "()Ljava/lang/Throwable;" } : Jvm.MethodName) prog_17_method_18_code (1 : Nat) (Option.some (Jvm.ClassFile.FieldType.object "java/lang/Throwable"))) ∈ lw_g := lw_t3 (List.mem_of_getElem? (i := 17) rfl) rfl
set_option maxRecDepth 100000 in
theorem q_458 : (Jvm.Cond.codeWith ({ cls := "ElasticKernelLaw", name := "tick", desc := "(LElasticKernel;I[J)I" } : Jvm.MethodName) method_3_code (4 : Nat) (Option.some Jvm.ClassFile.FieldType.int) [((0 : Nat), (9 : Nat), (12 : Nat), (13 : Nat))]) ∈ lw_g := lw_t2 (List.mem_of_getElem? (i := 218) rfl) rfl
theorem tp_atoms {args : Array Value} {s : State} {lo : Nat} (hts : ∀ w ∈ lw_g, w.before args s = true) (hTP : TP lo s s.heap) : ∀ w ∈ Bundle.ownAtoms "ElasticKernel" 78 xIAE upIAE, w.before args s = true := by
  refine List.forall_mem_cons.mpr ⟨hts _ q_12, List.forall_mem_cons.mpr ⟨hts _ q_486, List.forall_mem_cons.mpr ⟨hts _ q_495, List.forall_mem_cons.mpr ⟨hts _ q_497, List.forall_mem_cons.mpr ⟨hts _ q_500, List.forall_mem_cons.mpr ⟨hts _ q_502, List.forall_mem_cons.mpr ⟨hts _ q_487, List.forall_mem_cons.mpr ⟨hts _ q_488, List.forall_mem_cons.mpr ⟨hts _ q_22, List.forall_mem_cons.mpr ⟨hts _ q_23, List.forall_mem_cons.mpr ⟨hts _ q_489, List.forall_mem_cons.mpr ⟨hts _ q_494, List.forall_mem_cons.mpr ⟨hts _ q_498, List.forall_mem_cons.mpr ⟨hts _ q_518, List.forall_mem_cons.mpr ⟨hts _ q_476, List.forall_mem_cons.mpr ⟨hts _ q_519, List.forall_mem_cons.mpr ⟨hts _ q_478, List.forall_mem_cons.mpr ⟨hts _ q_520, List.forall_mem_cons.mpr ⟨hts _ q_480, List.forall_mem_cons.mpr ⟨hts _ q_490, List.forall_mem_cons.mpr ⟨hTP.2.1.lays, List.forall_mem_cons.mpr ⟨hts _ q_492, List.forall_mem_cons.mpr ⟨hTP.2.2.1.lays, List.forall_mem_cons.mpr ⟨hts _ q_482, List.forall_mem_cons.mpr ⟨hts _ q_514, List.forall_mem_cons.mpr ⟨hts _ q_515, List.forall_mem_cons.mpr ⟨hts _ q_517, List.forall_mem_cons.mpr ⟨hts _ q_482, List.forall_mem_cons.mpr ⟨hts _ q_505, List.forall_mem_cons.mpr ⟨hts _ q_506, List.forall_mem_cons.mpr ⟨hts _ q_507, List.forall_mem_cons.mpr ⟨hts _ q_508, List.forall_mem_cons.mpr ⟨va_any rfl (hTP.1 _ (List.mem_of_getElem? (i := 0) rfl)), List.forall_mem_cons.mpr ⟨hts _ q_508, List.forall_mem_cons.mpr ⟨hts _ q_509, List.forall_mem_cons.mpr ⟨hts _ q_510, List.forall_mem_cons.mpr ⟨hts _ q_511, List.forall_mem_cons.mpr ⟨va_any rfl (hTP.1 _ (List.mem_of_getElem? (i := 1) rfl)), List.forall_mem_cons.mpr ⟨hts _ q_511, List.forall_mem_cons.mpr ⟨hts _ q_512, List.forall_mem_cons.mpr ⟨hts _ q_513, List.forall_mem_cons.mpr ⟨hts _ q_514, List.forall_mem_cons.mpr ⟨va_any rfl (hTP.1 _ (List.mem_of_getElem? (i := 2) rfl)), List.forall_mem_cons.mpr ⟨hts _ q_504, List.forall_mem_cons.mpr ⟨hts _ q_465, List.forall_mem_cons.mpr ⟨va_any rfl (hTP.1 _ (List.mem_of_getElem? (i := 3) rfl)), List.forall_mem_cons.mpr ⟨hts _ q_473, List.forall_mem_cons.mpr ⟨hts _ q_474, List.forall_mem_cons.mpr ⟨hts _ q_475, List.forall_mem_cons.mpr ⟨hts _ q_477, List.forall_mem_cons.mpr ⟨hts _ q_479, List.forall_mem_cons.mpr ⟨hts _ q_481, List.forall_mem_cons.mpr ⟨hTP.2.1.ref, List.forall_mem_cons.mpr ⟨hTP.2.2.1.ref, List.forall_mem_cons.mpr ⟨hts _ q_485, List.forall_mem_cons.mpr ⟨hts _ q_484, List.forall_mem_cons.mpr ⟨hts _ q_483, fun _ hn => absurd hn List.not_mem_nil⟩⟩⟩⟩⟩⟩⟩⟩⟩⟩⟩⟩⟩⟩⟩⟩⟩⟩⟩⟩⟩⟩⟩⟩⟩⟩⟩⟩⟩⟩⟩⟩⟩⟩⟩⟩⟩⟩⟩⟩⟩⟩⟩⟩⟩⟩⟩⟩⟩⟩⟩⟩⟩⟩⟩⟩⟩
