/-- an object under construction, its parts behind it -/
def ek_CS (G : ek_G) (kd : Nat → Nat) (I : ek_St) (kx x0 x1 : Nat) (V : Nat → Value) (H H0 : Heap) : Prop := H.size = G.2.2 + x1 ∧ ek_ob G kx x0 V H ∧ ek_C G kd I (x0 + 1) x1 H ∧ ∀ q, q < G.2.2 + x0 → H[q]? = H0[q]?
def ek_Y (p : Program) (s : State) (m : MethodId) (meth : Method) (c : Code) (args : Array Value) (G : ek_G) (cc : ByteArray) (nL : Nat) (own : String) : Prop :=
  CallFix p m c cc nL s args lw_g own ∧ meth.sig.returnType = none ∧ meth.locks = false ∧ meth.name = "<init>" ∧ ek_K G s ∧ va_AO ek_TaskC s
theorem ek_cbody {l : Launch} {G : ek_G} {kd : Nat → Nat} {I : ek_St} {y : MethodName} {rm : Room} {cc : ByteArray} {maxL kx x n mc ms : Nat} (hy : plainName y.cls = true) (hn : y.name = "<init>") (hlen : 1 ≤ maxL)
    (h : ∀ (p : Program) (e : Env) (s : State) (m : MethodId) (below : List Frame) (meth : Method) (c : Code) (ls : Array Slot), ek_Y p s m meth c #[Value.ref (G.2.2 + x)] G cc maxL y.cls → ek_CS G kd I kx x (x + 1) (ek_D kx) s.heap s.heap → lv_has ls maxL [(0, .ref (G.2.2 + x))] → W p l e rm s m #[Value.ref (G.2.2 + x)] below meth c s.heap [] 0 0 (MQ below (ek_CQ G kd I x n) #[Value.ref (G.2.2 + x)] s mc ms (fun q => G.2.2 + x ≤ q)) (F0 m 0 ls [])) : ek_CM l G kd I y (.code y cc maxL none :: lw_g) rm kx x n mc ms := by
  refine Met.ofW (cc := cc) (maxL := maxL) (ret := none) hy rfl ?_
  intro p e s m args below meth c s₁ B hml hv
  obtain ⟨rfl, hsz, hob, hK, hov⟩ := hv
  rw [lg_entry_eq]
  have hl := lv_entry [Value.ref (G.2.2 + x)] (n := maxL) (show ([Slot.val (Value.ref (G.2.2 + x))] : List Slot).length ≤ maxL from hlen)
  exact h p e s m below meth c _ ⟨⟨B.exec, B.bytes, hml, findClass_of_methodNamed B.named, fun w hw => atoms_spec (ws := .code y cc maxL none :: lw_g) B.pre w (List.mem_cons_of_mem _ hw)⟩, B.returns, B.notSynchronized, (name_of_methodNamed B.named B.method).1.trans hn, hK, hov⟩ ⟨hsz, hob, ek_C.nil, fun _ _ => rfl⟩ hl
section EKS
variable {p : Program} {l : Launch} {e : Env} {R : Room} {s : State} {m : MethodId} {args : Array Value} {below : List Frame} {meth : Method} {c : Code} {H H0 : Heap} {locs : List Loc} {cells slots : Nat} {Q : State → Prop}
variable {cc : ByteArray} {pc nL : Nat} {own : String} {ls : Array Slot} {G : ek_G} {kd : Nat → Nat} {I : ek_St} {x0 x1 kx : Nat} {V : Nat → Value}
/-- Object's constructor, first of all -/
theorem ek_obj (Y : ek_Y p s m meth c args G cc nL own) {a : Nat} (h0 : ls[0]? = some (.val (.ref a))) (hsize : ls.size = nL) {idx : Nat} (hl : Cond.methodLink own idx Lib.objectInit ∈ lw_g) (d0 : decode cc 0 = .ok (.aload_n 0, 1)) (d1 : decode cc 1 = .ok (.invokespecial idx, 3)) (hR : 1 ≤ R.frames ∧ 12 ≤ R.locals)
    (kk : W p l e R s m args below meth c H locs cells slots Q (F0 m 4 ls [])) : W p l e R s m args below meth c H locs cells slots Q (F0 m 0 ls []) := by
  obtain ⟨⟨hx, hb, hml, hown, hts⟩, -⟩ := Y
  refine lv_aload_n hx hb d0 rfl h0 ?_
  exact W.objInit hx hb hown (hts _ hl) (hts _ q_22) (hts _ q_23) (g := F0 m 1 ls [.ref a]) rfl (hsize.trans hml.symm) rfl d1 hR.1 (by simpa [JFrame.monitorRoom] using hR.2) kk
/-- a part is made, and laid into a field -/
theorem ek_sub (Y : ek_Y p s m meth c args G cc nL own) (h0 : ls[0]? = some (.val (.ref (G.2.2 + x0)))) (hsize : ls.size = nL) (hx01 : x0 < x1) (hCS : ek_CS G kd I kx x0 x1 V H H0) (hlocs : ∀ q ∈ locs, G.2.2 + x0 ≤ q.base)
    {C C1 : String} {T T1 : u_T} {N N1 kx1 i1 i2 i3 : Nat} (hinT : ∀ w ∈ u_ws C T N, w ∈ lw_g) (ty : Nat → FieldType) (hty : ∀ k, k < N → parseFieldDescriptor (T k).2.2.1 = some (ty k)) (hnm : ∀ a, a < N → ∀ b, b < N → a ≠ b → (T a).2.1 ≠ (T b).2.1) (hc : vwCl[kx - 1]? = some (C, T, N))
    (hinT1 : ∀ w ∈ u_ws C1 T1 N1, w ∈ lw_g) (ty1 : Nat → FieldType) (hty1 : ∀ k, k < N1 → parseFieldDescriptor (T1 k).2.2.1 = some (ty1 k)) (hc1 : vwCl[kx1 - 1]? = some (C1, T1, N1)) (hdf : ∀ j, j < N1 → defaultValue (ty1 j) = ek_D kx1 j)
    (hcl : Cond.classLink own i1 C1 ∈ lw_g) (hinst : Cond.instantiable C1 N1 ∈ lw_g) (hini : Cond.initialized C1 ∈ lw_g)
    {y : MethodName} {bytes : ByteArray} {maxL n mc ms : Nat} {rm : Room} (hM : ek_CM l G kd I y (.code y bytes maxL none :: lw_g) rm kx1 x1 n mc ms) (hml : Cond.methodLink own i2 y ∈ lw_g) (hin : Cond.instanceMethod y ∈ lw_g) (hini2 : Cond.initialized y.cls ∈ lw_g) (hcode : Cond.code y bytes maxL none ∈ lw_g) (hy : y.name = "<init>") (hd : y.cls ≠ "java/lang/invoke/MethodHandle" ∧ y.cls ≠ "java/lang/invoke/VarHandle" ∧ (parseMethodDescriptor y.desc).map (fun d => d.parameters.length) = some 0) (hrm : rm.cells = mc ∧ rm.slots = ms) (hR : rm.frames + 1 ≤ R.frames ∧ 8 + (maxL + 11) + rm.locals ≤ R.locals)
    (hf : cells + 1 + mc ≤ R.cells ∧ slots + N1 + ms ≤ R.slots) (k : Nat) (hk : k < N) (hlink : Cond.fieldLink own i3 (T k).1 (T k).2.1 (T k).2.2.1 ∈ lw_g) (hfin : (T k).2.2.2 = true) (hdecl : (T k).1 = own) (hnr : ∀ a, narrow (ty k) (.ref a) = .ref a ∧ fits (ty k) (.ref a) = true)
    (d0 : decode cc pc = .ok (.aload_n 0, 1)) (d1 : decode cc (pc + 1) = .ok (.new i1, 3)) (d4 : decode cc (pc + 1 + 3) = .ok (.dup, 1)) (d5 : decode cc (pc + 1 + 3 + 1) = .ok (.invokespecial i2, 3)) (d8 : decode cc (pc + 1 + 3 + 1 + 3) = .ok (.putfield i3, 3))
    (kk : ∀ (H1 : Heap) (locs1 : List Loc), (∀ q ∈ locs1, G.2.2 + x0 ≤ q.base) → ek_CS G kd I kx x0 (x1 + n) (updV V k (.ref (G.2.2 + x1))) H1 H0 → W p l e R s m args below meth c H1 locs1 (cells + 1 + mc) (slots + N1 + ms) Q (F0 m (pc + 1 + 3 + 1 + 3 + 3) ls [])) : W p l e R s m args below meth c H locs cells slots Q (F0 m pc ls []) := by
  obtain ⟨hS, hr, hlk, hnm0, hK, hov⟩ := id Y
  obtain ⟨hx, hb, hmlx, hown, hts⟩ := id hS
  obtain ⟨s1, s2, s3, s4⟩ := hCS
  refine lv_aload_n hx hb d0 rfl h0 ?_
  refine ek_new hx hb hts kx1 hinT1 ty1 hty1 hown hcl hinst hini hK hc1 hdf s1 (by omega) (by omega) d1 (fun H1 z1 o1 k1 => ?_)
  refine lv_dup hx hb d4 rfl ?_
  refine ek_ctor (lo := G.2.2 + x0) hS hK hov hM z1 o1 hml hin hini2 hcode hy hd hrm hR hsize (by simp) hf d5 (by omega) hlocs (fun H2 locs2 l2 z2 c2 k2 => ?_)
  refine ek_putF hx hb hts kx hinT ty hty hnm hown hK (V := V) ((s2.kept (k1 _ (by omega))).kept (k2 _ (by omega))) hc k hk hlink hfin hnm0 hdecl (hnr _).1 (hnr _).2 d8 (fun H3 locs3 l3 o3 z3 k3 => ?_)
  refine kk H3 locs3 (fun q hq => ?_) ⟨by omega, o3, ?_, fun q hq => ?_⟩
  · rw [l3] at hq
    rcases List.mem_append.mp hq with h | h
    · exact l2 q h
    · rw [List.mem_singleton.mp h]
      exact Nat.le_refl _
  · refine ek_C.app (mi := x1) ?_ ?_
    · exact s3.kept (fun q h1 h2 => by rw [k3 q (by omega), k2 q (by omega), k1 q (by omega)])
    · exact c2.kept (fun q h1 h2 => k3 q (by omega))
  · rw [k3 q (by omega), k2 q (by omega), k1 q (by omega)]
    exact s4 q hq
/-- the end -/
theorem ek_cend {a : Nat} {n : Nat} (Y : ek_Y p s m meth c #[Value.ref a] G cc nL own) (hCS : ek_CS G kd I kx x0 (x0 + n) V H s.heap) (hn : 0 < n) (hkd : kd x0 = kx) (h20 : kx < 20) {r0 : vw_C} (hc : vwCl[kx - 1]? = some r0) (hV : ∀ k, k < r0.2.2 → V k = ek_V G kx x0 (I x0) k) (hlocs : ∀ q ∈ locs, G.2.2 + x0 ≤ q.base) (hdg : decode cc pc = .ok (.return_, 1)) : W p l e R s m #[Value.ref a] below meth c H locs cells slots (MQ below (ek_CQ G kd I x0 n) #[Value.ref a] s cells slots (fun q => G.2.2 + x0 ≤ q)) (F0 m pc ls []) := by
  obtain ⟨⟨hx, hb, hmlx, hown, hts⟩, hr, hlk, hnm0, hK, hov⟩ := Y
  obtain ⟨s1, s2, s3, s4⟩ := hCS
  refine W.vret hx hb hr (fun t ht _ => ⟨rfl, by rw [ht]; exact s1, ?_, fun q hq => by rw [ht]; exact s4 q hq⟩) hlocs hdg hlk
  rw [ht]
  refine ek_C.app (mi := x0 + 1) (ek_C.one ?_) s3
  rw [hkd]
  exact (s2.to hc hV).at h20
end EKS
/-! Natural, Fraction, Task, Divider, Springs -/
def y_Na_i : MethodName := ⟨"ElasticKernel$Natural", "<init>", "()V"⟩
def y_Fr_i : MethodName := ⟨"ElasticKernel$Fraction", "<init>", "()V"⟩
def y_Ta_i : MethodName := ⟨"ElasticKernel$Task", "<init>", "()V"⟩
def y_Ro_i : MethodName := ⟨"ElasticKernel$Roster", "<init>", "()V"⟩
def y_Dv_i : MethodName := ⟨"ElasticKernel$Divider", "<init>", "()V"⟩
def y_Sp_i : MethodName := ⟨"ElasticKernel$Springs", "<init>", "()V"⟩
def y_Ke_i : MethodName := ⟨"ElasticKernel", "<init>", "()V"⟩
def y_Mo_i : MethodName := ⟨"ElasticKernelModel", "<init>", "()V"⟩
abbrev rm_Na : Room := { frames := 1, cells := 1, slots := 16, locals := 12 }
theorem dNai0 : decode prog_4_method_1_code 0 = .ok (.aload_n 0, 1) := by decide +kernel
theorem dNai1 : decode prog_4_method_1_code 1 = .ok (.invokespecial 3, 3) := by decide +kernel
theorem dNai4 : decode prog_4_method_1_code 4 = .ok (.aload_n 0, 1) := by decide +kernel
theorem dNai5 : decode prog_4_method_1_code 5 = .ok (.bipush 16, 2) := by decide +kernel
theorem dNai7 : decode prog_4_method_1_code 7 = .ok (.newarray .int, 2) := by decide +kernel
theorem dNai9 : decode prog_4_method_1_code 9 = .ok (.putfield 9, 3) := by decide +kernel
theorem dNai12 : decode prog_4_method_1_code 12 = .ok (.return_, 1) := by decide +kernel
theorem c_Na {l : Launch} {G : ek_G} {kd : Nat → Nat} {I : ek_St} {x : Nat} (h1 : kd x = 3) (h2 : kd (x + 1) = 116) (i1 : I (x + 1) = fun _ => 0) : ek_CM l G kd I y_Na_i (.code y_Na_i prog_4_method_1_code 1 none :: lw_g) rm_Na 3 x 2 1 16 := by
  refine ek_cbody (by decide) rfl (by decide) (fun p e s m below meth c ls Y hCS hl => ?_)
  obtain ⟨⟨hx, hb, hmlx, hown, hts⟩, hr, hlk, hnm0, hK, hov⟩ := id Y
  refine ek_obj Y (lv_at hl 0 rfl) hl.1 q_48 dNai0 dNai1 (by decide) ?_
  refine lv_aload_n hx hb dNai4 rfl (lv_at hl 0 rfl) ?_
  refine lv_bipush (v := 16) hx hb dNai5 (by decide) ?_
  obtain ⟨s1, s2, s3, s4⟩ := hCS
  refine ek_newi (N := 16) hx hb hts hK (by decide) (by decide) (by decide) s1 (by decide) (by decide) dNai7 (fun H1 z1 a1 k1 => ?_)
  refine ek_putF hx hb hts 3 in_Na ty_Na ty_Na_ok nm_Na hown hK (V := ek_D 3) (s2.kept (k1 _ (by omega))) rfl 0 (by decide) q_49 rfl hnm0 rfl rfl rfl dNai9 (fun H2 locs2 l2 o2 z2 k2 => ?_)
  refine ek_cend (n := 2) (kx := 3) Y ⟨by omega, o2, ?_, fun q hq => by rw [k2 q (by omega), k1 q (by omega)]⟩ (by decide) h1 (by decide) rfl (fun k hk => ?_) (fun q hq => by rw [l2] at hq; rw [List.mem_singleton.mp hq]; exact Nat.le_refl _) dNai12
  · refine ek_C.one ?_
    rw [h2, i1]
    exact ek_at_kept a1 (k2 _ (by omega))
  · have : k = 0 := by have hk : k < 1 := hk; omega
    subst this
    rfl
/-- the words of 1 -/
def oneF (j : Nat) : Int32 := if j = 0 then 1 else 0
abbrev rm_Fr : Room := { frames := 2, cells := 4, slots := 34, locals := 32 }
theorem s_set1 {kd : Nat → Nat} {I : ek_St} {x : Nat} (h1 : kd x = 3) (h2 : kd (x + 1) = 116) (i1 : I (x + 1) = fun _ => 0) : ∃ I', fNa_set kd I x 1 = some I' ∧ I' (x + 1) = oneF ∧ ∀ z, z ≠ x + 1 → I' z = I z := by
  obtain ⟨I', e, hH, hF⟩ := s_set (kd := kd) (I := I) (x := x) (f := 1) ⟨h1, h2⟩ (by decide)
  refine ⟨I', e, ?_, fun z hz => hF.ne hz⟩
  funext j
  by_cases hj : j < 16
  · have := hH.2 j hj
    rw [Nat.zero_add] at this
    rw [this]
    unfold oneF
    by_cases q : j = 0
    · subst q; rfl
    · rw [if_neg q]
      have : dg 1 j = 0 := dg_big (n := 1) (by decide) (by omega)
      rw [this]
      rfl
  · rw [hF (x + 1) j (by omega), i1]
    unfold oneF
    rw [if_neg (by omega)]
theorem dFri0 : decode prog_3_method_1_code 0 = .ok (.aload_n 0, 1) := by decide +kernel
theorem dFri1 : decode prog_3_method_1_code 1 = .ok (.invokespecial 1, 3) := by decide +kernel
theorem dFri4 : decode prog_3_method_1_code 4 = .ok (.aload_n 0, 1) := by decide +kernel
theorem dFri5 : decode prog_3_method_1_code 5 = .ok (.new 7, 3) := by decide +kernel
theorem dFri8 : decode prog_3_method_1_code 8 = .ok (.dup, 1) := by decide +kernel
theorem dFri9 : decode prog_3_method_1_code 9 = .ok (.invokespecial 9, 3) := by decide +kernel
theorem dFri12 : decode prog_3_method_1_code 12 = .ok (.putfield 10, 3) := by decide +kernel
theorem dFri15 : decode prog_3_method_1_code 15 = .ok (.aload_n 0, 1) := by decide +kernel
theorem dFri16 : decode prog_3_method_1_code 16 = .ok (.new 7, 3) := by decide +kernel
theorem dFri19 : decode prog_3_method_1_code 19 = .ok (.dup, 1) := by decide +kernel
theorem dFri20 : decode prog_3_method_1_code 20 = .ok (.invokespecial 9, 3) := by decide +kernel
theorem dFri23 : decode prog_3_method_1_code 23 = .ok (.putfield 16, 3) := by decide +kernel
theorem dFri26 : decode prog_3_method_1_code 26 = .ok (.aload_n 0, 1) := by decide +kernel
theorem dFri27 : decode prog_3_method_1_code 27 = .ok (.getfield 16, 3) := by decide +kernel
theorem dFri30 : decode prog_3_method_1_code 30 = .ok (.iconst 1, 1) := by decide +kernel
theorem dFri31 : decode prog_3_method_1_code 31 = .ok (.invokevirtual 19, 3) := by decide +kernel
theorem dFri34 : decode prog_3_method_1_code 34 = .ok (.return_, 1) := by decide +kernel
section EKR
variable {p : Program} {l : Launch} {e : Env} {R : Room} {s : State} {m : MethodId} {args : Array Value} {below : List Frame} {meth : Method} {c : Code} {H : Heap} {locs : List Loc} {cells slots : Nat} {Q : State → Prop}
variable {pc : Nat} {ls : Array Slot} {rest st0 : List Value} {G : ek_G} {kd : Nat → Nat} {I' : ek_St} {rv : Option Value} {a : Array Value} {x kx : Nat} {V : Nat → Value}
/-- a call that makes nothing, while cells are being made -/
theorem ek_runX (hr : va_Run p l e R s m args below meth c H locs cells slots 0 0 (F0 m pc ls st0) rest (ek_Q G kd rv I' a) (ek_A G kd)) (hcs : s.heap.size + cells ≤ H.size) {lo : Nat} (hlocs : ∀ q ∈ locs, lo ≤ q.base) (hA : ∀ q, ek_A G kd q → lo ≤ q)
    (kk : ∀ (H1 : Heap) (locs1 : List Loc), (∀ q ∈ locs1, lo ≤ q.base) → ek_W G kd I' H1 → H1.size = H.size → (∀ q, q < H.size → ¬ ek_A G kd q → H1[q]? = H[q]?) → W p l e R s m args below meth c H1 locs1 cells slots Q (F0 m (pc + 3) ls (rv.toList ++ rest))) : W p l e R s m args below meth c H locs cells slots Q (F0 m pc ls st0) := by
  intro T hT X
  obtain ⟨v, st₀, t, T', L, h0, X', hL, e1, e2, ⟨hv, hw, hz, hk⟩, st⟩ := hr T hT X
  cases hv
  rw [h0] at hz hk
  have hle : T'.heap.size ≤ s.heap.size + (cells + 0) := X'.heapSize
  obtain ⟨t2, a1, b1⟩ := kk T'.heap (locs ++ L) (fun q hq => by
      rcases List.mem_append.mp hq with h | h
      · exact hlocs q h
      · exact hA _ (hL q h)) (by rw [e1]; exact hw) (by rw [← e1] at hz; omega) (fun q h1 h2 => by rw [e1]; exact hk q h1 h2) T' rfl X'
  exact ⟨t2, st t2 a1, b1⟩
theorem ek_getO {cc : ByteArray} (hexec : p.tables.exec = Jvm.exec) (hb : c.code = cc) (hts : ∀ w ∈ lw_g, w.before args s = true) {own C : String} {T : u_T} {N index : Nat} (hin : ∀ w ∈ u_ws C T N, w ∈ lw_g) (hown : s.vm.findClass own = some m.cls) (hK : ek_K G s) (hV : ek_ob G kx x V H) (hc : vwCl[kx - 1]? = some (C, T, N)) (k : Nat) (hk : k < N) (hlink : Cond.fieldLink own index (T k).1 (T k).2.1 (T k).2.2.1 ∈ lw_g) (hdg : decode cc pc = .ok (.getfield index, 3))
    (kk : W p l e R s m args below meth c H locs cells slots Q (F0 m (pc + 3) ls (V k :: rest))) : W p l e R s m args below meth c H locs cells slots Q (F0 m pc ls (.ref (G.2.2 + x) :: rest)) := by
  obtain ⟨r, h1, cell, q1, q2, q3, q4⟩ := hV
  have hr : r = (C, T, N) := Option.some.inj (h1.symm.trans hc)
  subst hr
  obtain ⟨hS, hfc, kC, hkC, hkind⟩ := hK.1.1 (kx - 1) _ hc
  obtain ⟨cf, kf, fi, f, hi, hsl⟩ := hS k hk
  refine W.getf hexec hb hown (hts _ hlink) hi (u_facts hfc hkC (u_lays hts hin hk) hi).1 q1 (by rw [q3]; exact fun h => by cases h) (v := V k) ?_ rfl rfl hdg kk
  rw [hsl]
  exact q4 k hk
end EKR
def kF (x z : Nat) : Nat := if z = x + 3 then 3 else if z = x + 4 then 116 else 0
set_option maxHeartbeats 4000000 in
theorem c_Fr {l : Launch} {G : ek_G} {kd : Nat → Nat} {I : ek_St} {x : Nat} (h0 : kd x = 2) (h1 : kd (x + 1) = 3) (h2 : kd (x + 2) = 116) (h3 : kd (x + 3) = 3) (h4 : kd (x + 4) = 116) (i2 : I (x + 2) = fun _ => 0) (i4 : I (x + 4) = oneF) : ek_CM l G kd I y_Fr_i (.code y_Fr_i prog_3_method_1_code 1 none :: lw_g) rm_Fr 2 x 5 4 34 := by
  refine ek_cbody (by decide) rfl (by decide) (fun p e s m below meth c ls Y hCS hl => ?_)
  obtain ⟨⟨hx, hb, hmlx, hown, hts⟩, hr, hlk, hnm0, hK, hov⟩ := id Y
  have hsz := hCS.1
  generalize hI' : (fun z => if z = x + 4 then (fun _ => (0 : Int32)) else I z : ek_St) = I'
  have hI4 : I' (x + 4) = fun _ => 0 := by rw [← hI']; exact if_pos rfl
  have hIn : ∀ z, z ≠ x + 4 → I' z = I z := fun z hz => by rw [← hI']; exact if_neg hz
  have hCS : ek_CS G kd I' 2 x (x + 1) (ek_D 2) s.heap s.heap := ⟨hCS.1, hCS.2.1, ek_C.nil, hCS.2.2.2⟩
  have hlo : ∀ q ∈ ([] : List Loc), G.2.2 + x ≤ q.base := fun q hq => by cases hq
  refine ek_obj Y (lv_at hl 0 rfl) hl.1 q_42 dFri0 dFri1 (by decide) ?_
  refine ek_sub (x1 := x + 1) Y (lv_at hl 0 rfl) hl.1 (by omega) hCS hlo in_Fr ty_Fr ty_Fr_ok nm_Fr rfl in_Na ty_Na ty_Na_ok rfl (by decide +kernel) q_43 q_44 q_5 (c_Na (x := x + 1) h1 h2 (by rw [hIn _ (by omega)]; exact i2)) q_45 q_46 q_5 q_47 rfl (by decide +kernel) ⟨rfl, rfl⟩ (by decide) (by decide) 0 (by decide) q_59 rfl rfl (fun _ => ⟨rfl, rfl⟩) dFri4 dFri5 dFri8 dFri9 dFri12 (fun H locs hlo hCS => ?_)
  refine ek_sub (x1 := x + 1 + 2) Y (lv_at hl 0 rfl) hl.1 (by omega) hCS hlo in_Fr ty_Fr ty_Fr_ok nm_Fr rfl in_Na ty_Na ty_Na_ok rfl (by decide +kernel) q_43 q_44 q_5 (c_Na (x := x + 1 + 2) h3 h4 hI4) q_45 q_46 q_5 q_47 rfl (by decide +kernel) ⟨rfl, rfl⟩ (by decide) (by decide) 1 (by decide) q_63 rfl rfl (fun _ => ⟨rfl, rfl⟩) dFri15 dFri16 dFri19 dFri20 dFri23 (fun H locs hlo hCS => ?_)
  obtain ⟨s1, s2, s3, s4⟩ := hCS
  refine lv_aload_n hx hb dFri26 rfl (lv_at hl 0 rfl) ?_
  refine ek_getO hx hb hts in_Fr hown hK s2 rfl 1 (by decide) q_63 dFri27 ?_
  refine lv_iconst (v := 1) hx hb dFri30 (by decide) ?_
  -- the small world of the part below
  have k3 : kF x (x + 3) = 3 := if_pos rfl
  have k4 : kF x (x + 3 + 1) = 116 := by unfold kF; rw [if_neg (by omega), if_pos rfl]
  obtain ⟨I2, e2, w2, z2⟩ := s_set1 (kd := kF x) (I := I') (x := x + 3) k3 k4 hI4
  have hw : ek_W G (kF x) I' H := by
    refine ⟨by unfold kF; rw [if_neg (by omega), if_neg (by omega)], fun z hz => ?_⟩
    have hz2 : z = x + 3 ∨ z = x + 4 := by
      unfold kF at hz
      by_cases a : z = x + 3
      · exact Or.inl a
      · rw [if_neg a] at hz
        by_cases b : z = x + 4
        · exact Or.inr b
        · rw [if_neg b] at hz
          exact absurd rfl hz
    rcases hz2 with rfl | rfl
    · have := s3 (x + 3) (by omega) (by omega)
      rw [h3] at this
      rw [k3]
      exact this
    · have := s3 (x + 4) (by omega) (by omega)
      rw [h4] at this
      have k4' : kF x (x + 4) = 116 := k4
      rw [k4']
      exact this
  have hA : ∀ q, ek_A G (kF x) q → G.2.2 + x ≤ q := by
    rintro q ⟨z, hz, rfl⟩
    unfold kF at hz
    by_cases a : z = x + 3
    · omega
    · rw [if_neg a] at hz
      by_cases b : z = x + 4
      · omega
      · rw [if_neg b] at hz
        exact absurd rfl hz
  have hrun := ek_rV (e := e) (below := below) (meth := meth) (locs := locs) (cells := 0 + 1 + 1 + 1 + 1) (slots := 0 + 1 + 16 + 1 + 16) (R := rm_Fr) (pc := 31) (ls := ls) (G := G) (kd := kF x) (x := x + 3) (rest := []) (n := 1) ⟨hx, hb, hmlx, hown, hts⟩ hK hw 3 (C := "ElasticKernel$Natural") rfl (by decide) (by decide) k3 (mNa_set (l := l) (G := G) e2) (cwV 1 hts (lw_V q_54 q_55 q_56 q_5 q_57) rfl rfl rfl (by decide +kernel) (by decide)) rfl hl.1 (st0 := [.int 1, .ref (G.2.2 + (x + 1 + 2))]) (by rw [ek_r_ref (by omega)]; rfl) (by decide) dFri31 (by decide)
  show W p l e rm_Fr s m _ below meth c H locs _ _ _ (F0 m 31 ls [.int 1, .ref (G.2.2 + (x + 1 + 2))])
  refine ek_runX (lo := G.2.2 + x) hrun (by rw [hsz, s1]; omega) hlo hA (fun H1 locs1 l1 w1 z1 k1 => ?_)
  have nA : ∀ z, z < x + 3 → ¬ ek_A G (kF x) (G.2.2 + z) := by
    rintro z hz ⟨y, hy, hq⟩
    have : y = z := by omega
    subst this
    unfold kF at hy
    rw [if_neg (by omega), if_neg (by omega)] at hy
    exact hy rfl
  refine ek_cend (n := 5) (kx := 2) Y ⟨by rw [z1, s1], s2.kept (k1 _ (by omega) (nA x (by omega))), ?_, fun q hq => ?_⟩ (by decide) h0 (by decide) rfl (fun k hk => ?_) l1 dFri34
  · intro z hz1 hz2
    by_cases a : z < x + 3
    · have := s3 z hz1 (by omega)
      rw [hIn z (by omega)] at this
      exact ek_at_kept this (k1 _ (by omega) (nA z a))
    · by_cases b : z = x + 3
      · subst b
        have := w1.2 (x + 3) (by rw [k3]; decide)
        rw [k3, z2 _ (by omega), hIn _ (by omega)] at this
        rw [h3]
        exact this
      · have b2 : z = x + 3 + 1 := by omega
        subst b2
        have := w1.2 (x + 3 + 1) (by rw [k4]; decide)
        rw [k4, w2] at this
        have h4' : kd (x + 3 + 1) = 116 := h4
        have i4' : I (x + 3 + 1) = oneF := i4
        rw [h4', i4']
        exact this
  · rw [k1 q (by omega) (by rintro ⟨y, hy, hq'⟩; have := hA q ⟨y, hy, hq'⟩; omega)]
    exact s4 q hq
  · have hk : k < 2 := hk
    match k, hk with
    | 0, _ => rfl
    | 1, _ => rfl
    | j + 2, h => exact absurd h (by omega)
