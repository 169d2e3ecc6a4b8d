/-! THE LAW's LOOP: both worlds, the long array, the script -/
/-- the heap: the kernel at n0 + 1 .., the reference at n0 + 106 .., the long array at n0 + 124; what lay below is as it was -/
def lwH (n0 : Nat) (D : va_G) (cf : Nat → ClassId) (cL : ClassId) (Ix Im : ek_St) (v : Int64) (s : State) (H : Heap) (locs : List Loc) : Prop :=
  ek_W (D, cf, n0) kX Ix H ∧ ek_W (D, cf, n0 + 105) kM Im H ∧ H[n0 + 124]? = some (lgC cL v) ∧ (∀ q, q < n0 + 1 → H[q]? = s.heap[q]?) ∧ ∀ q ∈ locs, n0 + 1 ≤ q.base
/-- what does not change -/
def lwC (p : Program) (s : State) (m : MethodId) (meth : Method) (c : Code) (b L : Nat) (xs : Nat → Int32) (n0 : Nat) (D : va_G) (cf : Nat → ClassId) (cL : ClassId) : Prop :=
  CallFix p m c code 7 s #[Value.ref b] lw_g "ElasticKernelLaw" ∧ meth.sig.returnType = ret ∧ meth.locks = false ∧ va_X b L xs s s.heap ∧ b < n0 + 1 ∧ L ≤ 3072 ∧ s.heap.size = n0 + 1 ∧ ek_K (D, cf, n0) s ∧ ArrOfT s cL .long ∧ TP (n0 + 1) s s.heap
theorem kX_dom {x : Nat} (h : kX x ≠ 0) : 1 ≤ x ∧ x ≤ 105 := by
  refine ⟨Nat.pos_of_ne_zero (fun e => h (by rw [e]; rfl)), Nat.not_lt.mp (fun g => h ?_)⟩
  unfold kX
  rw [if_neg (by omega), if_neg (by omega), if_neg (by omega), if_neg (by omega), if_neg (by omega), if_neg (by omega), if_neg (by omega), if_neg (by omega), if_neg (by omega)]
theorem kM_dom {x : Nat} (h : kM x ≠ 0) : 1 ≤ x ∧ x ≤ 18 := by
  refine ⟨Nat.pos_of_ne_zero (fun e => h (by rw [e]; rfl)), Nat.not_lt.mp (fun g => h ?_)⟩
  unfold kM
  rw [if_neg (by omega), if_neg (by omega), if_neg (by omega), if_neg (by omega), if_neg (by omega)]
theorem aX {D : va_G} {cf : Nat → ClassId} {n0 q : Nat} (h : ek_A (D, cf, n0) kX q) : n0 + 1 ≤ q ∧ q ≤ n0 + 105 := by
  obtain ⟨x, hx, rfl⟩ := h
  have := kX_dom hx
  show n0 + 1 ≤ n0 + x ∧ n0 + x ≤ n0 + 105
  omega
theorem aM {D : va_G} {cf : Nat → ClassId} {n0 q : Nat} (h : ek_A (D, cf, n0 + 105) kM q) : n0 + 106 ≤ q ∧ q ≤ n0 + 123 := by
  obtain ⟨x, hx, rfl⟩ := h
  have := kM_dom hx
  show n0 + 106 ≤ n0 + 105 + x ∧ n0 + 105 + x ≤ n0 + 123
  omega
theorem lwH.lt {n0 : Nat} {D : va_G} {cf : Nat → ClassId} {cL : ClassId} {Ix Im : ek_St} {v : Int64} {s : State} {H : Heap} {locs : List Loc} (h : lwH n0 D cf cL Ix Im v s H locs) : n0 + 124 < H.size := (Array.getElem?_eq_some_iff.mp h.2.2.1).1
/-- the kernel's cells have changed -/
theorem lwH.x {n0 : Nat} {D : va_G} {cf : Nat → ClassId} {cL : ClassId} {Ix Im Ix' : ek_St} {v : Int64} {s : State} {H H1 : Heap} {locs L : List Loc} (h : lwH n0 D cf cL Ix Im v s H locs) (hL : ∀ q ∈ L, ek_A (D, cf, n0) kX q.base) (w : ek_W (D, cf, n0) kX Ix' H1) (k : ∀ q, q < H.size → ¬ ek_A (D, cf, n0) kX q → H1[q]? = H[q]?) : lwH n0 D cf cL Ix' Im v s H1 (locs ++ L) := by
  have hz := h.lt
  obtain ⟨h1, h2, h3, h4, h5⟩ := h
  refine ⟨w, ek_W_kept h2 (fun x hx => k _ ?_ (fun g => ?_)), (k _ hz (fun g => ?_)).trans h3, fun q hq => (k q (by omega) (fun g => ?_)).trans (h4 q hq), fun q hq => ?_⟩
  · have := kM_dom hx
    show n0 + 105 + x < H.size
    omega
  · have := aM (D := D) (cf := cf) (n0 := n0) ⟨x, hx, rfl⟩
    have := aX g
    omega
  · have := aX g
    omega
  · have := aX g
    omega
  · rcases List.mem_append.mp hq with g | g
    · exact h5 q g
    · exact (aX (hL q g)).1
/-- the reference's cells have changed -/
theorem lwH.m {n0 : Nat} {D : va_G} {cf : Nat → ClassId} {cL : ClassId} {Ix Im Im' : ek_St} {v : Int64} {s : State} {H H1 : Heap} {locs L : List Loc} (h : lwH n0 D cf cL Ix Im v s H locs) (hL : ∀ q ∈ L, ek_A (D, cf, n0 + 105) kM q.base) (w : ek_W (D, cf, n0 + 105) kM Im' H1) (k : ∀ q, q < H.size → ¬ ek_A (D, cf, n0 + 105) kM q → H1[q]? = H[q]?) : lwH n0 D cf cL Ix Im' v s H1 (locs ++ L) := by
  have hz := h.lt
  obtain ⟨h1, h2, h3, h4, h5⟩ := h
  refine ⟨ek_W_kept h1 (fun x hx => k _ ?_ (fun g => ?_)), w, (k _ hz (fun g => ?_)).trans h3, fun q hq => (k q (by omega) (fun g => ?_)).trans (h4 q hq), fun q hq => ?_⟩
  · have := kX_dom hx
    show n0 + x < H.size
    omega
  · have := aX (D := D) (cf := cf) (n0 := n0) ⟨x, hx, rfl⟩
    have := aM g
    omega
  · have := aM g
    omega
  · have := aM g
    omega
  · rcases List.mem_append.mp hq with g | g
    · exact h5 q g
    · have := aM (hL q g)
      omega
/-- cells have come behind -/
theorem lwH.push {n0 : Nat} {D : va_G} {cf : Nat → ClassId} {cL : ClassId} {Ix Im : ek_St} {v : Int64} {s : State} {H H1 : Heap} {locs : List Loc} (h : lwH n0 D cf cL Ix Im v s H locs) (k : ∀ q, q < H.size → H1[q]? = H[q]?) : lwH n0 D cf cL Ix Im v s H1 locs := by
  have hz := h.lt
  obtain ⟨h1, h2, h3, h4, h5⟩ := h
  refine ⟨ek_W_kept h1 (fun x hx => k _ ?_), ek_W_kept h2 (fun x hx => k _ ?_), (k _ hz).trans h3, fun q hq => (k q (by omega)).trans (h4 q hq), h5⟩
  · have := kX_dom hx
    show n0 + x < H.size
    omega
  · have := kM_dom hx
    show n0 + 105 + x < H.size
    omega
/-- the five locals of the loop -/
def lwL (b n0 i : Nat) : List (Nat × Value) := [(4, .int (nI i)), (3, .ref (n0 + 124)), (2, .ref (n0 + 105 + 1)), (1, .ref (n0 + 1)), (0, .ref b)]
/-- the instructions that read script[i + k] -/
def lwD (pc : Nat) (k : Int) : Prop := decode code pc = .ok (.aload_n 0, 1) ∧ decode code (pc + 1) = .ok (.iload 4, 2) ∧ decode code (pc + 3) = .ok (.iconst k, 1) ∧ decode code (pc + 4) = .ok (.iadd, 1) ∧ decode code (pc + 5) = .ok (.iaload, 1)
section LWR
variable {p : Program} {l : Launch} {e : Env} {s : State} {m : MethodId} {below : List Frame} {meth : Method} {c : Code} {H : Heap} {locs : List Loc} {cells slots : Nat} {Q : State → Prop}
variable {pc : Nat} {ls : Array Slot} {rest st0 : List Value} {b L n0 i : Nat} {xs : Nat → Int32} {D : va_G} {cf : Nat → ClassId} {cL : ClassId} {Ix Im Ix' Im' : ek_St} {v : Int64} {r : Int32}
theorem lw_sc (Y : lwC p s m meth c b L xs n0 D cf cL) (hH : lwH n0 D cf cL Ix Im v s H locs) (hl : lv_has ls 7 (lwL b n0 i)) (k : Nat) {kz : Int} (hi : i + k < L) (hv : Int32.ofInt kz = nI k) (hd : lwD pc kz)
    (kk : W p l e room_1 s m #[Value.ref b] below meth c H locs cells slots Q (F0 m (pc + 6) ls (.int (xs (i + k)) :: rest))) : W p l e room_1 s m #[Value.ref b] below meth c H locs cells slots Q (F0 m pc ls rest) := by
  obtain ⟨⟨hx, hb, -⟩, -, -, ⟨scr, s1, s2, s3, s4, s5⟩, hbn, hL, -⟩ := Y
  obtain ⟨d1, d2, d3, d4, d5⟩ := hd
  refine lv_aload_n hx hb d1 rfl (lv_at hl 4 rfl) ?_
  refine lv_iload hx hb d2 (lv_at hl 0 rfl) ?_
  refine lv_iconst (v := nI k) hx hb d3 hv ?_
  refine lv_iadd hx hb d4 ?_
  have e1 : nI i + nI k = nI (i + k) := (Int32.ofNat_add i k).symm
  rw [e1]
  exact W.iald (v := .int (xs (i + k))) hx hb (by rw [hH.2.2.2.1 b hbn]; exact s1) s2 s3 (by rw [s4]; exact nI_in hi (by omega)) (by rw [nI_clamp (by omega)]; exact s5 _ hi) rfl rfl d5 kk
/-- the kernel is called -/
theorem lw_cx (Y : lwC p s m meth c b L xs n0 D cf cL) (hH : lwH n0 D cf cL Ix Im v s H locs) (hsz : ls.size = 7) {As : List Value} {y : MethodName} {bytes : ByteArray} {maxL index n : Nat} {ret' : Option FieldType} {rm : Room} (hM : ek_M l (D, cf, n0) kX y (.code y bytes maxL ret' :: lw_g) rm (ek_r (D, cf, n0) 1 :: As) Ix (some (.int r)) Ix') (cw : CallW room_1 s #[Value.ref b] "ElasticKernelLaw" "ElasticKernel" index y bytes maxL ret' (.code y bytes maxL ret' :: lw_g) rm 0 0 n) (hn : As.length = n) (hst : st0 = As.reverse ++ .ref (n0 + 1) :: rest) (hr4 : rest.length ≤ 4) (hdg : decode code pc = .ok (.invokevirtual index, 3)) (hcs : cells ≤ room_1.cells ∧ slots ≤ room_1.slots)
    (kk : ∀ (H1 : Heap) (locs1 : List Loc), lwH n0 D cf cL Ix' Im v s H1 locs1 → W p l e room_1 s m #[Value.ref b] below meth c H1 locs1 cells slots Q (F0 m (pc + 3) ls (.int r :: rest))) : W p l e room_1 s m #[Value.ref b] below meth c H locs cells slots Q (F0 m pc ls st0) := by
  have hrun := ek_rV (l := l) (e := e) (R := room_1) (below := below) (meth := meth) (locs := locs) (cells := cells) (slots := slots) (pc := pc) (ls := ls) (G := (D, cf, n0)) (kd := kX) (x := 1) (rest := rest) (n := n) Y.1 Y.2.2.2.2.2.2.2.1 hH.1 7 (C := "ElasticKernel") rfl (by decide) (by decide) (by decide) hM cw hn hsz (st0 := st0) (by rw [hst, ek_r_ref (by omega)]) hr4 hdg hcs
  exact ek_runL hrun (fun H1 L1 hL w1 z1 k1 => kk H1 _ (hH.x hL w1 k1))
/-- the reference is called -/
theorem lw_cm (Y : lwC p s m meth c b L xs n0 D cf cL) (hH : lwH n0 D cf cL Ix Im v s H locs) (hsz : ls.size = 7) {As : List Value} {y : MethodName} {bytes : ByteArray} {maxL index n : Nat} {ret' : Option FieldType} {rm : Room} (hM : ek_M l (D, cf, n0 + 105) kM y (.code y bytes maxL ret' :: lw_g) rm (ek_r (D, cf, n0 + 105) 1 :: As) Im (some (.int r)) Im') (cw : CallW room_1 s #[Value.ref b] "ElasticKernelLaw" "ElasticKernelModel" index y bytes maxL ret' (.code y bytes maxL ret' :: lw_g) rm 0 0 n) (hn : As.length = n) (hst : st0 = As.reverse ++ .ref (n0 + 105 + 1) :: rest) (hr4 : rest.length ≤ 4) (hdg : decode code pc = .ok (.invokevirtual index, 3)) (hcs : cells ≤ room_1.cells ∧ slots ≤ room_1.slots)
    (kk : ∀ (H1 : Heap) (locs1 : List Loc), lwH n0 D cf cL Ix Im' v s H1 locs1 → W p l e room_1 s m #[Value.ref b] below meth c H1 locs1 cells slots Q (F0 m (pc + 3) ls (.int r :: rest))) : W p l e room_1 s m #[Value.ref b] below meth c H locs cells slots Q (F0 m pc ls st0) := by
  have hK : ek_K (D, cf, n0 + 105) s := Y.2.2.2.2.2.2.2.1
  have hrun := ek_rV (l := l) (e := e) (R := room_1) (below := below) (meth := meth) (locs := locs) (cells := cells) (slots := slots) (pc := pc) (ls := ls) (G := (D, cf, n0 + 105)) (kd := kM) (x := 1) (rest := rest) (n := n) Y.1 hK hH.2.1 8 (C := "ElasticKernelModel") rfl (by decide) (by decide) (by decide) hM cw hn hsz (st0 := st0) (by rw [hst, ek_r_ref (by omega)]) hr4 hdg hcs
  exact ek_runL hrun (fun H1 L1 hL w1 z1 k1 => kk H1 _ (hH.m hL w1 k1))
end LWR
section LWS
variable {p : Program} {l : Launch} {e : Env} {R : Room} {s : State} {m : MethodId} {args : Array Value} {below : List Frame} {meth : Method} {c : Code} {H : Heap} {locs : List Loc} {cells slots : Nat}
/-- a static call of a method with an exception table -/
theorem lw_runSW {y : MethodName} {bytes cc : ByteArray} {maxL nL mc ms n index : Nat} {ret' : Option FieldType} {hh : List (Nat × Nat × Nat × Nat)} {rm : Room} {Pc : Array Value → State → Prop} {Qc : Array Value → State → Outcome → State → Prop} {free : Addr → Prop} {own : String} {As rest : List Value} {pc : Nat} {ls : Array Slot} {st0 : List Value} (S : CallFix p m c cc nL s args lw_g own) (hM : Met l y (.codeWith y bytes maxL ret' hh :: lw_g) rm Pc Qc mc ms free) (h1 : Cond.methodLink own index y ∈ lw_g) (h2 : Cond.static y ∈ lw_g) (h3 : Cond.initialized y.cls ∈ lw_g) (h4 : Cond.codeWith y bytes maxL ret' hh ∈ lw_g) (hy : y.cls ≠ "java/lang/invoke/MethodHandle" ∧ y.cls ≠ "java/lang/invoke/VarHandle") (hd : (parseMethodDescriptor y.desc).map (fun d => d.parameters.length) = some n) (hrm : rm.cells = mc ∧ rm.slots = ms) (hR : rm.frames + 1 ≤ R.frames ∧ 8 + (maxL + 11) + rm.locals ≤ R.locals) (hp : PreS s H Pc As) (hn : As.length = n) (hsize : ls.size = nL) (hst : st0 = As.reverse ++ rest) (hr4 : rest.length ≤ 4) (hdg : decode cc pc = .ok (.invokestatic index, 3)) (hf : cells + mc ≤ R.cells ∧ slots + ms ≤ R.slots) :
    va_Run p l e R s m args below meth c H locs cells slots mc ms (F0 m pc ls st0) rest (Qc As.toArray) free := by
  obtain ⟨hx, hb, hml, ho, hts⟩ := S
  have hws : ∀ w ∈ (Cond.codeWith y bytes maxL ret' hh :: lw_g), ∀ (a' : Array Value) (U : State), s.WarmedH U.vm → w.before a' U = true := by
    intro w hw a' U hW
    have hw' : w ∈ lw_g := by
      rcases List.mem_cons.mp hw with rfl | h
      · exact h4
      · exact h
    exact word_at hW (lw_gg hw') (hts w hw')
  have hK : Back l R p e below s args y 3 8 (PreOf R mc ms Pc) (PostOf Qc mc ms free) := va_backW (hh := hh) (bytes := bytes) (maxL := maxL) (ret := ret') hM hp.1 hrm.1 hrm.2 hR.1 hR.2 hws List.mem_cons_self (fun a' U hW => word_at hW (lw_gg h3) (hts _ h3))
  intro T hT X
  obtain ⟨mk, methM, cM, hnamed, hmethM, -, -, -, -, -, -, hsigM⟩ := Cond.codeWith_spec (hts _ h4)
  have hstatic : methM.isStatic = true := Cond.static_spec hnamed hmethM (hts _ h2)
  obtain ⟨kP, hkP, -⟩ := className_of_methodNamed hnamed
  have hinitP : kP.init = .initialized := Cond.initialized_spec (findClass_of_methodNamed hnamed) hkP (hts _ h3)
  have hlen : As.length = methM.sig.parameters.length := by
    rw [hsigM] at hd
    rw [hn]
    exact (Option.some.inj hd).symm
  have hdg' : decode c.code pc = .ok (.invokestatic index, 3) := by rw [hb]; exact hdg
  obtain ⟨vm₁, X₁, hstep₁⟩ := X.invokestatic hx ho (hts _ h1) hnamed hmethM hstatic hkP hinitP hy (g := F0 m pc ls st0) rfl (argsL := As) (rest := rest) hlen hst hdg'
  obtain ⟨v, ⟨U', l2, c2, s2⟩, X', ⟨g', mk', t, L, e1, e2, hq, q1, hL, q2, q3⟩, hsteps⟩ := hK m meth c ⟨T.setVm vm₁, locs, cells, slots⟩ (F0 m pc ls rest) (.invokestatic index) mk As.toArray X₁ rfl (hsize.trans hml.symm) hdg' (lv_room (ek_rest hr4)) (X₁.named hnamed) ⟨hf.1, hf.2, hp.2 (T.setVm vm₁) hT X₁.warmed⟩
  dsimp only [Pt.U, Pt.locs, Pt.cells, Pt.slots] at X' e1 e2 q1 q2 q3 hsteps
  subst q1; subst q2; subst q3
  exact ⟨v, (T.setVm vm₁).calling g' mk' As.toArray, t, U', L, hT, X', hL, e1, e2, hq, fun target h => hstep₁ _ fun acts => by rw [doInvoke_state]; exact hsteps.trans h⟩
end LWS
