/-! CONSTRUCTORS: cells are made one behind the other -/
/-- an object by the values of its fields -/
def ek_ob (G : ek_G) (kx x : Nat) (V : Nat → Value) (H : Heap) : Prop := ∃ r : vw_C, vwCl[kx - 1]? = some r ∧ t_OB (G.2.2 + x) (G.1.1 (kx - 1)) r.2.2 (G.1.2 (kx - 1)) H V
/-- what a new object's fields hold -/
def ek_D (kx k : Nat) : Value := if ek_ro kx k = 0 then .int 0 else .null
theorem ek_ob.kept {G : ek_G} {kx x : Nat} {V : Nat → Value} {H H1 : Heap} (h : ek_ob G kx x V H) (e : H1[G.2.2 + x]? = H[G.2.2 + x]?) : ek_ob G kx x V H1 := by
  obtain ⟨r, a, b⟩ := h
  exact ⟨r, a, b.kept e⟩
theorem ek_ob.to {G : ek_G} {kx x : Nat} {V V' : Nat → Value} {H : Heap} {r0 : vw_C} (h : ek_ob G kx x V H) (hc : vwCl[kx - 1]? = some r0) (e : ∀ k, k < r0.2.2 → V k = V' k) : ek_ob G kx x V' H := by
  obtain ⟨r, a, b⟩ := h
  have hr : r = r0 := Option.some.inj (a.symm.trans hc)
  subst hr
  exact ⟨r, a, b.to e⟩
theorem ek_ob.at {G : ek_G} {kx x : Nat} {f : Nat → Int32} {H : Heap} (h : ek_ob G kx x (ek_V G kx x f) H) (h1 : kx < 20) : ek_at G kx x f H := by
  obtain ⟨r, a, b⟩ := h
  exact ek_at_obj h1 a b
/-- the cells from lo to hi -/
def ek_C (G : ek_G) (kd : Nat → Nat) (I : ek_St) (lo hi : Nat) (H : Heap) : Prop := ∀ x, lo ≤ x → x < hi → ek_at G (kd x) x (I x) H
theorem ek_C.kept {G : ek_G} {kd : Nat → Nat} {I : ek_St} {lo hi : Nat} {H H1 : Heap} (h : ek_C G kd I lo hi H) (e : ∀ q, G.2.2 + lo ≤ q → q < G.2.2 + hi → H1[q]? = H[q]?) : ek_C G kd I lo hi H1 := fun x h1 h2 => ek_at_kept (h x h1 h2) (e _ (by omega) (by omega))
theorem ek_C.nil {G : ek_G} {kd : Nat → Nat} {I : ek_St} {lo : Nat} {H : Heap} : ek_C G kd I lo lo H := fun x h1 h2 => absurd h2 (by omega)
theorem ek_C.app {G : ek_G} {kd : Nat → Nat} {I : ek_St} {lo mi hi : Nat} {H : Heap} (h : ek_C G kd I lo mi H) (h2 : ek_C G kd I mi hi H) : ek_C G kd I lo hi H := fun x a b => by
  rcases Nat.lt_or_ge x mi with q | q
  · exact h x a q
  · exact h2 x q b
theorem ek_C.one {G : ek_G} {kd : Nat → Nat} {I : ek_St} {x : Nat} {H : Heap} (h : ek_at G (kd x) x (I x) H) : ek_C G kd I x (x + 1) H := fun y a b => by
  have : y = x := by omega
  rw [this]
  exact h
/-- a constructor's start and end -/
def ek_CP (G : ek_G) (kx x : Nat) (U : State) : Prop := U.heap.size = G.2.2 + (x + 1) ∧ ek_ob G kx x (ek_D kx) U.heap ∧ ek_K G U ∧ va_AO ek_TaskC U
def ek_CQ (G : ek_G) (kd : Nat → Nat) (I : ek_St) (x n : Nat) : Array Value → State → Outcome → State → Prop := fun _ st oc t => oc = .returned none ∧ t.heap.size = G.2.2 + (x + n) ∧ ek_C G kd I x (x + n) t.heap ∧ ∀ q, q < G.2.2 + x → t.heap[q]? = st.heap[q]?
abbrev ek_CM (l : Launch) (G : ek_G) (kd : Nat → Nat) (I : ek_St) (y : MethodName) (ws : List Cond) (rm : Room) (kx x n mc ms : Nat) : Prop := Met l y ws rm (va_Pc [.ref (G.2.2 + x)] (ek_CP G kx x)) (ek_CQ G kd I x n) mc ms (fun q => G.2.2 + x ≤ q)
section EKN
variable {p : Program} {l : Launch} {e : Env} {R : Room} {s : State} {m : MethodId} {args : Array Value} {below : List Frame} {meth : Method} {c : Code} {H : Heap} {locs : List Loc} {cells slots : Nat} {Q : State → Prop}
variable {cc : ByteArray} {pc nL : Nat} {own : String} {ls : Array Slot} {rest : List Value} {G : ek_G} {kd : Nat → Nat} {I : ek_St} {x : Nat}
theorem ek_new (hexec : p.tables.exec = Jvm.exec) (hb : c.code = cc) (hts : ∀ w ∈ lw_g, w.before args s = true) {C : String} {T : u_T} {N index : Nat} (kx : Nat) (hin : ∀ w ∈ u_ws C T N, w ∈ lw_g) (ty : Nat → FieldType) (hty : ∀ k, k < N → parseFieldDescriptor (T k).2.2.1 = some (ty k)) (hown : s.vm.findClass own = some m.cls) (hcl : Cond.classLink own index C ∈ lw_g) (hinst : Cond.instantiable C N ∈ lw_g) (hini : Cond.initialized C ∈ lw_g) (hK : ek_K G s) (hc : vwCl[kx - 1]? = some (C, T, N)) (hdf : ∀ j, j < N → defaultValue (ty j) = ek_D kx j) (hsz : H.size = G.2.2 + x) (hcells : cells + 1 ≤ R.cells) (hslots : slots + N ≤ R.slots) (hdg : decode cc pc = .ok (.new index, 3))
    (kk : ∀ H1 : Heap, H1.size = G.2.2 + (x + 1) → ek_ob G kx x (ek_D kx) H1 → (∀ q, q < G.2.2 + x → H1[q]? = H[q]?) → W p l e R s m args below meth c H1 locs (cells + 1) (slots + N) Q (F0 m (pc + 3) ls (.ref (G.2.2 + x) :: rest))) : W p l e R s m args below meth c H locs cells slots Q (F0 m pc ls rest) := by
  have hKn := hK.1.1 (kx - 1) _ hc
  refine W.newcK hexec hb hown (hts _ hcl) (hts _ hinst) (hts _ hini) rfl hdg hcells hslots hKn.2.1 hsz fun H1 kC hkC e1 z1 o1 => ?_
  exact kk H1 (by omega) ⟨_, hc, (u_born ty hts hin hKn hkC e1 hty).to hdf⟩ o1
theorem ek_newi (hexec : p.tables.exec = Jvm.exec) (hb : c.code = cc) (hts : ∀ w ∈ lw_g, w.before args s = true) (hK : ek_K G s) {n : Int32} {N : Nat} (hn : ¬ n < 0) (hN : n.toNatClampNeg = N) (hb2 : N ≤ 1000) (hsz : H.size = G.2.2 + x) (hcells : cells + 1 ≤ R.cells) (hslots : slots + N ≤ R.slots) (hdg : decode cc pc = .ok (.newarray .int, 2))
    (kk : ∀ H1 : Heap, H1.size = G.2.2 + (x + 1) → ek_at G (100 + N) x (fun _ => 0) H1 → (∀ q, q < G.2.2 + x → H1[q]? = H[q]?) → W p l e R s m args below meth c H1 locs (cells + 1) (slots + N) Q (F0 m (pc + 2) ls (.ref (G.2.2 + x) :: rest))) : W p l e R s m args below meth c H locs cells slots Q (F0 m pc ls (.int n :: rest)) := by
  refine va_newaK (atype := .int) hexec hb (show (Cond.arrayClass (newarray.typeOf .int)).before args s = true from hts _ q_53) (g := F0 m pc ls (.int n :: rest)) rfl hdg rfl hn hN (by show N * 4 ≤ _; omega) hcells hslots hsz fun H1 cA e1 z1 o1 hAr hNm => ?_
  have hcA : cA = G.2.1 0 := Option.some.inj (hNm.symm.trans (hK.1.2 0 _ rfl).2)
  subst hcA
  refine kk H1 (by omega) (ek_at_int ?_) o1
  rw [e1, vp_cell_i]
  rfl
theorem ek_newz (hexec : p.tables.exec = Jvm.exec) (hb : c.code = cc) (harr : (Cond.arrayClass .boolean).before args s = true) (hK : ek_K G s) {n : Int32} (hn : n = 12) (hsz : H.size = G.2.2 + x) (hcells : cells + 1 ≤ R.cells) (hslots : slots + 12 ≤ R.slots) (hdg : decode cc pc = .ok (.newarray .boolean, 2))
    (kk : ∀ H1 : Heap, H1.size = G.2.2 + (x + 1) → ek_at G 50 x (fun _ => 0) H1 → (∀ q, q < G.2.2 + x → H1[q]? = H[q]?) → W p l e R s m args below meth c H1 locs (cells + 1) (slots + 12) Q (F0 m (pc + 2) ls (.ref (G.2.2 + x) :: rest))) : W p l e R s m args below meth c H locs cells slots Q (F0 m pc ls (.int n :: rest)) := by
  subst hn
  refine va_newaK (atype := .boolean) (N := 12) hexec hb (show (Cond.arrayClass (newarray.typeOf .boolean)).before args s = true from harr) (g := F0 m pc ls (.int 12 :: rest)) rfl hdg rfl (by decide) (by decide) (by decide) hcells hslots hsz fun H1 cA e1 z1 o1 hAr hNm => ?_
  have hcA : cA = G.2.1 1 := Option.some.inj (hNm.symm.trans (hK.1.2 1 _ rfl).2)
  subst hcA
  refine kk H1 (by omega) (ek_at_bool ?_) o1
  rw [e1, vp_cell_i]
  rfl
theorem ek_newq (hexec : p.tables.exec = Jvm.exec) (hb : c.code = cc) (hts : ∀ w ∈ lw_g, w.before args s = true) {index : Nat} (hown : s.vm.findClass own = some m.cls) (hcl : Cond.classLink own index ek_TaskC ∈ lw_g) (hover : va_AO ek_TaskC s) (hK : ek_K G s) {n : Int32} (hn : n = 12) (hsz : H.size = G.2.2 + x) (hcells : cells + 1 ≤ R.cells) (hslots : slots + 12 ≤ R.slots) (hdg : decode cc pc = .ok (.anewarray index, 3))
    (kk : ∀ H1 : Heap, H1.size = G.2.2 + (x + 1) → ek_at G 60 x (fun _ => 0) H1 → (∀ q, q < G.2.2 + x → H1[q]? = H[q]?) → W p l e R s m args below meth c H1 locs (cells + 1) (slots + 12) Q (F0 m (pc + 3) ls (.ref (G.2.2 + x) :: rest))) : W p l e R s m args below meth c H locs cells slots Q (F0 m pc ls (.int n :: rest)) := by
  subst hn
  refine W.anew hexec hb hown (hts _ hcl) hover.use (g := F0 m pc ls (.int 12 :: rest)) rfl hdg rfl (by decide) (by decide) hcells hslots fun cA kA comp h1 h2 h3 h4 => ?_
  obtain ⟨_, _, -, -, -, hf⟩ := (hK.1.2 2 _ rfl).2
  have hcA : cA = G.2.1 2 := Option.some.inj (h1.symm.trans hf)
  subst hcA
  have key := kk (H.push { cls := G.2.1 2, slots := Array.replicate 12 .null, vm := .none }) (by rw [Array.size_push]; omega) (ek_at_row ?_) (fun q hq => by rw [Array.getElem?_push, if_neg (by omega)])
  · rw [← hsz] at key
    exact key
  · rw [← hsz, Array.getElem?_push_size, vp_cell_q]
    congr 1
theorem ek_putF (hexec : p.tables.exec = Jvm.exec) (hb : c.code = cc) (hts : ∀ w ∈ lw_g, w.before args s = true) {C : String} {T : u_T} {N index : Nat} (kx : Nat) (hin : ∀ w ∈ u_ws C T N, w ∈ lw_g) (ty0 : Nat → FieldType) (hty : ∀ k, k < N → parseFieldDescriptor (T k).2.2.1 = some (ty0 k)) (hnm : ∀ a, a < N → ∀ b, b < N → a ≠ b → (T a).2.1 ≠ (T b).2.1) (hown : s.vm.findClass own = some m.cls) (hK : ek_K G s) {V : Nat → Value} (hV : ek_ob G kx x V H) (hc : vwCl[kx - 1]? = some (C, T, N)) (k : Nat) (hk : k < N) (hlink : Cond.fieldLink own index (T k).1 (T k).2.1 (T k).2.2.1 ∈ lw_g) (hfin : (T k).2.2.2 = true) (hin2 : meth.name = "<init>") (hdecl : (T k).1 = own) {v : Value} (hn : narrow (ty0 k) v = v) (hfit : fits (ty0 k) v = true) (hdg : decode cc pc = .ok (.putfield index, 3))
    (kk : ∀ (H1 : Heap) (locs1 : List Loc), locs1 = locs ++ [⟨G.2.2 + x, G.1.2 (kx - 1) k⟩] → ek_ob G kx x (updV V k v) H1 → H1.size = H.size → (∀ q, q ≠ G.2.2 + x → H1[q]? = H[q]?) → W p l e R s m args below meth c H1 locs1 cells slots Q (F0 m (pc + 3) ls rest)) : W p l e R s m args below meth c H locs cells slots Q (F0 m pc ls (v :: .ref (G.2.2 + x) :: rest)) := by
  have hap := va_apart (own := own) hts hin ty0 hty hnm hK.1 hc
  obtain ⟨r, h1, cell, q1, q2, q3, q4⟩ := hV
  have hr : r = (C, T, N) := Option.some.inj (h1.symm.trans hc)
  subst hr
  obtain ⟨hS, hfc, kC, hkC, hkind⟩ := hK.1.1 (kx - 1) _ hc
  obtain ⟨cf, kf, fi, f, hi, hsl⟩ := hS k hk
  have hlay := hts _ (hin _ (u_in_lay hk))
  unfold u_lay at hlay
  rw [if_pos hfin] at hlay
  have hst := (u_facts hfc hkC (u_lays hts hin hk) hi).1
  have hcf : m.cls = cf := by
    obtain ⟨_, _, c', _, _, _, -, -, hf', -, -, -, hown2, -⟩ := Cond.laysFinal_spec hlay
    have e1 : c' = cf := by have := hi.symm.trans hf'; simp at this; exact this.1.symm
    rw [hdecl] at hown2
    rw [← e1]; exact Option.some.inj (hown.symm.trans hown2)
  have h6 := u_fits hfc hkC hkind (Or.inr hlay) hi (hty k hk) hn hfit
  refine W.putFinK hexec hb hown (hts _ hlink) hi hst hcf hin2 (by rw [q2]; exact h6) q1 q3 (by rw [hsl]; exact k2_hasslot (q4 k hk)) rfl rfl hdg fun H' e1 e2 e3 => ?_
  rw [hsl] at e1 ⊢
  exact kk H' _ rfl ⟨_, hc, _, e1, q2, q3, t_set q4 hap hk v⟩ e2 e3
theorem ek_putI (hexec : p.tables.exec = Jvm.exec) (hb : c.code = cc) (hts : ∀ w ∈ lw_g, w.before args s = true) {C : String} {T : u_T} {N index : Nat} (kx : Nat) (hin : ∀ w ∈ u_ws C T N, w ∈ lw_g) (ty0 : Nat → FieldType) (hty : ∀ k, k < N → parseFieldDescriptor (T k).2.2.1 = some (ty0 k)) (hnm : ∀ a, a < N → ∀ b, b < N → a ≠ b → (T a).2.1 ≠ (T b).2.1) (hown : s.vm.findClass own = some m.cls) (hK : ek_K G s) {V : Nat → Value} (hV : ek_ob G kx x V H) (hc : vwCl[kx - 1]? = some (C, T, N)) (k : Nat) (hk : k < N) (hlink : Cond.fieldLink own index (T k).1 (T k).2.1 (T k).2.2.1 ∈ lw_g) (hfin : (T k).2.2.2 = false) {v : Value} (hn : narrow (ty0 k) v = v) (hfit : fits (ty0 k) v = true) (hdg : decode cc pc = .ok (.putfield index, 3))
    (kk : ∀ (H1 : Heap) (locs1 : List Loc), locs1 = locs ++ [⟨G.2.2 + x, G.1.2 (kx - 1) k⟩] → ek_ob G kx x (updV V k v) H1 → H1.size = H.size → (∀ q, q ≠ G.2.2 + x → H1[q]? = H[q]?) → W p l e R s m args below meth c H1 locs1 cells slots Q (F0 m (pc + 3) ls rest)) : W p l e R s m args below meth c H locs cells slots Q (F0 m pc ls (v :: .ref (G.2.2 + x) :: rest)) := by
  have hap := va_apart (own := own) hts hin ty0 hty hnm hK.1 hc
  obtain ⟨r, h1, cell, q1, q2, q3, q4⟩ := hV
  have hr : r = (C, T, N) := Option.some.inj (h1.symm.trans hc)
  subst hr
  obtain ⟨hS, hfc, kC, hkC, hkind⟩ := hK.1.1 (kx - 1) _ hc
  obtain ⟨cf, kf, fi, f, hi, hsl⟩ := hS k hk
  have hlay := hts _ (hin _ (u_in_lay hk))
  unfold u_lay at hlay
  rw [if_neg (by rw [hfin]; decide)] at hlay
  have hst := (u_facts hfc hkC (u_lays hts hin hk) hi).1
  have h6 := u_store hfc hkC hkind hlay hi (hty k hk) hn hfit
  refine W.putK hexec hb (f := f) ⟨hown, hts _ hlink, ⟨_, _, _, hi⟩, hst⟩ (by rw [q2]; exact h6) q1 q3 (by rw [hsl]; exact k2_hasslot (q4 k hk)) rfl rfl hdg fun H' e1 e2 e3 => ?_
  rw [hsl] at e1 ⊢
  exact kk H' _ rfl ⟨_, hc, _, e1, q2, q3, t_set q4 hap hk v⟩ e2 e3
theorem ek_CP_blind {kx : Nat} {av : List Value} : FrameBlind (va_Pc av (ek_CP G kx x)) := fun a U g mk q => ⟨q.1, q.2.1, q.2.2.1, ek_K_same (u := U) (U := U.calling g mk a) rfl q.2.2.2.1, va_AO.moved (u := U) (U := U.calling g mk a) (Vm.Alike.refl _) q.2.2.2.2⟩
/-- a constructor is called -/
theorem ek_ctor (hS : CallFix p m c cc nL s args lw_g own) (hK : ek_K G s) (hover : va_AO ek_TaskC s) {y : MethodName} {bytes : ByteArray} {maxL kx n mc ms index : Nat} {rm : Room} (hM : ek_CM l G kd I y (.code y bytes maxL none :: lw_g) rm kx x n mc ms) (hsz : H.size = G.2.2 + (x + 1)) (hob : ek_ob G kx x (ek_D kx) H) (hml : Cond.methodLink own index y ∈ lw_g) (hin : Cond.instanceMethod y ∈ lw_g) (hini : Cond.initialized y.cls ∈ lw_g) (hcode : Cond.code y bytes maxL none ∈ lw_g) (hy : y.name = "<init>") (hd : y.cls ≠ "java/lang/invoke/MethodHandle" ∧ y.cls ≠ "java/lang/invoke/VarHandle" ∧ (parseMethodDescriptor y.desc).map (fun d => d.parameters.length) = some 0) (hrm : rm.cells = mc ∧ rm.slots = ms) (hR : rm.frames + 1 ≤ R.frames ∧ 8 + (maxL + 11) + rm.locals ≤ R.locals) (hsize : ls.size = nL) (hr4 : rest.length ≤ 4) (hf : cells + mc ≤ R.cells ∧ slots + ms ≤ R.slots) (hdg : decode cc pc = .ok (.invokespecial index, 3)) {lo : Nat} (hlo : lo ≤ G.2.2 + x) (hlocs : ∀ q ∈ locs, lo ≤ q.base)
    (kk : ∀ (H1 : Heap) (locs1 : List Loc), (∀ q ∈ locs1, lo ≤ q.base) → H1.size = G.2.2 + (x + n) → ek_C G kd I x (x + n) H1 → (∀ q, q < G.2.2 + x → H1[q]? = H[q]?) → W p l e R s m args below meth c H1 locs1 (cells + mc) (slots + ms) Q (F0 m (pc + 3) ls rest)) : W p l e R s m args below meth c H locs cells slots Q (F0 m pc ls (.ref (G.2.2 + x) :: rest)) := by
  have hts := hS.2.2.2.2
  have hrun := va_runI (locs := locs) (cells := cells) (slots := slots) (e := e) (below := below) (meth := meth) (H := H) (b := G.2.2 + x) (As := []) (rest := rest) (n := 0) (index := index) (g := F0 m pc ls (.ref (G.2.2 + x) :: rest)) hS hM ⟨callB_of 0 hts (lw_C hcode) rfl hrm.1 hrm.2 (hts _ hini) (hts _ hml) hd hR, hy, hts _ hin⟩ ⟨ek_CP_blind, fun U hU hW => ⟨rfl, by rw [hU]; exact hsz, by rw [hU]; exact hob, ek_K_warm hW hK, va_AO.moved hW.alike hover⟩⟩ rfl rfl hsize rfl (lv_room (ek_rest hr4)) hdg hf
  intro T hT X
  obtain ⟨v, st₀, t, T', L, h0, X', hL, e1, e2, ⟨hv, hz, hC, hk⟩, st⟩ := hrun T hT X
  cases hv
  rw [h0] at hk
  obtain ⟨t2, a1, b1⟩ := kk T'.heap (locs ++ L) (fun q hq => by
      rcases List.mem_append.mp hq with h | h
      · exact hlocs q h
      · exact Nat.le_trans hlo (hL q h)) (by rw [e1]; exact hz) (by rw [e1]; exact hC) (fun q h1 => by rw [e1]; exact hk q h1) T' rfl X'
  exact ⟨t2, st t2 a1, b1⟩
end EKN
