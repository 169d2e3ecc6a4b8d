/-! THE ABSTRACT HEAP. A world is a set of cells with numbers x (kind kd x, 0 = none) at the addresses G.2.2 + x; its contents are ints I x j; references in fields are fixed (ek_ro), those in the Task row are kept as numbers. Programs over it are Option-valued functions; a row turns 'the function answers some r' at an instruction into the same at the next. -/
abbrev ek_St : Type := Nat → Nat → Int32
abbrev ek_G : Type := va_G × (Nat → ClassId) × Nat
def ek_up (I : ek_St) (x j : Nat) (v : Int32) : ek_St := fun y k => if y = x ∧ k = j then v else I y k
def ek_ck {β : Type} (c : Prop) [Decidable c] (k : Option β) : Option β := if c then k else none
def ek_let {α β : Type} (e : α) (k : α → Option β) : Option β := k e
def ek_bi {α β : Type} (o : Option (ek_St × α)) (k : ek_St → α → Option β) : Option β := match o with
  | some q => k q.1 q.2
  | none => none
def ek_bv {β : Type} (o : Option ek_St) (k : ek_St → Option β) : Option β := match o with
  | some q => k q
  | none => none
theorem ek_ck_s {β : Type} {c : Prop} [Decidable c] {k : Option β} {r : β} (h : ek_ck c k = some r) : c ∧ k = some r := by
  unfold ek_ck at h
  split at h
  · exact ⟨by assumption, h⟩
  · cases h
theorem ek_no {β : Type} {r : β} {Z : Prop} (h : (none : Option β) = some r) : Z := by cases h
theorem ek_bi_s {α β : Type} {o : Option (ek_St × α)} {k : ek_St → α → Option β} {r : β} (h : ek_bi o k = some r) : ∃ (I : ek_St) (v : α), o = some (I, v) ∧ k I v = some r := by
  cases o with
  | none => cases h
  | some q => exact ⟨q.1, q.2, rfl, h⟩
theorem ek_bv_s {β : Type} {o : Option ek_St} {k : ek_St → Option β} {r : β} (h : ek_bv o k = some r) : ∃ I : ek_St, o = some I ∧ k I = some r := by
  cases o with
  | none => cases h
  | some q => exact ⟨q, rfl, h⟩
theorem ek_t {β : Type} {c : Prop} [Decidable c] {a b : Option β} {r : β} (h : c) (hf : (if c then a else b) = some r) : a = some r := by rw [if_pos h] at hf; exact hf
theorem ek_f {β : Type} {c : Prop} [Decidable c] {a b : Option β} {r : β} (h : ¬ c) (hf : (if c then a else b) = some r) : b = some r := by rw [if_neg h] at hf; exact hf
abbrev ek_in (i : Int32) (n : Nat) : Prop := ¬ (i < 0 ∨ n ≤ i.toNatClampNeg)
def ek_r (G : ek_G) (x : Nat) : Value := if x = 0 then .null else .ref (G.2.2 + x)
theorem ek_r_cat {G : ek_G} {x : Nat} : (ek_r G x).category = 1 := by unfold ek_r; split <;> rfl
theorem ek_c_i {v : Int32} : (Value.int v).category = 1 := rfl
theorem ek_c_l {v : Int64} : (Value.long v).category = 2 := rfl
theorem ek_r_ref {G : ek_G} {x : Nat} (h : x ≠ 0) : ek_r G x = .ref (G.2.2 + x) := by unfold ek_r; rw [if_neg h]
theorem ek_r_null {G : ek_G} : ek_r G 0 = .null := by unfold ek_r; rw [if_pos rfl]
def ek_o (G : ek_G) (x : Nat) : Option Nat := if x = 0 then none else some (G.2.2 + x)
theorem ek_o_r {G : ek_G} {x : Nat} : va_rf (ek_o G x) = ek_r G x := by
  unfold ek_o ek_r
  by_cases h : x = 0
  · rw [if_pos h, if_pos h]; rfl
  · rw [if_neg h, if_neg h]; rfl
def ek_V (G : ek_G) (kx x : Nat) (f : Nat → Int32) (j : Nat) : Value := if ek_ro kx j = 0 then .int (f j) else .ref (G.2.2 + (x + ek_ro kx j))
def ek_at (G : ek_G) (kx x : Nat) (f : Nat → Int32) (H : Heap) : Prop :=
  if kx < 20 then ∃ r : vw_C, vwCl[kx - 1]? = some r ∧ t_OB (G.2.2 + x) (G.1.1 (kx - 1)) r.2.2 (G.1.2 (kx - 1)) H (ek_V G kx x f)
  else if kx = 50 then H[G.2.2 + x]? = some (vp_cell (G.2.1 1) (12, .inl f))
  else if kx = 60 then H[G.2.2 + x]? = some (vp_cell (G.2.1 2) (12, .inr (.inr (.inr (.inr (fun j => ek_o G (f j).toNatClampNeg))))))
  else H[G.2.2 + x]? = some (vp_cell (G.2.1 0) (kx - 100, .inl f))
def ek_W (G : ek_G) (kd : Nat → Nat) (I : ek_St) (H : Heap) : Prop := kd 0 = 0 ∧ ∀ x, kd x ≠ 0 → ek_at G (kd x) x (I x) H
abbrev ek_K0 (G : ek_G) (s : State) : Prop := va_K G.1 vwCl [(G.2.1 0, .int), (G.2.1 1, .boolean), (G.2.1 2, .object ek_TaskC)] s
def ek_K (G : ek_G) (s : State) : Prop := ek_K0 G s ∧ ∀ w ∈ ek_nest, va_Nw w s
/-- the addresses of a world -/
def ek_A (G : ek_G) (kd : Nat → Nat) (q : Nat) : Prop := ∃ x, kd x ≠ 0 ∧ q = G.2.2 + x
theorem ek_at_kept {G : ek_G} {kx x : Nat} {f : Nat → Int32} {H H1 : Heap} (h : ek_at G kx x f H) (e : H1[G.2.2 + x]? = H[G.2.2 + x]?) : ek_at G kx x f H1 := by
  unfold ek_at at h ⊢
  split
  · rename_i h1
    rw [if_pos h1] at h
    obtain ⟨r, a, c⟩ := h
    exact ⟨r, a, c.kept e⟩
  · rename_i h1
    rw [if_neg h1] at h
    split
    · rename_i h2
      rw [if_pos h2] at h
      exact e.trans h
    · rename_i h2
      rw [if_neg h2] at h
      split
      · rename_i h3
        rw [if_pos h3] at h
        exact e.trans h
      · rename_i h3
        rw [if_neg h3] at h
        exact e.trans h
theorem ek_W_kept {G : ek_G} {kd : Nat → Nat} {I : ek_St} {H H1 : Heap} (h : ek_W G kd I H) (e : ∀ x, kd x ≠ 0 → H1[G.2.2 + x]? = H[G.2.2 + x]?) : ek_W G kd I H1 := ⟨h.1, fun x hx => ek_at_kept (h.2 x hx) (e x hx)⟩
theorem ek_W_obj {G : ek_G} {kd : Nat → Nat} {I : ek_St} {H : Heap} (h : ek_W G kd I H) {x kx : Nat} {q : vw_C} (hx : kd x = kx) (h0 : kx ≠ 0) (h1 : kx < 20) (hc : vwCl[kx - 1]? = some q) : t_OB (G.2.2 + x) (G.1.1 (kx - 1)) q.2.2 (G.1.2 (kx - 1)) H (ek_V G kx x (I x)) := by
  have a := h.2 x (by rw [hx]; exact h0)
  rw [hx] at a
  unfold ek_at at a
  rw [if_pos h1] at a
  obtain ⟨r, e1, e2⟩ := a
  have : r = q := Option.some.inj (e1.symm.trans hc)
  subst this
  exact e2
theorem ek_W_int {G : ek_G} {kd : Nat → Nat} {I : ek_St} {H : Heap} (h : ek_W G kd I H) {x n : Nat} (hx : kd x = 100 + n) : H[G.2.2 + x]? = some (vp_cell (G.2.1 0) (n, .inl (I x))) := by
  have a := h.2 x (by rw [hx]; omega)
  rw [hx] at a
  unfold ek_at at a
  rw [if_neg (by omega), if_neg (by omega), if_neg (by omega), Nat.add_sub_cancel_left] at a
  exact a
theorem ek_W_bool {G : ek_G} {kd : Nat → Nat} {I : ek_St} {H : Heap} (h : ek_W G kd I H) {x : Nat} (hx : kd x = 50) : H[G.2.2 + x]? = some (vp_cell (G.2.1 1) (12, .inl (I x))) := by
  have a := h.2 x (by rw [hx]; omega)
  rw [hx] at a
  unfold ek_at at a
  rw [if_neg (by omega), if_pos rfl] at a
  exact a
theorem ek_W_row {G : ek_G} {kd : Nat → Nat} {I : ek_St} {H : Heap} (h : ek_W G kd I H) {x : Nat} (hx : kd x = 60) : H[G.2.2 + x]? = some (vp_cell (G.2.1 2) (12, .inr (.inr (.inr (.inr (fun j => ek_o G (I x j).toNatClampNeg)))))) := by
  have a := h.2 x (by rw [hx]; omega)
  rw [hx] at a
  unfold ek_at at a
  rw [if_neg (by omega), if_neg (by omega), if_pos rfl] at a
  exact a
theorem ek_up_ne {I : ek_St} {x j y : Nat} {v : Int32} (h : y ≠ x) : ek_up I x j v y = I y := by
  funext k
  simp [ek_up, h]
theorem ek_up_self {I : ek_St} {x j : Nat} {v : Int32} : ek_up I x j v x = upd (I x) j v := by
  funext k
  simp [ek_up, upd]
/-- one cell is written -/
theorem ek_W_put {G : ek_G} {kd : Nat → Nat} {I : ek_St} {H H1 : Heap} {x j : Nat} {v : Int32} (h : ek_W G kd I H) (hx : ek_at G (kd x) x (upd (I x) j v) H1) (oq : ∀ q : Nat, q ≠ G.2.2 + x → H1[q]? = H[q]?) : ek_W G kd (ek_up I x j v) H1 := by
  refine ⟨h.1, fun y hy => ?_⟩
  by_cases e : y = x
  · subst e
    rw [ek_up_self]
    exact hx
  · rw [ek_up_ne e]
    exact ek_at_kept (h.2 y hy) (oq _ (by omega))
theorem ek_at_int {G : ek_G} {x n : Nat} {f : Nat → Int32} {H : Heap} (h : H[G.2.2 + x]? = some (vp_cell (G.2.1 0) (n, .inl f))) : ek_at G (100 + n) x f H := by
  unfold ek_at
  rw [if_neg (by omega), if_neg (by omega), if_neg (by omega), Nat.add_sub_cancel_left]
  exact h
theorem ek_at_bool {G : ek_G} {x : Nat} {f : Nat → Int32} {H : Heap} (h : H[G.2.2 + x]? = some (vp_cell (G.2.1 1) (12, .inl f))) : ek_at G 50 x f H := by
  unfold ek_at
  rw [if_neg (by omega), if_pos rfl]
  exact h
theorem ek_at_row {G : ek_G} {x : Nat} {f : Nat → Int32} {H : Heap} (h : H[G.2.2 + x]? = some (vp_cell (G.2.1 2) (12, .inr (.inr (.inr (.inr (fun j => ek_o G (f j).toNatClampNeg))))))) : ek_at G 60 x f H := by
  unfold ek_at
  rw [if_neg (by omega), if_neg (by omega), if_pos rfl]
  exact h
theorem ek_at_obj {G : ek_G} {kx x : Nat} {f : Nat → Int32} {H : Heap} {q : vw_C} (h1 : kx < 20) (hc : vwCl[kx - 1]? = some q) (h : t_OB (G.2.2 + x) (G.1.1 (kx - 1)) q.2.2 (G.1.2 (kx - 1)) H (ek_V G kx x f)) : ek_at G kx x f H := by
  unfold ek_at
  rw [if_pos h1]
  exact ⟨q, hc, h⟩
theorem ek_W.nz {G : ek_G} {kd : Nat → Nat} {I : ek_St} {H : Heap} (h : ek_W G kd I H) {x : Nat} (hx : kd x ≠ 0) : x ≠ 0 := fun e => hx (by rw [e]; exact h.1)
/-! locals -/
def ek_S1 (lv : List (Nat × Value)) (i : Nat) (v : Value) (lv' : List (Nat × Value)) : Prop := ∀ (ls : Array Slot) (nL : Nat), lv_has ls nL lv → i < nL → ∃ ls', storeLocals ls i v = some ls' ∧ lv_has ls' nL lv'
def ek_S2 (lv : List (Nat × Value)) (i : Nat) (v : Value) (lv' : List (Nat × Value)) : Prop := ∀ (ls : Array Slot) (nL : Nat), lv_has ls nL lv → i + 1 < nL → ∃ ls', storeLocals ls i v = some ls' ∧ lv_has ls' nL lv'
theorem ek_s1 {lv lv' : List (Nat × Value)} {i : Nat} {v : Value} (hc : v.category = 1) (hl : (i, v) :: lv.filter (fun q => !(q.1 == i) && !(q.1 + 1 == i)) = lv') : ek_S1 lv i v lv' := by
  intro ls nL h hi
  obtain ⟨ls', e1, a, b, d⟩ := lv_store1 h hi hc
  refine ⟨ls', e1, a, b, fun q hq => d q ?_⟩
  subst hl
  rcases List.mem_cons.mp hq with h1 | h1
  · exact List.mem_cons.mpr (Or.inl h1)
  · refine List.mem_cons.mpr (Or.inr ?_)
    rw [List.mem_filter] at h1 ⊢
    refine ⟨h1.1, ?_⟩
    have := h1.2
    simp only [Bool.and_eq_true, Bool.not_eq_true', beq_eq_false_iff_ne, ne_eq] at this
    simp [this.1, this.2]
theorem ek_s1k {lv lv' : List (Nat × Value)} {i j : Nat} {v w : Value} (kp : Nat) (hkp : lv[kp]? = some (j, w)) (hj : j + 1 = i) (hw : w.category = 1) (hc : v.category = 1) (hl : (i, v) :: (j, w) :: lv.filter (fun q => !(q.1 == i) && !(q.1 + 1 == i)) = lv') : ek_S1 lv i v lv' := by
  intro ls nL h hi
  obtain ⟨ls', e1, a, b, d⟩ := lv_store1 h hi hc
  refine ⟨ls', e1, a, b, fun q hq => d q ?_⟩
  subst hl
  rcases List.mem_cons.mp hq with h1 | h1
  · exact List.mem_cons.mpr (Or.inl h1)
  · rcases List.mem_cons.mp h1 with h2 | h2
    · refine List.mem_cons.mpr (Or.inr ?_)
      subst h2
      rw [List.mem_filter]
      refine ⟨List.mem_of_getElem? hkp, ?_⟩
      subst hj
      simp [hw]
    · refine List.mem_cons.mpr (Or.inr ?_)
      rw [List.mem_filter] at h2 ⊢
      refine ⟨h2.1, ?_⟩
      have := h2.2
      simp only [Bool.and_eq_true, Bool.not_eq_true', beq_eq_false_iff_ne, ne_eq] at this
      simp [this.1, this.2]
theorem ek_s2 {lv lv' : List (Nat × Value)} {i : Nat} {v : Value} (hc : v.category = 2) (hl : (i, v) :: lv.filter (fun q => !(q.1 == i) && (!(q.1 == i + 1) && !(q.1 + 1 == i))) = lv') : ek_S2 lv i v lv' := by
  intro ls nL h hi
  obtain ⟨ls', e1, a, b, d⟩ := lv_store2 h hi hc
  refine ⟨ls', e1, a, b, fun q hq => d q ?_⟩
  subst hl
  rcases List.mem_cons.mp hq with h1 | h1
  · exact List.mem_cons.mpr (Or.inl h1)
  · refine List.mem_cons.mpr (Or.inr ?_)
    rw [List.mem_filter] at h1 ⊢
    refine ⟨h1.1, ?_⟩
    have := h1.2
    simp only [Bool.and_eq_true, Bool.not_eq_true', beq_eq_false_iff_ne, ne_eq] at this
    simp [this.1, this.2.1, this.2.2]
theorem ek_s2k {lv lv' : List (Nat × Value)} {i j : Nat} {v w : Value} (kp : Nat) (hkp : lv[kp]? = some (j, w)) (hj : j + 1 = i) (hw : w.category = 1) (hc : v.category = 2) (hl : (i, v) :: (j, w) :: lv.filter (fun q => !(q.1 == i) && (!(q.1 == i + 1) && !(q.1 + 1 == i))) = lv') : ek_S2 lv i v lv' := by
  intro ls nL h hi
  obtain ⟨ls', e1, a, b, d⟩ := lv_store2 h hi hc
  refine ⟨ls', e1, a, b, fun q hq => d q ?_⟩
  subst hl
  rcases List.mem_cons.mp hq with h1 | h1
  · exact List.mem_cons.mpr (Or.inl h1)
  · rcases List.mem_cons.mp h1 with h2 | h2
    · refine List.mem_cons.mpr (Or.inr ?_)
      subst h2
      rw [List.mem_filter]
      refine ⟨List.mem_of_getElem? hkp, ?_⟩
      subst hj
      simp [hw]
      omega
    · refine List.mem_cons.mpr (Or.inr ?_)
      rw [List.mem_filter] at h2 ⊢
      refine ⟨h2.1, ?_⟩
      have := h2.2
      simp only [Bool.and_eq_true, Bool.not_eq_true', beq_eq_false_iff_ne, ne_eq] at this
      simp [this.1, this.2.1, this.2.2]
section EKL
variable {p : Program} {l : Launch} {e : Env} {R : Room} {s : State} {m : MethodId} {args : Array Value} {below : List Frame} {meth : Method} {c : Code} {H : Heap} {locs : List Loc} {cells slots : Nat} {Q : State → Prop}
variable {cc : ByteArray} {pc : Nat} {ls : Array Slot} {rest : List Value} {G : ek_G} {β : Type} {r : β}
theorem ek_istore_n (hexec : p.tables.exec = Jvm.exec) (hb : c.code = cc) {k : Fin 4} {i nL : Nat} {x : Int32} {lv lv' : List (Nat × Value)} (hdg : decode cc pc = .ok (.istore_n k, 1)) (hi : (k : Nat) = i) (h : lv_has ls nL lv) (hn : i < nL) (hl : ek_S1 lv i (.int x) lv')
    (kk : ∀ ls' : Array Slot, lv_has ls' nL lv' → W p l e R s m args below meth c H locs cells slots Q (F0 m (pc + 1) ls' rest)) : W p l e R s m args below meth c H locs cells slots Q (F0 m pc ls (.int x :: rest)) := by
  subst hi
  obtain ⟨ls', e', h'⟩ := hl ls nL h hn
  intro T hT X
  obtain ⟨t, a, b⟩ := kk ls' h' T hT X
  refine ⟨t, ?_, b⟩
  jvm_step X.here [X.here.top, ↓top_set X.here.top, hexec, hb, hdg, e']
  exact a
theorem ek_istore (hexec : p.tables.exec = Jvm.exec) (hb : c.code = cc) {i nL : Nat} {x : Int32} {lv lv' : List (Nat × Value)} (hdg : decode cc pc = .ok (.istore i, 2)) (h : lv_has ls nL lv) (hn : i < nL) (hl : ek_S1 lv i (.int x) lv')
    (kk : ∀ ls' : Array Slot, lv_has ls' nL lv' → W p l e R s m args below meth c H locs cells slots Q (F0 m (pc + 2) ls' rest)) : W p l e R s m args below meth c H locs cells slots Q (F0 m pc ls (.int x :: rest)) := by
  obtain ⟨ls', e', h'⟩ := hl ls nL h hn
  intro T hT X
  obtain ⟨t, a, b⟩ := kk ls' h' T hT X
  refine ⟨t, ?_, b⟩
  jvm_step X.here [X.here.top, ↓top_set X.here.top, hexec, hb, hdg, e']
  exact a
theorem ek_lstore_n (hexec : p.tables.exec = Jvm.exec) (hb : c.code = cc) {k : Fin 4} {i nL : Nat} {x : Int64} {lv lv' : List (Nat × Value)} (hdg : decode cc pc = .ok (.lstore_n k, 1)) (hi : (k : Nat) = i) (h : lv_has ls nL lv) (hn : i + 1 < nL) (hl : ek_S2 lv i (.long x) lv')
    (kk : ∀ ls' : Array Slot, lv_has ls' nL lv' → W p l e R s m args below meth c H locs cells slots Q (F0 m (pc + 1) ls' rest)) : W p l e R s m args below meth c H locs cells slots Q (F0 m pc ls (.long x :: rest)) := by
  subst hi
  obtain ⟨ls', e', h'⟩ := hl ls nL h hn
  intro T hT X
  obtain ⟨t, a, b⟩ := kk ls' h' T hT X
  refine ⟨t, ?_, b⟩
  jvm_step X.here [X.here.top, ↓top_set X.here.top, hexec, hb, hdg, e']
  exact a
theorem ek_lstore (hexec : p.tables.exec = Jvm.exec) (hb : c.code = cc) {i nL : Nat} {x : Int64} {lv lv' : List (Nat × Value)} (hdg : decode cc pc = .ok (.lstore i, 2)) (h : lv_has ls nL lv) (hn : i + 1 < nL) (hl : ek_S2 lv i (.long x) lv')
    (kk : ∀ ls' : Array Slot, lv_has ls' nL lv' → W p l e R s m args below meth c H locs cells slots Q (F0 m (pc + 2) ls' rest)) : W p l e R s m args below meth c H locs cells slots Q (F0 m pc ls (.long x :: rest)) := by
  obtain ⟨ls', e', h'⟩ := hl ls nL h hn
  intro T hT X
  obtain ⟨t, a, b⟩ := kk ls' h' T hT X
  refine ⟨t, ?_, b⟩
  jvm_step X.here [X.here.top, ↓top_set X.here.top, hexec, hb, hdg, e']
  exact a
theorem ek_iincr (hexec : p.tables.exec = Jvm.exec) (hb : c.code = cc) {i nL : Nat} (k : Nat) {n : Int} {x v : Int32} {lv lv' : List (Nat × Value)} (hdg : decode cc pc = .ok (.iinc i n, 3)) (h : lv_has ls nL lv) (hk : lv[k]? = some (i, .int x)) (hv : x + Int32.ofInt n = v) (hn : i < nL) (hl : ek_S1 lv i (.int v) lv')
    (kk : ∀ ls' : Array Slot, lv_has ls' nL lv' → W p l e R s m args below meth c H locs cells slots Q (F0 m (pc + 3) ls' rest)) : W p l e R s m args below meth c H locs cells slots Q (F0 m pc ls rest) := by
  subst hv
  have hg := lv_at h k hk
  obtain ⟨ls', e', h'⟩ := hl ls nL h hn
  intro T hT X
  obtain ⟨t, a, b⟩ := kk ls' h' T hT X
  refine ⟨t, ?_, b⟩
  jvm_step X.here [X.here.top, ↓top_set X.here.top, hexec, hb, hdg, hg, e']
  exact a
theorem ek_iinc (hexec : p.tables.exec = Jvm.exec) (hb : c.code = cc) {i nL : Nat} (k : Nat) {n : Int} {x v : Int32} {lv : List (Nat × Value)} (lv' : Int32 → List (Nat × Value)) (hdg : decode cc pc = .ok (.iinc i n, 3)) (h : lv_has ls nL lv) (hk : lv[k]? = some (i, .int x)) (hv : x + Int32.ofInt n = v) {K : Int32 → Option β} (hf : ek_let v K = some r) (hn : i < nL) (hl : ∀ y : Int32, ek_S1 lv i (.int y) (lv' y))
    (kk : ∀ (y : Int32) (ls' : Array Slot), K y = some r → lv_has ls' nL (lv' y) → W p l e R s m args below meth c H locs cells slots Q (F0 m (pc + 3) ls' rest)) : W p l e R s m args below meth c H locs cells slots Q (F0 m pc ls rest) :=
  ek_iincr hexec hb k hdg h hk hv hn (hl v) (fun ls' h' => kk v ls' hf h')
theorem ek_astore_n (hexec : p.tables.exec = Jvm.exec) (hb : c.code = cc) {k : Fin 4} {i nL x : Nat} {lv lv' : List (Nat × Value)} (hdg : decode cc pc = .ok (.astore_n k, 1)) (hi : (k : Nat) = i) (h : lv_has ls nL lv) (hn : i < nL) (hl : ek_S1 lv i (ek_r G x) lv')
    (kk : ∀ ls' : Array Slot, lv_has ls' nL lv' → W p l e R s m args below meth c H locs cells slots Q (F0 m (pc + 1) ls' rest)) : W p l e R s m args below meth c H locs cells slots Q (F0 m pc ls (ek_r G x :: rest)) := by
  subst hi
  obtain ⟨ls', e', h'⟩ := hl ls nL h hn
  intro T hT X
  obtain ⟨t, a, b⟩ := kk ls' h' T hT X
  refine ⟨t, ?_, b⟩
  by_cases hx : x = 0
  · subst hx
    rw [ek_r_null] at e' ⊢
    jvm_step X.here [X.here.top, ↓top_set X.here.top, hexec, hb, hdg, e', Value.isRef]
    exact a
  · rw [ek_r_ref hx] at e' ⊢
    jvm_step X.here [X.here.top, ↓top_set X.here.top, hexec, hb, hdg, e', Value.isRef]
    exact a
theorem ek_astore (hexec : p.tables.exec = Jvm.exec) (hb : c.code = cc) {i nL x : Nat} {lv lv' : List (Nat × Value)} (hdg : decode cc pc = .ok (.astore i, 2)) (h : lv_has ls nL lv) (hn : i < nL) (hl : ek_S1 lv i (ek_r G x) lv')
    (kk : ∀ ls' : Array Slot, lv_has ls' nL lv' → W p l e R s m args below meth c H locs cells slots Q (F0 m (pc + 2) ls' rest)) : W p l e R s m args below meth c H locs cells slots Q (F0 m pc ls (ek_r G x :: rest)) := by
  obtain ⟨ls', e', h'⟩ := hl ls nL h hn
  intro T hT X
  obtain ⟨t, a, b⟩ := kk ls' h' T hT X
  refine ⟨t, ?_, b⟩
  by_cases hx : x = 0
  · subst hx
    rw [ek_r_null] at e' ⊢
    jvm_step X.here [X.here.top, ↓top_set X.here.top, hexec, hb, hdg, e', Value.isRef]
    exact a
  · rw [ek_r_ref hx] at e' ⊢
    jvm_step X.here [X.here.top, ↓top_set X.here.top, hexec, hb, hdg, e', Value.isRef]
    exact a
theorem ek_aload_n (hexec : p.tables.exec = Jvm.exec) (hb : c.code = cc) {k : Fin 4} {i : Nat} {x : Nat} (hdg : decode cc pc = .ok (.aload_n k, 1)) (hi : (k : Nat) = i) (hl : ls[i]? = some (.val (ek_r G x)))
    (k : W p l e R s m args below meth c H locs cells slots Q (F0 m (pc + 1) ls (ek_r G x :: rest))) : W p l e R s m args below meth c H locs cells slots Q (F0 m pc ls rest) := by
  by_cases hx : x = 0
  · subst hx
    rw [ek_r_null] at hl k
    exact lv_aload_nN hexec hb hdg hi hl k
  · rw [ek_r_ref hx] at hl k
    exact lv_aload_n hexec hb hdg hi hl k
theorem ek_aload (hexec : p.tables.exec = Jvm.exec) (hb : c.code = cc) {i : Nat} {x : Nat} (hdg : decode cc pc = .ok (.aload i, 2)) (hl : ls[i]? = some (.val (ek_r G x)))
    (k : W p l e R s m args below meth c H locs cells slots Q (F0 m (pc + 2) ls (ek_r G x :: rest))) : W p l e R s m args below meth c H locs cells slots Q (F0 m pc ls rest) := by
  by_cases hx : x = 0
  · subst hx
    rw [ek_r_null] at hl k
    exact lv_aloadN hexec hb hdg hl k
  · rw [ek_r_ref hx] at hl k
    exact lv_aload hexec hb hdg hl k
theorem ek_null (hexec : p.tables.exec = Jvm.exec) (hb : c.code = cc) (hdg : decode cc pc = .ok (.aconst_null, 1)) (k : W p l e R s m args below meth c H locs cells slots Q (F0 m (pc + 1) ls (ek_r G 0 :: rest))) : W p l e R s m args below meth c H locs cells slots Q (F0 m pc ls rest) := by
  rw [ek_r_null] at k
  exact lv_null hexec hb hdg k
theorem ek_ifnull (hexec : p.tables.exec = Jvm.exec) (hb : c.code = cc) {x : Nat} {off : Int} {tgt : Nat} (hdg : decode cc pc = .ok (.ifnull off, 3)) (ht : (pc : Int) + off = (tgt : Int)) (kt : x = 0 → W p l e R s m args below meth c H locs cells slots Q (F0 m tgt ls rest)) (kf : ¬ x = 0 → W p l e R s m args below meth c H locs cells slots Q (F0 m (pc + 3) ls rest)) : W p l e R s m args below meth c H locs cells slots Q (F0 m pc ls (ek_r G x :: rest)) := by
  by_cases hx : x = 0
  · have := kt hx
    subst hx
    rw [ek_r_null]
    exact lv_ifnullN hexec hb hdg ht this
  · rw [ek_r_ref hx]
    exact lv_ifnull hexec hb hdg (kf hx)
theorem ek_ifnonnull (hexec : p.tables.exec = Jvm.exec) (hb : c.code = cc) {x : Nat} {off : Int} {tgt : Nat} (hdg : decode cc pc = .ok (.ifnonnull off, 3)) (ht : (pc : Int) + off = (tgt : Int)) (kt : ¬ x = 0 → W p l e R s m args below meth c H locs cells slots Q (F0 m tgt ls rest)) (kf : x = 0 → W p l e R s m args below meth c H locs cells slots Q (F0 m (pc + 3) ls rest)) : W p l e R s m args below meth c H locs cells slots Q (F0 m pc ls (ek_r G x :: rest)) := by
  by_cases hx : x = 0
  · have := kf hx
    subst hx
    rw [ek_r_null]
    exact lv_ifnonnullN hexec hb hdg this
  · rw [ek_r_ref hx]
    exact lv_ifnonnull hexec hb hdg ht (kt hx)
theorem ek_o_inj {x y : Nat} (h : ek_o G x = ek_o G y) : x = y := by
  unfold ek_o at h
  split at h <;> split at h
  · omega
  · cases h
  · cases h
  · have := Option.some.inj h
    omega
theorem ek_acmp_eq (hexec : p.tables.exec = Jvm.exec) (hb : c.code = cc) {x y : Nat} {off : Int} {tgt : Nat} (hdg : decode cc pc = .ok (.if_acmp .eq off, 3)) (ht : (pc : Int) + off = (tgt : Int)) (kt : x = y → W p l e R s m args below meth c H locs cells slots Q (F0 m tgt ls rest)) (kf : ¬ x = y → W p l e R s m args below meth c H locs cells slots Q (F0 m (pc + 3) ls rest)) : W p l e R s m args below meth c H locs cells slots Q (F0 m pc ls (ek_r G y :: ek_r G x :: rest)) := by
  rw [← ek_o_r, ← ek_o_r]
  exact lv_acmp_eq hexec hb hdg ht (fun h => kt (ek_o_inj h)) (fun h => kf (fun q => h (by rw [q])))
theorem ek_acmp_ne (hexec : p.tables.exec = Jvm.exec) (hb : c.code = cc) {x y : Nat} {off : Int} {tgt : Nat} (hdg : decode cc pc = .ok (.if_acmp .ne off, 3)) (ht : (pc : Int) + off = (tgt : Int)) (kt : ¬ x = y → W p l e R s m args below meth c H locs cells slots Q (F0 m tgt ls rest)) (kf : x = y → W p l e R s m args below meth c H locs cells slots Q (F0 m (pc + 3) ls rest)) : W p l e R s m args below meth c H locs cells slots Q (F0 m pc ls (ek_r G y :: ek_r G x :: rest)) := by
  rw [← ek_o_r, ← ek_o_r]
  exact lv_acmp_ne hexec hb hdg ht (fun h => kt (fun q => h (by rw [q]))) (fun h => kf (ek_o_inj h))
/-! a computed top gets a name -/
theorem ek_ti {x : Int32} {K : Int32 → Option β} (hf : ek_let x K = some r) (k : ∀ y : Int32, K y = some r → W p l e R s m args below meth c H locs cells slots Q (F0 m pc ls (.int y :: rest))) : W p l e R s m args below meth c H locs cells slots Q (F0 m pc ls (.int x :: rest)) := k x hf
theorem ek_tl {x : Int64} {K : Int64 → Option β} (hf : ek_let x K = some r) (k : ∀ y : Int64, K y = some r → W p l e R s m args below meth c H locs cells slots Q (F0 m pc ls (.long y :: rest))) : W p l e R s m args below meth c H locs cells slots Q (F0 m pc ls (.long x :: rest)) := k x hf
theorem ek_tr {x : Nat} {K : Nat → Option β} (hf : ek_let x K = some r) (k : ∀ y : Nat, K y = some r → W p l e R s m args below meth c H locs cells slots Q (F0 m pc ls (ek_r G y :: rest))) : W p l e R s m args below meth c H locs cells slots Q (F0 m pc ls (ek_r G x :: rest)) := k x hf
theorem ek_idiv (hexec : p.tables.exec = Jvm.exec) (hb : c.code = cc) {x y : Int32} {K : Option β} (hf : ek_ck (¬ y = 0) K = some r) (hdg : decode cc pc = .ok (.idiv, 1)) (k : K = some r → W p l e R s m args below meth c H locs cells slots Q (F0 m (pc + 1) ls (.int (x / y) :: rest))) : W p l e R s m args below meth c H locs cells slots Q (F0 m pc ls (.int y :: .int x :: rest)) := lv_idiv hexec hb hdg (ek_ck_s hf).1 (k (ek_ck_s hf).2)
theorem ek_irem (hexec : p.tables.exec = Jvm.exec) (hb : c.code = cc) {x y : Int32} {K : Option β} (hf : ek_ck (¬ y = 0) K = some r) (hdg : decode cc pc = .ok (.irem, 1)) (k : K = some r → W p l e R s m args below meth c H locs cells slots Q (F0 m (pc + 1) ls (.int (x - x / y * y) :: rest))) : W p l e R s m args below meth c H locs cells slots Q (F0 m pc ls (.int y :: .int x :: rest)) := lv_irem hexec hb hdg (ek_ck_s hf).1 (k (ek_ck_s hf).2)
theorem ek_ldiv (hexec : p.tables.exec = Jvm.exec) (hb : c.code = cc) {x y : Int64} {K : Option β} (hf : ek_ck (¬ y = 0) K = some r) (hdg : decode cc pc = .ok (.ldiv, 1)) (k : K = some r → W p l e R s m args below meth c H locs cells slots Q (F0 m (pc + 1) ls (.long (x / y) :: rest))) : W p l e R s m args below meth c H locs cells slots Q (F0 m pc ls (.long y :: .long x :: rest)) := lv_ldiv hexec hb hdg (ek_ck_s hf).1 (k (ek_ck_s hf).2)
theorem ek_lrem (hexec : p.tables.exec = Jvm.exec) (hb : c.code = cc) {x y : Int64} {K : Option β} (hf : ek_ck (¬ y = 0) K = some r) (hdg : decode cc pc = .ok (.lrem, 1)) (k : K = some r → W p l e R s m args below meth c H locs cells slots Q (F0 m (pc + 1) ls (.long (x - x / y * y) :: rest))) : W p l e R s m args below meth c H locs cells slots Q (F0 m pc ls (.long y :: .long x :: rest)) := lv_lrem hexec hb hdg (ek_ck_s hf).1 (k (ek_ck_s hf).2)
end EKL
/-! the heap -/
theorem ek_S_A {G : ek_G} {kd : Nat → Nat} {A : Nat → Prop} (hA : ∀ q, ek_A G kd q → A q) {x : Nat} (h : kd x ≠ 0) : A (G.2.2 + x) := hA _ ⟨x, h, rfl⟩
section EKH
variable {p : Program} {l : Launch} {e : Env} {R : Room} {s : State} {m : MethodId} {args : Array Value} {below : List Frame} {meth : Method} {c : Code} {H : Heap} {locs : List Loc} {cells slots : Nat} {Q : State → Prop}
variable {cc : ByteArray} {pc : Nat} {ls : Array Slot} {rest : List Value} {G : ek_G} {kd : Nat → Nat} {I : ek_St} {H0 : Heap} {A : Nat → Prop} {β : Type} {r : β}
/-- getfield, of whatever value; the link as the kit's two rows have it -/
theorem ek_getV (hexec : p.tables.exec = Jvm.exec) (hb : c.code = cc) {own C : String} {T : u_T} {N index : Nat} (kx : Nat) {Ts : List Cond} (hts : ∀ w ∈ Ts, w.before args s = true) (hin : ∀ w ∈ u_ws C T N, w ∈ Ts) (hown : s.vm.findClass own = some m.cls) (hK : ek_K G s) (hw : ek_W G kd I H) (hc : vwCl[kx - 1]? = some (C, T, N)) (h0 : kx ≠ 0) (h1 : kx < 20) (k : Nat) (hk : k < N) (hlink : (Cond.fieldLink own index (T k).1 (T k).2.1 (T k).2.2.1).before args s = true) {x : Nat} (hx : kd x = kx) (hdg : decode cc pc = .ok (.getfield index, 3))
    (kk : W p l e R s m args below meth c H locs cells slots Q (F0 m (pc + 3) ls (ek_V G kx x (I x) k :: rest))) : W p l e R s m args below meth c H locs cells slots Q (F0 m pc ls (ek_r G x :: rest)) := by
  rw [ek_r_ref (hw.nz (by rw [hx]; exact h0))]
  obtain ⟨cell, q1, q2, q3, q4⟩ := ek_W_obj hw hx h0 h1 hc
  obtain ⟨hS, hfc, kC, hkC, hkind⟩ := hK.1.1 (kx - 1) _ hc
  obtain ⟨cf, kf, fi, f, hi, hsl⟩ := hS k hk
  refine W.getf hexec hb hown hlink hi (u_facts hfc hkC (u_lays hts hin hk) hi).1 q1 (by rw [q3]; exact fun h => by cases h) (v := ek_V G kx x (I x) k) ?_ rfl rfl hdg kk
  rw [hsl]
  exact q4 k hk
theorem ek_getVN (hexec : p.tables.exec = Jvm.exec) (hb : c.code = cc) {own C host : String} {T : u_T} {N index : Nat} (kx : Nat) {Ts : List Cond} (hts : ∀ w ∈ Ts, w.before args s = true) (hin : ∀ w ∈ u_ws C T N, w ∈ Ts) (hown : s.vm.findClass own = some m.cls) (hK : ek_K G s) (hw : ek_W G kd I H) (hc : vwCl[kx - 1]? = some (C, T, N)) (h0 : kx ≠ 0) (h1 : kx < 20) (k : Nat) (hk : k < N) (hlink : (Cond.fieldLinkNest own index (T k).1 (T k).2.1 (T k).2.2.1 host).before args s = true) {x : Nat} (hx : kd x = kx) (hdg : decode cc pc = .ok (.getfield index, 3))
    (kk : W p l e R s m args below meth c H locs cells slots Q (F0 m (pc + 3) ls (ek_V G kx x (I x) k :: rest))) : W p l e R s m args below meth c H locs cells slots Q (F0 m pc ls (ek_r G x :: rest)) := by
  rw [ek_r_ref (hw.nz (by rw [hx]; exact h0))]
  obtain ⟨cell, q1, q2, q3, q4⟩ := ek_W_obj hw hx h0 h1 hc
  obtain ⟨hS, hfc, kC, hkC, hkind⟩ := hK.1.1 (kx - 1) _ hc
  obtain ⟨cf, kf, fi, f, hi, hsl⟩ := hS k hk
  refine va_Wgetf hexec hb hown hlink hi (u_facts hfc hkC (u_lays hts hin hk) hi).1 q1 (by rw [q3]; exact fun h => by cases h) (v := ek_V G kx x (I x) k) ?_ rfl rfl hdg kk
  rw [hsl]
  exact q4 k hk
theorem ek_V_int {kx x k : Nat} {f : Nat → Int32} (h : ek_ro kx k = 0) : ek_V G kx x f k = .int (f k) := by unfold ek_V; rw [if_pos h]
theorem ek_V_ref {kx x k n : Nat} {f : Nat → Int32} (h : ek_ro kx k = n + 1) : ek_V G kx x f k = ek_r G (x + (n + 1)) := by
  unfold ek_V
  rw [if_neg (by omega), ek_r_ref (by omega), h]
theorem ek_geti (hexec : p.tables.exec = Jvm.exec) (hb : c.code = cc) {own C : String} {T : u_T} {N index : Nat} (kx : Nat) {Ts : List Cond} (hts : ∀ w ∈ Ts, w.before args s = true) (hin : ∀ w ∈ u_ws C T N, w ∈ Ts) (hown : s.vm.findClass own = some m.cls) (hK : ek_K G s) (hw : ek_W G kd I H) (hc : vwCl[kx - 1]? = some (C, T, N)) (h0 : kx ≠ 0) (h1 : kx < 20) (k : Nat) (hk : k < N) (hro : ek_ro kx k = 0) (hlink : (Cond.fieldLink own index (T k).1 (T k).2.1 (T k).2.2.1).before args s = true) {x : Nat} {K : Option β} (hf : ek_ck (kd x = kx) K = some r) (hdg : decode cc pc = .ok (.getfield index, 3))
    (kk : K = some r → W p l e R s m args below meth c H locs cells slots Q (F0 m (pc + 3) ls (.int (I x k) :: rest))) : W p l e R s m args below meth c H locs cells slots Q (F0 m pc ls (ek_r G x :: rest)) := by
  obtain ⟨hx, hf⟩ := ek_ck_s hf
  refine ek_getV hexec hb kx hts hin hown hK hw hc h0 h1 k hk hlink hx hdg ?_
  rw [ek_V_int hro]
  exact kk hf
theorem ek_getr (hexec : p.tables.exec = Jvm.exec) (hb : c.code = cc) {own C : String} {T : u_T} {N index : Nat} (kx : Nat) {Ts : List Cond} (hts : ∀ w ∈ Ts, w.before args s = true) (hin : ∀ w ∈ u_ws C T N, w ∈ Ts) (hown : s.vm.findClass own = some m.cls) (hK : ek_K G s) (hw : ek_W G kd I H) (hc : vwCl[kx - 1]? = some (C, T, N)) (h0 : kx ≠ 0) (h1 : kx < 20) (k : Nat) (hk : k < N) {n n' : Nat} (hn : n' = n + 1) (hro : ek_ro kx k = n') (hlink : (Cond.fieldLink own index (T k).1 (T k).2.1 (T k).2.2.1).before args s = true) {x : Nat} {K : Option β} (hf : ek_ck (kd x = kx) K = some r) (hdg : decode cc pc = .ok (.getfield index, 3))
    (kk : K = some r → W p l e R s m args below meth c H locs cells slots Q (F0 m (pc + 3) ls (ek_r G (x + n') :: rest))) : W p l e R s m args below meth c H locs cells slots Q (F0 m pc ls (ek_r G x :: rest)) := by
  obtain ⟨hx, hf⟩ := ek_ck_s hf
  refine ek_getV hexec hb kx hts hin hown hK hw hc h0 h1 k hk hlink hx hdg ?_
  subst hn
  rw [ek_V_ref hro]
  exact kk hf
theorem ek_getiN (hexec : p.tables.exec = Jvm.exec) (hb : c.code = cc) {own C host : String} {T : u_T} {N index : Nat} (kx : Nat) {Ts : List Cond} (hts : ∀ w ∈ Ts, w.before args s = true) (hin : ∀ w ∈ u_ws C T N, w ∈ Ts) (hown : s.vm.findClass own = some m.cls) (hK : ek_K G s) (hw : ek_W G kd I H) (hc : vwCl[kx - 1]? = some (C, T, N)) (h0 : kx ≠ 0) (h1 : kx < 20) (k : Nat) (hk : k < N) (hro : ek_ro kx k = 0) (hlink : (Cond.fieldLinkNest own index (T k).1 (T k).2.1 (T k).2.2.1 host).before args s = true) {x : Nat} {K : Option β} (hf : ek_ck (kd x = kx) K = some r) (hdg : decode cc pc = .ok (.getfield index, 3))
    (kk : K = some r → W p l e R s m args below meth c H locs cells slots Q (F0 m (pc + 3) ls (.int (I x k) :: rest))) : W p l e R s m args below meth c H locs cells slots Q (F0 m pc ls (ek_r G x :: rest)) := by
  obtain ⟨hx, hf⟩ := ek_ck_s hf
  refine ek_getVN hexec hb kx hts hin hown hK hw hc h0 h1 k hk hlink hx hdg ?_
  rw [ek_V_int hro]
  exact kk hf
theorem ek_getrN (hexec : p.tables.exec = Jvm.exec) (hb : c.code = cc) {own C host : String} {T : u_T} {N index : Nat} (kx : Nat) {Ts : List Cond} (hts : ∀ w ∈ Ts, w.before args s = true) (hin : ∀ w ∈ u_ws C T N, w ∈ Ts) (hown : s.vm.findClass own = some m.cls) (hK : ek_K G s) (hw : ek_W G kd I H) (hc : vwCl[kx - 1]? = some (C, T, N)) (h0 : kx ≠ 0) (h1 : kx < 20) (k : Nat) (hk : k < N) {n n' : Nat} (hn : n' = n + 1) (hro : ek_ro kx k = n') (hlink : (Cond.fieldLinkNest own index (T k).1 (T k).2.1 (T k).2.2.1 host).before args s = true) {x : Nat} {K : Option β} (hf : ek_ck (kd x = kx) K = some r) (hdg : decode cc pc = .ok (.getfield index, 3))
    (kk : K = some r → W p l e R s m args below meth c H locs cells slots Q (F0 m (pc + 3) ls (ek_r G (x + n') :: rest))) : W p l e R s m args below meth c H locs cells slots Q (F0 m pc ls (ek_r G x :: rest)) := by
  obtain ⟨hx, hf⟩ := ek_ck_s hf
  refine ek_getVN hexec hb kx hts hin hown hK hw hc h0 h1 k hk hlink hx hdg ?_
  subst hn
  rw [ek_V_ref hro]
  exact kk hf
theorem ek_V_upd {kx x k : Nat} {f : Nat → Int32} {v : Int32} (h : ek_ro kx k = 0) : updV (ek_V G kx x f) k (.int v) = ek_V G kx x (upd f k v) := by
  funext j
  unfold updV
  by_cases hj : j = k
  · subst hj
    rw [if_pos rfl, ek_V_int h]
    simp [upd]
  · rw [if_neg hj]
    unfold ek_V
    simp [upd, hj]
theorem ek_apart {own C : String} {T : u_T} {N ci : Nat} {Ts : List Cond} (hts : ∀ w ∈ Ts, w.before args s = true) (hin : ∀ w ∈ u_ws C T N, w ∈ Ts) (ty : Nat → FieldType) (hty : ∀ k, k < N → parseFieldDescriptor (T k).2.2.1 = some (ty k)) (hnm : ∀ a, a < N → ∀ b, b < N → a ≠ b → (T a).2.1 ≠ (T b).2.1) (hK : ek_K G s) (hc : vwCl[ci]? = some (C, T, N)) : ∀ x y, x < N → y < N → x ≠ y → (G.1.2 ci) x ≠ (G.1.2 ci) y := va_apart (own := own) hts hin ty hty hnm hK.1 hc
theorem ek_puti (hexec : p.tables.exec = Jvm.exec) (hb : c.code = cc) {own C : String} {T : u_T} {N index : Nat} (kx : Nat) {Ts : List Cond} (hts : ∀ w ∈ Ts, w.before args s = true) (hin : ∀ w ∈ u_ws C T N, w ∈ Ts) (ty0 : Nat → FieldType) (hty : ∀ k, k < N → parseFieldDescriptor (T k).2.2.1 = some (ty0 k)) (hnm : ∀ a, a < N → ∀ b, b < N → a ≠ b → (T a).2.1 ≠ (T b).2.1) (hown : s.vm.findClass own = some m.cls) (hK : ek_K G s) (hw : ek_W G kd I H) (hS0 : va_S A H0 H locs) (hA : ∀ q, ek_A G kd q → A q) (hc : vwCl[kx - 1]? = some (C, T, N)) (h0 : kx ≠ 0) (h1 : kx < 20) (k : Nat) (hk : k < N) (hro : ek_ro kx k = 0) (hlink : (Cond.fieldLink own index (T k).1 (T k).2.1 (T k).2.2.1).before args s = true) (hfin : (T k).2.2.2 = false) {v : Int32} (hn : narrow (ty0 k) (.int v) = .int v) (hfit : fits (ty0 k) (.int v) = true) {x : Nat} {K : ek_St → Option β} (hf : ek_ck (kd x = kx) (ek_let (ek_up I x k v) K) = some r)
    (hdg : decode cc pc = .ok (.putfield index, 3)) (kk : ∀ (I2 : ek_St) (H1 : Heap) (locs1 : List Loc), K I2 = some r → ek_W G kd I2 H1 → va_S A H0 H1 locs1 → W p l e R s m args below meth c H1 locs1 cells slots Q (F0 m (pc + 3) ls rest)) : W p l e R s m args below meth c H locs cells slots Q (F0 m pc ls (.int v :: ek_r G x :: rest)) := by
  obtain ⟨hx, hf⟩ := ek_ck_s hf
  have hx0 : kd x ≠ 0 := by rw [hx]; exact h0
  rw [ek_r_ref (hw.nz hx0)]
  have hap := ek_apart (own := own) hts hin ty0 hty hnm hK hc
  obtain ⟨cell, q1, q2, q3, q4⟩ := ek_W_obj hw hx h0 h1 hc
  obtain ⟨hS, hfc, kC, hkC, hkind⟩ := hK.1.1 (kx - 1) _ hc
  obtain ⟨cf, kf, fi, f, hi, hsl⟩ := hS k hk
  have hlay := hts _ (hin _ (u_in_lay hk))
  unfold u_lay at hlay
  rw [if_neg (by rw [hfin]; decide)] at hlay
  have hst := (u_facts hfc hkC (u_lays hts hin hk) hi).1
  have h6 := u_store hfc hkC hkind hlay hi (hty k hk) hn hfit
  refine W.putK hexec hb (f := f) ⟨hown, hlink, ⟨_, _, _, hi⟩, hst⟩ (by rw [q2]; exact h6) q1 q3 (by rw [hsl]; exact k2_hasslot (q4 k hk)) rfl rfl hdg fun H' e1 e2 e3 => ?_
  rw [hsl] at e1 ⊢
  refine kk (ek_up I x k v) H' _ hf (ek_W_put hw ?_ e3) (hS0.put e2 e3 (ek_S_A hA hx0))
  rw [hx]
  exact ek_at_obj h1 hc (t_OB.to (V := updV (ek_V G kx x (I x)) k (.int v)) ⟨_, e1, q2, q3, t_set q4 hap hk (.int v)⟩ (fun j _ => by rw [ek_V_upd hro]))
theorem ek_putiN (hexec : p.tables.exec = Jvm.exec) (hb : c.code = cc) {own C host : String} {T : u_T} {N index : Nat} (kx : Nat) {Ts : List Cond} (hts : ∀ w ∈ Ts, w.before args s = true) (hin : ∀ w ∈ u_ws C T N, w ∈ Ts) (ty0 : Nat → FieldType) (hty : ∀ k, k < N → parseFieldDescriptor (T k).2.2.1 = some (ty0 k)) (hnm : ∀ a, a < N → ∀ b, b < N → a ≠ b → (T a).2.1 ≠ (T b).2.1) (hown : s.vm.findClass own = some m.cls) (hK : ek_K G s) (hw : ek_W G kd I H) (hS0 : va_S A H0 H locs) (hA : ∀ q, ek_A G kd q → A q) (hc : vwCl[kx - 1]? = some (C, T, N)) (h0 : kx ≠ 0) (h1 : kx < 20) (k : Nat) (hk : k < N) (hro : ek_ro kx k = 0) (hlink : (Cond.fieldLinkNest own index (T k).1 (T k).2.1 (T k).2.2.1 host).before args s = true) (hfin : (T k).2.2.2 = false) {v : Int32} (hn : narrow (ty0 k) (.int v) = .int v) (hfit : fits (ty0 k) (.int v) = true) {x : Nat} {K : ek_St → Option β} (hf : ek_ck (kd x = kx) (ek_let (ek_up I x k v) K) = some r)
    (hdg : decode cc pc = .ok (.putfield index, 3)) (kk : ∀ (I2 : ek_St) (H1 : Heap) (locs1 : List Loc), K I2 = some r → ek_W G kd I2 H1 → va_S A H0 H1 locs1 → W p l e R s m args below meth c H1 locs1 cells slots Q (F0 m (pc + 3) ls rest)) : W p l e R s m args below meth c H locs cells slots Q (F0 m pc ls (.int v :: ek_r G x :: rest)) := by
  obtain ⟨hx, hf⟩ := ek_ck_s hf
  have hx0 : kd x ≠ 0 := by rw [hx]; exact h0
  rw [ek_r_ref (hw.nz hx0)]
  have hap := ek_apart (own := own) hts hin ty0 hty hnm hK hc
  obtain ⟨cell, q1, q2, q3, q4⟩ := ek_W_obj hw hx h0 h1 hc
  obtain ⟨hS, hfc, kC, hkC, hkind⟩ := hK.1.1 (kx - 1) _ hc
  obtain ⟨cf, kf, fi, f, hi, hsl⟩ := hS k hk
  have hlay := hts _ (hin _ (u_in_lay hk))
  unfold u_lay at hlay
  rw [if_neg (by rw [hfin]; decide)] at hlay
  have hst := (u_facts hfc hkC (u_lays hts hin hk) hi).1
  have h6 := u_store hfc hkC hkind hlay hi (hty k hk) hn hfit
  refine va_WputK hexec hb (f := f) hown hlink hi hst (by rw [q2]; exact h6) q1 q3 (by rw [hsl]; exact k2_hasslot (q4 k hk)) rfl rfl hdg fun H' e1 e2 e3 => ?_
  rw [hsl] at e1 ⊢
  refine kk (ek_up I x k v) H' _ hf (ek_W_put hw ?_ e3) (hS0.put e2 e3 (ek_S_A hA hx0))
  rw [hx]
  exact ek_at_obj h1 hc (t_OB.to (V := updV (ek_V G kx x (I x)) k (.int v)) ⟨_, e1, q2, q3, t_set q4 hap hk (.int v)⟩ (fun j _ => by rw [ek_V_upd hro]))
/-! arrays -/
theorem ek_iald (hexec : p.tables.exec = Jvm.exec) (hb : c.code = cc) (hK : ek_K G s) (hw : ek_W G kd I H) (n : Nat) {k : Nat} (hkn : k = 100 + n) {i : Int32} {x : Nat} {K : Option β} (hf : ek_ck (kd x = k) (ek_ck (ek_in i n) K) = some r) (hdg : decode cc pc = .ok (.iaload, 1))
    (kk : K = some r → W p l e R s m args below meth c H locs cells slots Q (F0 m (pc + 1) ls (.int (I x i.toNatClampNeg) :: rest))) : W p l e R s m args below meth c H locs cells slots Q (F0 m pc ls (.int i :: ek_r G x :: rest)) := by
  subst hkn
  obtain ⟨hx, hf⟩ := ek_ck_s hf
  obtain ⟨hin, hf⟩ := ek_ck_s hf
  rw [ek_r_ref (hw.nz (by rw [hx]; omega))]
  have hlt : i.toNatClampNeg < n := Nat.not_le.mp fun q => hin (Or.inr q)
  exact W.iald (v := .int (I x i.toNatClampNeg)) hexec hb (ek_W_int hw hx) ((hK.1.2 0 _ rfl).1 n (fun j => .int (I x j))) (fun q => by cases q) (by show ¬ (i < 0 ∨ (arrV _ _ _).slots.size ≤ _); rw [arrV_size]; exact hin) (by show (arrV _ _ _).slots[_]? = _; rw [arrV_read _ _ hlt]) rfl rfl hdg (kk hf)
theorem ek_zald (hexec : p.tables.exec = Jvm.exec) (hb : c.code = cc) (hK : ek_K G s) (hw : ek_W G kd I H) {i : Int32} {x : Nat} {K : Option β} (hf : ek_ck (kd x = 50) (ek_ck (ek_in i 12) K) = some r) (hdg : decode cc pc = .ok (.baload, 1))
    (kk : K = some r → W p l e R s m args below meth c H locs cells slots Q (F0 m (pc + 1) ls (.int (I x i.toNatClampNeg) :: rest))) : W p l e R s m args below meth c H locs cells slots Q (F0 m pc ls (.int i :: ek_r G x :: rest)) := by
  obtain ⟨hx, hf⟩ := ek_ck_s hf
  obtain ⟨hin, hf⟩ := ek_ck_s hf
  rw [ek_r_ref (hw.nz (by rw [hx]; omega))]
  have hlt : i.toNatClampNeg < 12 := Nat.not_le.mp fun q => hin (Or.inr q)
  exact W.zald (v := .int (I x i.toNatClampNeg)) hexec hb (ek_W_bool hw hx) ((hK.1.2 1 _ rfl).1 12 (fun j => .int (I x j))) (fun q => by cases q) (by show ¬ (i < 0 ∨ (arrV _ _ _).slots.size ≤ _); rw [arrV_size]; exact hin) (by show (arrV _ _ _).slots[_]? = _; rw [arrV_read _ _ hlt]) rfl rfl hdg (kk hf)
theorem ek_aald (hexec : p.tables.exec = Jvm.exec) (hb : c.code = cc) (hK : ek_K G s) (hw : ek_W G kd I H) {i : Int32} {x : Nat} {K : Option β} (hf : ek_ck (kd x = 60) (ek_ck (ek_in i 12) K) = some r) (hdg : decode cc pc = .ok (.aaload, 1))
    (kk : K = some r → W p l e R s m args below meth c H locs cells slots Q (F0 m (pc + 1) ls (ek_r G (I x i.toNatClampNeg).toNatClampNeg :: rest))) : W p l e R s m args below meth c H locs cells slots Q (F0 m pc ls (.int i :: ek_r G x :: rest)) := by
  obtain ⟨hx, hf⟩ := ek_ck_s hf
  obtain ⟨hin, hf⟩ := ek_ck_s hf
  rw [ek_r_ref (hw.nz (by rw [hx]; omega))]
  have hlt : i.toNatClampNeg < 12 := Nat.not_le.mp fun q => hin (Or.inr q)
  have kk := kk hf
  rw [← ek_o_r] at kk
  exact W.aald (v := va_rf (ek_o G (I x i.toNatClampNeg).toNatClampNeg)) (ty := .object ek_TaskC) hexec hb (ek_W_row hw hx) ((hK.1.2 2 _ rfl).1 12 (fun j => va_rf (ek_o G (I x j).toNatClampNeg))) rfl (fun q => by cases q) (by show ¬ (i < 0 ∨ (arrV _ _ _).slots.size ≤ _); rw [arrV_size]; exact hin) (by show (arrV _ _ _).slots[_]? = _; rw [arrV_read _ _ hlt]) rfl rfl hdg kk
theorem ek_iast (hexec : p.tables.exec = Jvm.exec) (hb : c.code = cc) (hK : ek_K G s) (hw : ek_W G kd I H) (hS : va_S A H0 H locs) (hA : ∀ q, ek_A G kd q → A q) (n : Nat) {k : Nat} (hkn : k = 100 + n) {i v : Int32} {x : Nat} {K : ek_St → Option β} (hf : ek_ck (kd x = k) (ek_ck (ek_in i n) (ek_let (ek_up I x i.toNatClampNeg v) K)) = some r) (hdg : decode cc pc = .ok (.iastore, 1))
    (kk : ∀ (I2 : ek_St) (H1 : Heap) (locs1 : List Loc), K I2 = some r → ek_W G kd I2 H1 → va_S A H0 H1 locs1 → W p l e R s m args below meth c H1 locs1 cells slots Q (F0 m (pc + 1) ls rest)) : W p l e R s m args below meth c H locs cells slots Q (F0 m pc ls (.int v :: .int i :: ek_r G x :: rest)) := by
  subst hkn
  obtain ⟨hx, hf⟩ := ek_ck_s hf
  obtain ⟨hin, hf⟩ := ek_ck_s hf
  have hx0 : kd x ≠ 0 := by rw [hx]; omega
  rw [ek_r_ref (hw.nz hx0)]
  refine W.iast hexec hb (ek_W_int hw hx) ((hK.1.2 0 _ rfl).1 n (fun j => .int (I x j))) (fun q => by cases q) (by show ¬ (i < 0 ∨ (arrV _ _ _).slots.size ≤ _); rw [arrV_size]; exact hin) rfl rfl hdg fun H1 e z oq => ?_
  refine kk _ H1 _ hf (ek_W_put hw ?_ oq) (hS.put z oq (ek_S_A hA hx0))
  rw [hx]
  refine ek_at_int ?_
  rw [e, vp_cell_i, vp_cell_i, arrV_store]
  congr 2
  funext q
  by_cases hq : q = i.toNatClampNeg
  · subst hq
    simp [updV, upd]
  · simp [updV, upd, hq]
theorem ek_zast (hexec : p.tables.exec = Jvm.exec) (hb : c.code = cc) (hK : ek_K G s) (hw : ek_W G kd I H) (hS : va_S A H0 H locs) (hA : ∀ q, ek_A G kd q → A q) {i v : Int32} {x : Nat} {K : ek_St → Option β} (hf : ek_ck (kd x = 50) (ek_ck (ek_in i 12) (ek_ck (v = 0 ∨ v = 1) (ek_let (ek_up I x i.toNatClampNeg v) K))) = some r) (hdg : decode cc pc = .ok (.bastore, 1))
    (kk : ∀ (I2 : ek_St) (H1 : Heap) (locs1 : List Loc), K I2 = some r → ek_W G kd I2 H1 → va_S A H0 H1 locs1 → W p l e R s m args below meth c H1 locs1 cells slots Q (F0 m (pc + 1) ls rest)) : W p l e R s m args below meth c H locs cells slots Q (F0 m pc ls (.int v :: .int i :: ek_r G x :: rest)) := by
  obtain ⟨hx, hf⟩ := ek_ck_s hf
  obtain ⟨hin, hf⟩ := ek_ck_s hf
  obtain ⟨hv, hf⟩ := ek_ck_s hf
  have hx0 : kd x ≠ 0 := by rw [hx]; omega
  rw [ek_r_ref (hw.nz hx0)]
  refine W.zast hexec hb (ek_W_bool hw hx) ((hK.1.2 1 _ rfl).1 12 (fun j => .int (I x j))) (fun q => by cases q) (by show ¬ (i < 0 ∨ (arrV _ _ _).slots.size ≤ _); rw [arrV_size]; exact hin) rfl rfl hdg fun H1 e z oq => ?_
  refine kk _ H1 _ hf (ek_W_put hw ?_ oq) (hS.put z oq (ek_S_A hA hx0))
  rw [hx]
  refine ek_at_bool ?_
  have hv2 : narrow .boolean (.int v) = .int v := by rcases hv with h | h <;> subst h <;> rfl
  rw [e, hv2, vp_cell_i, vp_cell_i, arrV_store]
  congr 2
  funext q
  by_cases hq : q = i.toNatClampNeg
  · subst hq
    simp [updV, upd]
  · simp [updV, upd, hq]
theorem ek_aast (hexec : p.tables.exec = Jvm.exec) (hb : c.code = cc) (hK : ek_K G s) (hw : ek_W G kd I H) (hS : va_S A H0 H locs) (hA : ∀ q, ek_A G kd q → A q) (kx : Nat) {T : u_T} {N : Nat} (hc : vwCl[kx - 1]? = some (ek_TaskC, T, N)) (h0 : kx ≠ 0) (h1 : kx < 20) {i : Int32} {x y : Nat} {K : ek_St → Option β} (hf : ek_ck (kd x = 60) (ek_ck (ek_in i 12) (ek_ck (kd y = kx ∧ y < 2147483648) (ek_let (ek_up I x i.toNatClampNeg (nI y)) K))) = some r) (hdg : decode cc pc = .ok (.aastore, 1))
    (kk : ∀ (I2 : ek_St) (H1 : Heap) (locs1 : List Loc), K I2 = some r → ek_W G kd I2 H1 → va_S A H0 H1 locs1 → W p l e R s m args below meth c H1 locs1 cells slots Q (F0 m (pc + 1) ls rest)) : W p l e R s m args below meth c H locs cells slots Q (F0 m pc ls (ek_r G y :: .int i :: ek_r G x :: rest)) := by
  obtain ⟨hx, hf⟩ := ek_ck_s hf
  obtain ⟨hin, hf⟩ := ek_ck_s hf
  obtain ⟨⟨hy, hy2⟩, hf⟩ := ek_ck_s hf
  have hx0 : kd x ≠ 0 := by rw [hx]; omega
  have hy0 : y ≠ 0 := hw.nz (by rw [hy]; exact h0)
  rw [ek_r_ref (hw.nz hx0), ek_r_ref hy0]
  have hlt : i.toNatClampNeg < 12 := Nat.not_le.mp fun q => hin (Or.inr q)
  have hi0 : ¬ i < 0 := fun q => hin (Or.inl q)
  obtain ⟨cellV, g1, g2, g3, -⟩ := ek_W_obj hw hy h0 h1 hc
  have hcls := (hK.1.1 (kx - 1) _ hc).2
  obtain ⟨kA, comp, k1, k2, k3, -⟩ := (hK.1.2 2 _ rfl).2
  have hcomp : comp = G.1.1 (kx - 1) := Option.some.inj (k3.symm.trans hcls.1)
  subst hcomp
  obtain ⟨kC, hkC, -⟩ := hcls.2
  refine W.aast hexec hb (ek_W_row hw hx) (fun q h => by cases h) (fun h => by cases h) k1 k2 rfl hkC ⟨hi0, by show _ < (arrV _ _ _).slots.size; rw [arrV_size]; exact hlt⟩ g1 (fun q h => by rw [g3] at h; cases h) (by rw [g2]; exact hkC) (by rw [g2]; exact va_assign hcls) rfl rfl hdg fun H1 e z oq => ?_
  refine kk _ H1 _ hf (ek_W_put hw ?_ oq) (hS.put z oq (ek_S_A hA hx0))
  rw [hx]
  refine ek_at_row ?_
  rw [e, vp_cell_q, vp_cell_q, arrV_store]
  congr 2
  funext q
  by_cases hq : q = i.toNatClampNeg
  · subst hq
    simp [updV, upd, nI_clamp hy2, ek_o, hy0, va_rf]
  · simp [updV, upd, hq]
end EKH
/-! contracts -/
def ek_B (G : ek_G) (kd : Nat → Nat) (I : ek_St) (U : State) : Prop := ek_W G kd I U.heap ∧ ek_K G U
def ek_Q (G : ek_G) (kd : Nat → Nat) (rv : Option Value) (I' : ek_St) : Array Value → State → Outcome → State → Prop := fun _ st oc t => oc = .returned rv ∧ ek_W G kd I' t.heap ∧ va_F (ek_A G kd) st t
abbrev ek_M (l : Launch) (G : ek_G) (kd : Nat → Nat) (y : MethodName) (ws : List Cond) (rm : Room) (av : List Value) (I : ek_St) (rv : Option Value) (I' : ek_St) : Prop := Met l y ws rm (va_Pc av (ek_B G kd I)) (ek_Q G kd rv I') 0 0 (ek_A G kd)
theorem ek_nest_f {w : Cond} (h : w ∈ ek_nest) : ∃ (a : String) (i : Nat) (b n d h : String), w = .fieldLinkNest a i b n d h := by
  simp only [ek_nest, List.mem_cons, List.not_mem_nil, or_false] at h
  rcases h with rfl | rfl | rfl | rfl | rfl | rfl | rfl | rfl | rfl | rfl | rfl | rfl | rfl | rfl | rfl | rfl | rfl | rfl | rfl | rfl | rfl | rfl | rfl | rfl | rfl | rfl | rfl | rfl | rfl | rfl | rfl <;> exact ⟨_, _, _, _, _, _, rfl⟩
theorem ek_K_warm {G : ek_G} {s U : State} (hW : s.WarmedH U.vm) (h : ek_K G s) : ek_K G U := ⟨va_K.moved hW.alike h.1, fun w hw => by
  obtain ⟨a, i, b, n, d, k, rfl⟩ := ek_nest_f hw
  exact va_Nw.warmF hW (h.2 _ hw)⟩
theorem ek_K_same {G : ek_G} {u U : State} (hv : u.vm = U.vm) (h : ek_K G u) : ek_K G U := ⟨va_K.moved (by rw [hv]; exact Vm.Alike.refl _) h.1, fun w hw => by
  obtain ⟨a, i, b, n, d, k, rfl⟩ := ek_nest_f hw
  exact va_Nw.same rfl hv (h.2 _ hw)⟩
theorem ek_blind {G : ek_G} {kd : Nat → Nat} {I : ek_St} {av : List Value} : FrameBlind (va_Pc av (ek_B G kd I)) := fun a U g mk q => ⟨q.1, q.2.1, ek_K_same (u := U) (U := U.calling g mk a) rfl q.2.2⟩
theorem ek_preS {s : State} {H : Heap} {G : ek_G} {kd : Nat → Nat} {I : ek_St} {av : List Value} (hw : ek_W G kd I H) (hK : ek_K G s) : PreS s H (va_Pc av (ek_B G kd I)) av := ⟨ek_blind, fun U hU hW => ⟨rfl, by rw [hU]; exact hw, ek_K_warm hW hK⟩⟩
theorem ek_preV {s : State} {H : Heap} {G : ek_G} {kd : Nat → Nat} {I : ek_St} {As : List Value} (hw : ek_W G kd I H) (hK : ek_K G s) (kx : Nat) {q : vw_C} (hc : vwCl[kx - 1]? = some q) (h0 : kx ≠ 0) (h1 : kx < 20) {x : Nat} (hx : kd x = kx) : PreV s H q.1 (G.2.2 + x) (va_Pc (.ref (G.2.2 + x) :: As) (ek_B G kd I)) As := by
  obtain ⟨cell, q1, q2, q3, -⟩ := ek_W_obj hw hx h0 h1 hc
  exact ⟨ek_blind, ⟨cell, q1, by rw [q3]; rfl, by rw [q2]; exact (hK.1.1 (kx - 1) q hc).2.1⟩, fun U hU hW => ⟨rfl, by rw [hU]; exact hw, ek_K_warm hW hK⟩⟩
theorem ek_rest {rest : List Value} (h : rest.length ≤ 4) : (rest.map fun v => v.category).sum ≤ 8 := by
  have key : ∀ r : List Value, (r.map fun v => v.category).sum ≤ 2 * r.length := by
    intro r
    induction r with
    | nil => simp
    | cons v t ih =>
      rcases lv_cat v with h | h <;> simp [h] <;> omega
  have := key rest
  omega
section EKC
variable {p : Program} {l : Launch} {e : Env} {R : Room} {s : State} {m : MethodId} {args : Array Value} {below : List Frame} {meth : Method} {c : Code} {H : Heap} {locs : List Loc} {cells slots : Nat} {Q : State → Prop}
variable {cc : ByteArray} {pc : Nat} {ls : Array Slot} {rest st0 : List Value} {G : ek_G} {kd : Nat → Nat} {I I' : ek_St} {H0 : Heap} {A : Nat → Prop} {β : Type} {r : β} {rv : Option Value} {a : Array Value}
variable {y : MethodName} {bytes : ByteArray} {maxL nL n index : Nat} {ret : Option FieldType} {ws : List Cond} {rm : Room} {Ts : List Cond} {own C host : String} {As : List Value}
theorem ek_run (hr : va_Run p l e R s m args below meth c H locs cells slots 0 0 (F0 m pc ls st0) rest (ek_Q G kd rv I' a) (ek_A G kd)) (hS : va_S A H0 H locs) (hA : ∀ q, ek_A G kd q → A q)
    (kk : ∀ (H1 : Heap) (locs1 : List Loc), ek_W G kd I' H1 → va_S A H0 H1 locs1 → W p l e R s m args below meth c H1 locs1 cells slots Q (F0 m (pc + 3) ls (rv.toList ++ rest))) : W p l e R s m args below meth c H locs cells slots Q (F0 m pc ls st0) := by
  intro T hT X
  obtain ⟨v, st₀, t, T', L, h0, X', hL, e1, e2, ⟨hv, hw, hz, hk⟩, st⟩ := hr T hT X
  cases hv
  rw [h0] at hz hk
  obtain ⟨t2, a1, b1⟩ := kk T'.heap (locs ++ L) (by rw [e1]; exact hw)
    ⟨Nat.le_trans hS.1 (by rw [e1]; exact hz), fun q h1 h2 => by rw [e1, hk q (Nat.lt_of_lt_of_le h1 hS.1) (fun z => h2 (hA q z))]; exact hS.2.1 q h1 h2, fun q hq => by
      rcases List.mem_append.mp hq with h | h
      · exact hS.2.2 q h
      · exact hA _ (hL q h)⟩ T' rfl X'
  exact ⟨t2, st t2 a1, b1⟩
theorem ek_rV (S : CallFix p m c cc nL s args Ts own) (hK : ek_K G s) (hw : ek_W G kd I H) (kx : Nat) {T : u_T} {N x : Nat} (hc : vwCl[kx - 1]? = some (C, T, N)) (h0 : kx ≠ 0) (h1 : kx < 20) (hx : kd x = kx) (hM : ek_M l G kd y ws rm (ek_r G x :: As) I rv I') (cw : CallW R s args own C index y bytes maxL ret ws rm 0 0 n) (hn : As.length = n) (hsize : ls.size = nL) (hst : st0 = As.reverse ++ ek_r G x :: rest) (hr4 : rest.length ≤ 4) (hdg : decode cc pc = .ok (.invokevirtual index, 3)) (hcs : cells ≤ R.cells ∧ slots ≤ R.slots) :
    va_Run p l e R s m args below meth c H locs cells slots 0 0 (F0 m pc ls st0) rest (ek_Q G kd rv I' (Value.ref (G.2.2 + x) :: As).toArray) (ek_A G kd) := by
  rw [ek_r_ref (hw.nz (by rw [hx]; exact h0))] at hM hst
  exact va_runV S hM cw (ek_preV hw hK kx hc h0 h1 hx) rfl hn hsize hst (lv_room (ek_rest hr4)) hdg hcs
theorem ek_rVN (S : CallFix p m c cc nL s args Ts own) (hK : ek_K G s) (hw : ek_W G kd I H) (kx : Nat) {T : u_T} {N x : Nat} (hc : vwCl[kx - 1]? = some (C, T, N)) (h0 : kx ≠ 0) (h1 : kx < 20) (hx : kd x = kx) (hM : ek_M l G kd y ws rm (ek_r G x :: As) I rv I') (cw : va_CN R s args own index y host bytes maxL ret ws rm 0 0 n ∧ (Cond.instanceMethod y).before args s = true ∧ (Cond.selects C y y).before args s = true) (hn : As.length = n) (hsize : ls.size = nL) (hst : st0 = As.reverse ++ ek_r G x :: rest) (hr4 : rest.length ≤ 4) (hdg : decode cc pc = .ok (.invokevirtual index, 3)) (hcs : cells ≤ R.cells ∧ slots ≤ R.slots) :
    va_Run p l e R s m args below meth c H locs cells slots 0 0 (F0 m pc ls st0) rest (ek_Q G kd rv I' (Value.ref (G.2.2 + x) :: As).toArray) (ek_A G kd) := by
  rw [ek_r_ref (hw.nz (by rw [hx]; exact h0))] at hM hst
  exact va_runVN S hM cw (ek_preV hw hK kx hc h0 h1 hx) rfl hn hsize hst (lv_room (ek_rest hr4)) hdg hcs
theorem ek_rS (S : CallFix p m c cc nL s args Ts own) (hK : ek_K G s) (hw : ek_W G kd I H) (hM : ek_M l G kd y ws rm As I rv I') (cw : CallB R s args own index y bytes maxL ret ws rm 0 0 n ∧ (Cond.static y).before args s = true) (hn : As.length = n) (hsize : ls.size = nL) (hst : st0 = As.reverse ++ rest) (hr4 : rest.length ≤ 4) (hdg : decode cc pc = .ok (.invokestatic index, 3)) (hcs : cells ≤ R.cells ∧ slots ≤ R.slots) :
    va_Run p l e R s m args below meth c H locs cells slots 0 0 (F0 m pc ls st0) rest (ek_Q G kd rv I' As.toArray) (ek_A G kd) :=
  va_runS S hM cw (ek_preS hw hK) rfl hn hsize hst (lv_room (ek_rest hr4)) hdg hcs
theorem ek_rSN (S : CallFix p m c cc nL s args Ts own) (hK : ek_K G s) (hw : ek_W G kd I H) (hM : ek_M l G kd y ws rm As I rv I') (cw : va_CN R s args own index y host bytes maxL ret ws rm 0 0 n ∧ (Cond.static y).before args s = true ∧ True) (hn : As.length = n) (hsize : ls.size = nL) (hst : st0 = As.reverse ++ rest) (hr4 : rest.length ≤ 4) (hdg : decode cc pc = .ok (.invokestatic index, 3)) (hcs : cells ≤ R.cells ∧ slots ≤ R.slots) :
    va_Run p l e R s m args below meth c H locs cells slots 0 0 (F0 m pc ls st0) rest (ek_Q G kd rv I' As.toArray) (ek_A G kd) :=
  va_runSN S hM cw (ek_preS hw hK) rfl hn hsize hst (lv_room (ek_rest hr4)) hdg hcs
theorem ek_ci {fc : Option (ek_St × Int32)} {K : ek_St → Int32 → Option β} (hf : ek_bi fc K = some r) (hS : va_S A H0 H locs) (hA : ∀ q, ek_A G kd q → A q)
    (hr : ∀ (I' : ek_St) (v : Int32), fc = some (I', v) → va_Run p l e R s m args below meth c H locs cells slots 0 0 (F0 m pc ls st0) rest (ek_Q G kd (some (.int v)) I' a) (ek_A G kd))
    (kk : ∀ (I2 : ek_St) (v : Int32) (H1 : Heap) (locs1 : List Loc), K I2 v = some r → ek_W G kd I2 H1 → va_S A H0 H1 locs1 → W p l e R s m args below meth c H1 locs1 cells slots Q (F0 m (pc + 3) ls (.int v :: rest))) : W p l e R s m args below meth c H locs cells slots Q (F0 m pc ls st0) := by
  obtain ⟨I2, v, e1, hf⟩ := ek_bi_s hf
  exact ek_run (hr I2 v e1) hS hA (fun H1 locs1 hw hS => kk I2 v H1 locs1 hf hw hS)
theorem ek_cr {fc : Option (ek_St × Nat)} {K : ek_St → Nat → Option β} (hf : ek_bi fc K = some r) (hS : va_S A H0 H locs) (hA : ∀ q, ek_A G kd q → A q)
    (hr : ∀ (I' : ek_St) (v : Nat), fc = some (I', v) → va_Run p l e R s m args below meth c H locs cells slots 0 0 (F0 m pc ls st0) rest (ek_Q G kd (some (ek_r G v)) I' a) (ek_A G kd))
    (kk : ∀ (I2 : ek_St) (v : Nat) (H1 : Heap) (locs1 : List Loc), K I2 v = some r → ek_W G kd I2 H1 → va_S A H0 H1 locs1 → W p l e R s m args below meth c H1 locs1 cells slots Q (F0 m (pc + 3) ls (ek_r G v :: rest))) : W p l e R s m args below meth c H locs cells slots Q (F0 m pc ls st0) := by
  obtain ⟨I2, v, e1, hf⟩ := ek_bi_s hf
  exact ek_run (hr I2 v e1) hS hA (fun H1 locs1 hw hS => kk I2 v H1 locs1 hf hw hS)
theorem ek_cv {fc : Option ek_St} {K : ek_St → Option β} (hf : ek_bv fc K = some r) (hS : va_S A H0 H locs) (hA : ∀ q, ek_A G kd q → A q)
    (hr : ∀ I' : ek_St, fc = some I' → va_Run p l e R s m args below meth c H locs cells slots 0 0 (F0 m pc ls st0) rest (ek_Q G kd none I' a) (ek_A G kd))
    (kk : ∀ (I2 : ek_St) (H1 : Heap) (locs1 : List Loc), K I2 = some r → ek_W G kd I2 H1 → va_S A H0 H1 locs1 → W p l e R s m args below meth c H1 locs1 cells slots Q (F0 m (pc + 3) ls rest)) : W p l e R s m args below meth c H locs cells slots Q (F0 m pc ls st0) := by
  obtain ⟨I2, e1, hf⟩ := ek_bv_s hf
  exact ek_run (hr I2 e1) hS hA (fun H1 locs1 hw hS => kk I2 H1 locs1 hf hw hS)
theorem ek_iret (hexec : p.tables.exec = Jvm.exec) (hb : c.code = cc) (hr : meth.sig.returnType = some .int) (hlocks : meth.locks = false) (hw : ek_W G kd I H) (hS : va_S (ek_A G kd) s.heap H locs) {v : Int32} {q : ek_St × Int32} (hf : some (I, v) = some q) (hdg : decode cc pc = .ok (.ireturn, 1)) : W p l e R s m args below meth c H locs 0 0 (MQ below (ek_Q G kd (some (.int q.2)) q.1) args s 0 0 (ek_A G kd)) (F0 m pc ls [.int v]) := by
  cases hf
  exact W.iret hexec hb hr (fun t ht hW => ⟨rfl, by rw [ht]; exact hw, hS.F ht⟩) hS.2.2 hdg hlocks
theorem ek_zret (hexec : p.tables.exec = Jvm.exec) (hb : c.code = cc) (hr : meth.sig.returnType = some .boolean) (hlocks : meth.locks = false) (hw : ek_W G kd I H) (hS : va_S (ek_A G kd) s.heap H locs) {v : Int32} {q : ek_St × Int32} (hf : ek_ck (v = 0 ∨ v = 1) (some (I, v)) = some q) (hdg : decode cc pc = .ok (.ireturn, 1)) : W p l e R s m args below meth c H locs 0 0 (MQ below (ek_Q G kd (some (.int q.2)) q.1) args s 0 0 (ek_A G kd)) (F0 m pc ls [.int v]) := by
  obtain ⟨hv, hf⟩ := ek_ck_s hf
  cases hf
  exact W.zret hexec hb hr (by rcases hv with h | h <;> subst h <;> rfl) (fun t ht hW => ⟨rfl, by rw [ht]; exact hw, hS.F ht⟩) hS.2.2 hdg hlocks
theorem ek_vret (hexec : p.tables.exec = Jvm.exec) (hb : c.code = cc) (hr : meth.sig.returnType = none) (hlocks : meth.locks = false) (hw : ek_W G kd I H) (hS : va_S (ek_A G kd) s.heap H locs) {q : ek_St} (hf : some I = some q) (hdg : decode cc pc = .ok (.return_, 1)) : W p l e R s m args below meth c H locs 0 0 (MQ below (ek_Q G kd none q) args s 0 0 (ek_A G kd)) (F0 m pc ls []) := by
  cases hf
  exact W.vret hexec hb hr (fun t ht hW => ⟨rfl, by rw [ht]; exact hw, hS.F ht⟩) hS.2.2 hdg hlocks
theorem ek_aret (hexec : p.tables.exec = Jvm.exec) (hb : c.code = cc) {C : String} (hr : meth.sig.returnType = some (.object C)) (hlocks : meth.locks = false) (hw : ek_W G kd I H) (hS : va_S (ek_A G kd) s.heap H locs) {v : Nat} {q : ek_St × Nat} (hf : some (I, v) = some q) (hdg : decode cc pc = .ok (.areturn, 1)) : W p l e R s m args below meth c H locs 0 0 (MQ below (ek_Q G kd (some (ek_r G q.2)) q.1) args s 0 0 (ek_A G kd)) (F0 m pc ls [ek_r G v]) := by
  cases hf
  exact W.aret hexec hb hr (Or.inl ⟨C, rfl⟩) (by unfold ek_r; split; exact Or.inl rfl; exact Or.inr ⟨_, rfl⟩) (fun t ht hW => ⟨rfl, by rw [ht]; exact hw, hS.F ht⟩) hS.2.2 hdg hlocks
end EKC
/-- how a body begins: the context, the locals, the world -/
def ek_X (p : Program) (s : State) (m : MethodId) (meth : Method) (c : Code) (args : Array Value) (G : ek_G) (cc : ByteArray) (nL : Nat) (own : String) (ret : Option FieldType) : Prop :=
  p.tables.exec = Jvm.exec ∧ c.code = cc ∧ c.maxLocals = nL ∧ s.vm.findClass own = some m.cls ∧ (∀ w ∈ lw_g, w.before args s = true) ∧ meth.sig.returnType = ret ∧ meth.locks = false ∧ ek_K G s
theorem ek_body {l : Launch} {G : ek_G} {kd : Nat → Nat} {I I' : ek_St} {rv : Option Value} {y : MethodName} {rm : Room} {cc : ByteArray} {maxL : Nat} {ret : Option FieldType} {av : List Value} (la : List (Nat × Value)) (hy : plainName y.cls = true) (hlen : (lg_sl av).length ≤ maxL) (hla : lv_args 0 av = la)
    (h : ∀ (p : Program) (e : Env) (s : State) (m : MethodId) (below : List Frame) (meth : Method) (c : Code) (ls : Array Slot), ek_X p s m meth c av.toArray G cc maxL y.cls ret → ek_W G kd I s.heap → va_S (ek_A G kd) s.heap s.heap [] → lv_has ls maxL la → W p l e rm s m av.toArray below meth c s.heap [] 0 0 (MQ below (ek_Q G kd rv I') av.toArray s 0 0 (ek_A G kd)) (F0 m 0 ls [])) : ek_M l G kd y (.code y cc maxL ret :: lw_g) rm av I rv I' := by
  refine Met.ofW (cc := cc) (maxL := maxL) (ret := ret) hy rfl ?_
  intro p e s m args below meth c s₁ B hml hv
  obtain ⟨rfl, hW, hK⟩ := hv
  rw [lg_entry_eq]
  have hl := lv_entry av hlen
  rw [hla] at hl
  exact h p e s m below meth c _ ⟨B.exec, B.bytes, hml, findClass_of_methodNamed B.named, fun w hw => atoms_spec (ws := .code y cc maxL ret :: lw_g) B.pre w (List.mem_cons_of_mem _ hw), B.returns, B.notSynchronized, hK⟩ hW va_S.rf hl
/-! loops: a step function, iterated as often as ek_N says -/
def ek_N : Nat := 20000
def ek_lp {α β : Type} (F : (α → Option β) → α → Option β) : Nat → α → Option β
  | 0, _ => none
  | n + 1, a => F (ek_lp F n) a
theorem ek_lp_ind {α β : Type} {r : β} {F : (α → Option β) → α → Option β} {Q : α → Prop} (h : ∀ k : α → Option β, (∀ a, k a = some r → Q a) → ∀ a, F k a = some r → Q a) : ∀ (n : Nat) (a : α), ek_lp F n a = some r → Q a
  | 0, _, e => by cases e
  | n + 1, a, e => h (ek_lp F n) (ek_lp_ind h n) a e
theorem lw_V {own C : String} {idx maxL : Nat} {y : MethodName} {cc : ByteArray} {ret : Option FieldType} (h1 : Cond.methodLink own idx y ∈ lw_g) (h2 : Cond.instanceMethod y ∈ lw_g) (h3 : Cond.selects C y y ∈ lw_g) (h4 : Cond.initialized C ∈ lw_g) (h5 : Cond.code y cc maxL ret ∈ lw_g) : GoodIn lw_g (wsV own idx C y (.code y cc maxL ret :: lw_g)) := by
  have hg : ∀ w ∈ lw_g, w ∈ lw_g ∧ ((w.onTables && w.keeps) = true ∨ ∃ ty, w = .arrayClass ty) := fun w h => ⟨h, lw_gg h⟩
  intro w hw
  unfold wsV at hw
  rcases List.mem_append.mp hw with h | h
  · simp only [List.mem_cons, List.not_mem_nil, or_false] at h
    rcases h with rfl | rfl | rfl | rfl
    · exact hg _ h1
    · exact hg _ h2
    · exact hg _ h3
    · exact hg _ h4
  · rcases List.mem_cons.mp h with rfl | h
    · exact hg _ h5
    · exact hg _ h
theorem lw_C {y : MethodName} {cc : ByteArray} {maxL : Nat} {ret : Option FieldType} (h5 : Cond.code y cc maxL ret ∈ lw_g) : GoodIn lw_g (.code y cc maxL ret :: lw_g) := by
  intro w hw
  rcases List.mem_cons.mp hw with rfl | h
  · exact ⟨h5, lw_gg h5⟩
  · exact ⟨h, lw_gg h⟩
theorem ek_cwS {R : Room} {s : State} {args : Array Value} {own : String} {index maxL : Nat} {y : MethodName} {bytes : ByteArray} {ret : Option FieldType} {rm : Room} (n : Nat) (ht : ∀ w ∈ lw_g, w.before args s = true) (h1 : Cond.methodLink own index y ∈ lw_g) (h2 : Cond.static y ∈ lw_g) (h3 : Cond.initialized y.cls ∈ lw_g) (h5 : Cond.code y bytes maxL ret ∈ lw_g) (hd : y.cls ≠ "java/lang/invoke/MethodHandle" ∧ y.cls ≠ "java/lang/invoke/VarHandle" ∧ (parseMethodDescriptor y.desc).map (fun d => d.parameters.length) = some n) (hR : rm.frames + 1 ≤ R.frames ∧ 8 + (maxL + 11) + rm.locals ≤ R.locals) :
    CallB R s args own index y bytes maxL ret (.code y bytes maxL ret :: lw_g) rm rm.cells rm.slots n ∧ (Cond.static y).before args s = true :=
  ⟨callB_of n ht (lw_C h5) rfl rfl rfl (ht _ h3) (ht _ h1) hd hR, ht _ h2⟩
theorem ek_room13 {rest : List Value} {k : Nat} (h : rest.length ≤ 4) (hk : 21 ≤ k) : (rest.map fun v => v.category).sum + 13 ≤ k := by
  have := ek_rest h
  omega
theorem ek_roomN {rest : List Value} {k : Nat} (h : rest.length ≤ 4) (hk : 8 + (nativeFrameWords "java/lang/System" "arraycopy" 5 + 11) ≤ k) : (rest.map fun v => v.category).sum + (nativeFrameWords "java/lang/System" "arraycopy" 5 + 11) ≤ k := by
  have := ek_rest h
  omega
/-- a whole Natural's words copied -/
def ek_cp (I : ek_St) (x y : Nat) : ek_St := fun z k => if z = y ∧ k < 16 then I x k else I z k
