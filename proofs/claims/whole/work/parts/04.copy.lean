section EKCP
variable {p : Program} {l : Launch} {e : Env} {R : Room} {s : State} {m : MethodId} {args : Array Value} {below : List Frame} {meth : Method} {c : Code} {H : Heap} {locs : List Loc} {cells slots : Nat} {Q : State → Prop}
variable {cc : ByteArray} {pc : Nat} {ls : Array Slot} {rest : List Value} {G : ek_G} {kd : Nat → Nat} {I : ek_St} {H0 : Heap} {A : Nat → Prop} {β : Type} {r : β}
theorem ek_copy (hexec : p.tables.exec = Jvm.exec) (hb : c.code = cc) (hml : c.maxLocals = ls.size) {own : String} {index : Nat} (hown : s.vm.findClass own = some m.cls) (hlink : (Cond.methodLink own index arraycopyName).before args s = true) (hnat : (Cond.native arraycopyName).before args s = true) (hstat : (Cond.static arraycopyName).before args s = true) (hini : (Cond.initialized "java/lang/System").before args s = true)
    (hK : ek_K G s) (hw : ek_W G kd I H) (hS : va_S A H0 H locs) (hA : ∀ q, ek_A G kd q → A q) {x y : Nat} {K : ek_St → Option β} (hf : ek_ck (kd x = 116 ∧ kd y = 116) (ek_let (ek_cp I x y) K) = some r)
    (hframes : 1 ≤ R.frames) (hlocals : (rest.map fun v => v.category).sum + (nativeFrameWords "java/lang/System" "arraycopy" 5 + 11) ≤ R.locals) (hdg : decode cc pc = .ok (.invokestatic index, 3))
    (kk : ∀ (I2 : ek_St) (H1 : Heap) (locs1 : List Loc), K I2 = some r → ek_W G kd I2 H1 → va_S A H0 H1 locs1 → W p l e R s m args below meth c H1 locs1 cells slots Q (F0 m (pc + 3) ls rest)) : W p l e R s m args below meth c H locs cells slots Q (F0 m pc ls (.int 16 :: .int 0 :: ek_r G y :: .int 0 :: ek_r G x :: rest)) := by
  obtain ⟨⟨hx, hy⟩, hf⟩ := ek_ck_s hf
  have hx0 : kd x ≠ 0 := by rw [hx]; omega
  have hy0 : kd y ≠ 0 := by rw [hy]; omega
  rw [ek_r_ref (hw.nz hx0), ek_r_ref (hw.nz hy0)]
  intro T hT X
  have hc0 : H[G.2.2 + x]? = some (vp_cell (G.2.1 0) (16, .inl (I x))) := ek_W_int (n := 16) hw hx
  have hc1 : H[G.2.2 + y]? = some (vp_cell (G.2.1 0) (16, .inl (I y))) := ek_W_int (n := 16) hw hy
  obtain ⟨-, k0, hk0, cm0, hkk0⟩ := (hK.1.2 0 _ rfl).1 16 (fun j => .int (I x j))
  obtain ⟨-, k1, hk1, cm1, hkk1⟩ := (hK.1.2 0 _ rfl).1 16 (fun j => .int (I y j))
  have z0 : (0 : Int32).toNatClampNeg = 0 := rfl
  have z16 : (16 : Int32).toNatClampNeg = 16 := rfl
  obtain ⟨vm', X', step⟩ := X.arraycopy hexec hown hlink hnat hstat hini (src := G.2.2 + x) (dst := G.2.2 + y) (cs := vp_cell (G.2.1 0) (16, .inl (I x))) (cd := vp_cell (G.2.1 0) (16, .inl (I y))) (srcPos := 0) (destPos := 0) (n := 16) (by rw [hT]; exact hc0) (by rw [hT]; exact hc1)
    (fun _ h => by cases h) (fun _ h => by cases h) (fun h => by cases h) (fun h => by cases h) hk0 hk1 hkk0 hkk1 (by simp [refKind]) (by decide) (by decide) (by decide)
    (by show ¬ _ > ((arrV (G.2.1 0) 16 (fun j => .int (I x j))).slots.size : Int); rw [arrV_size]; decide)
    (by show ¬ _ > ((arrV (G.2.1 0) 16 (fun j => .int (I y j))).slots.size : Int); rw [arrV_size]; decide)
    (fun vm₁ _ i hi => by
      have e : (vp_cell (G.2.1 0) (16, .inl (I x))).slots.getD ((0 : Int32).toNatClampNeg + i) .null = .int (I x i) := by
        show (arrV (G.2.1 0) 16 (fun j => .int (I x j))).slots.getD _ _ = _
        rw [z0, Nat.zero_add, Array.getD_eq_getD_getElem?, arrV_read (N := 16) _ _ hi]
        rfl
      refine ⟨?_, ?_⟩
      · rw [e]
        rfl
      · rw [e]
        exact trivial)
    (g := F0 m pc ls (.int 16 :: .int 0 :: .ref (G.2.2 + y) :: .int 0 :: .ref (G.2.2 + x) :: rest)) rfl (by rw [hml]) (rest := rest) rfl (by rw [hb]; exact hdg) hframes (by show 2 * 0 + _ + _ ≤ _; omega)
  have e1 : copied (vp_cell (G.2.1 0) (16, .inl (I x))) (vp_cell (G.2.1 0) (16, .inl (I y))) 0 0 16 = vp_cell (G.2.1 0) (16, .inl (va_cpy (I x) (I y) (0 : Int32).toNatClampNeg (0 : Int32).toNatClampNeg (16 : Int32).toNatClampNeg)) := va_copied (fun z => .int z) (G.2.1 0) (G.2.1 0) (I x) (I y) (show 0 + 16 ≤ 16 by decide)
  rw [e1] at X' step
  generalize hcell : vp_cell (G.2.1 0) (16, .inl (va_cpy (I x) (I y) (0 : Int32).toNatClampNeg (0 : Int32).toNatClampNeg (16 : Int32).toNatClampNeg)) = cell at X' step
  have hl : G.2.2 + y < H.size := (Array.getElem?_eq_some_iff.mp hc1).1
  have hheap : ((T.setVm vm').setCell (G.2.2 + y) cell).heap = H.setIfInBounds (G.2.2 + y) cell := by rw [← hT]; rfl
  have oq : ∀ q : Nat, q ≠ G.2.2 + y → (H.setIfInBounds (G.2.2 + y) cell)[q]? = H[q]? := fun q hq => by simp [Array.getElem?_setIfInBounds, Ne.symm hq]
  have hW : ek_W G kd (ek_cp I x y) (H.setIfInBounds (G.2.2 + y) cell) := by
    refine ⟨hw.1, fun z hz => ?_⟩
    by_cases hzy : z = y
    · subst hzy
      rw [hy]
      refine ek_at_int (n := 16) ?_
      rw [← hcell]
      have e2 : (H.setIfInBounds (G.2.2 + z) (vp_cell (G.2.1 0) (16, .inl (va_cpy (I x) (I z) (0 : Int32).toNatClampNeg (0 : Int32).toNatClampNeg (16 : Int32).toNatClampNeg))))[G.2.2 + z]? = some (vp_cell (G.2.1 0) (16, .inl (va_cpy (I x) (I z) (0 : Int32).toNatClampNeg (0 : Int32).toNatClampNeg (16 : Int32).toNatClampNeg))) := by
        simp [Array.getElem?_setIfInBounds, hl]
      rw [e2]
      congr 4
      funext k
      simp only [va_cpy, z0, z16, ek_cp, Nat.zero_add, true_and, Nat.sub_zero, Nat.zero_le]
    · have e3 : ek_cp I x y z = I z := by
        funext k
        simp [ek_cp, hzy]
      rw [e3]
      exact ek_at_kept (hw.2 z hz) (oq _ (by omega))
  obtain ⟨t, a1, b1⟩ := kk _ _ _ hf hW ⟨by simp; exact hS.1, fun q g1 g2 => by
      rw [oq q (fun e => g2 (by rw [e]; exact hA _ ⟨y, hy0, rfl⟩))]
      exact hS.2.1 q g1 g2, fun q hq => by
      rcases List.mem_append.mp hq with h | h
      · exact hS.2.2 q h
      · obtain ⟨z, -, hz⟩ := List.mem_map.mp h
        rw [← hz]
        exact hA _ ⟨y, hy0, rfl⟩⟩ _ hheap X'
  exact ⟨t, step t a1, b1⟩
end EKCP
