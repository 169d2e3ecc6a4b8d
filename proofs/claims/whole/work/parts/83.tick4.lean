/-! TICK: a step of the reference -/
def ixOf : Option Nat → Int32
  | none => -1
  | some b => nI b
theorem RM.le' {I : ek_St} {q : AS} {t : Rat} (h : RMA I q t) : I 1 7 ≤ nI q.1 := by rw [h.1.2]; exact nI_le (Nat.le_refl _) (by have := h.1.1; omega)
theorem RM.ge' {I : ek_St} {q : AS} {t : Rat} (h : RMA I q t) {i : Nat} (hi : i < q.1) : ¬ I 1 7 ≤ nI i := by rw [h.1.2]; exact nI_ge hi (by have := h.1.1; omega)
theorem t_run {kd : Nat → Nat} {I : ek_St} {q : AS} {t : Rat} (hM : MK kd) (h : RMA I q t) :
    ∃ r, ek_lp (fun (k : (ek_St × Nat × Int32 × Int32) → Option (ek_St × Int32)) (q : (ek_St × Nat × Int32 × Int32)) => fMo_step_161 kd k q.1 q.2.1 q.2.2.1 q.2.2.2) ek_N (I, 1, (-1 : Int32), (0 : Int32)) = some r ∧ r.2 = ansR q ∧ RMA r.1 (run 1 q) t ∧ r.1 1 0 = I 1 0 := by
  have hn : q.1 ≤ 12 := h.1.1
  refine lp_for (fun i Q => Q = (I, 1, ixOf (bst q.2.1 i), nI i) ∧ i ≤ q.1) _ q.1 ⟨rfl, Nat.zero_le _⟩ ?_ ?_ (by omega)
  · rintro kk i Q hi ⟨rfl, -⟩ hkk
    have hi12 : i < 12 := by omega
    have e9 : I (1 + 10) i = q.2.1 i 9 := h.2.1 i 9 hi (by decide) (by decide)
    have ed : I (1 + 14) i = q.2.1 i 8 := h.2.2.1 i hi
    have eb : bst q.2.1 (i + 1) = if q.2.1 i 9 ≤ 0 then bst q.2.1 i else match bst q.2.1 i with
      | none => some i
      | some b => if q.2.1 b 8 ≤ q.2.1 i 8 then some b else some i := rfl
    simp only [fMo_step_161, ck_t hM.m1, ck_t hM.a1, ck_t hM.a2, ck_t hM.a3, ck_t hM.a4, ck_t hM.a5, ck_t hM.a6, ck_t hM.a7, ck_t hM.a8, ck_t hM.a9, ck_t hM.a10, ck_t hM.a11, ck_t hM.a12, ck_t hM.a13, ck_t hM.a14, ck_t hM.a15, ck_t hM.a16, ck_t hM.a17, if_neg (h.ge' hi), ck_t (in12 hi12), cl12 hi12, e9, ed, fMo_step_200, fMo_step_198, let_e]
    by_cases c : q.2.1 i 9 ≤ 0
    · rw [if_pos c]
      rw [if_pos c] at eb
      exact hkk _ ⟨by rw [nI_succ, eb], by omega⟩
    · rw [if_neg c]
      rw [if_neg c] at eb
      cases hb : bst q.2.1 i with
      | none =>
        rw [hb] at eb
        have e0 : ixOf none = -1 := rfl
        rw [if_pos e0]
        exact hkk _ ⟨by rw [nI_succ, eb]; rfl, by omega⟩
      | some b =>
        rw [hb] at eb
        simp only at eb
        have hb2 := bst_lt i b hb
        have hb12 : b < 12 := by omega
        have e0 : ixOf (some b) = nI b := rfl
        have edb : I (1 + 14) b = q.2.1 b 8 := h.2.2.1 b (by omega)
        rw [e0, if_neg (mone hb12)]
        simp only [ck_t (in12 hb12), cl12 hb12, edb]
        by_cases c2 : q.2.1 b 8 ≤ q.2.1 i 8
        · rw [if_pos c2]
          rw [if_pos c2] at eb
          exact hkk _ ⟨by rw [nI_succ, eb]; rfl, by omega⟩
        · rw [if_neg c2]
          rw [if_neg c2] at eb
          exact hkk _ ⟨by rw [nI_succ, eb]; rfl, by omega⟩
  · rintro kk Q ⟨rfl, -⟩
    have ecl : I 1 1 = q.2.2.2 0 := h.2.2.2.2.2.2.2 0 (by decide)
    simp only [fMo_step_161, ck_t hM.m1, if_pos h.le', let_e, ecl]
    have hm1 := h.g 0 (q.2.2.2 0 + 1) (by decide)
    unfold ansR run
    cases hb : bst q.2.1 q.1 with
    | none =>
      have e0 : ixOf none = -1 := rfl
      rw [if_pos e0]
      refine ⟨_, rfl, rfl, hm1, ?_⟩
      show ek_up I 1 1 (q.2.2.2 0 + 1) 1 0 = I 1 0
      exact up_ne (by decide)
    | some b =>
      have hb2 := bst_lt _ b hb
      have hb12 : b < 12 := by omega
      have e0 : ixOf (some b) = nI b := rfl
      rw [e0, if_neg (mone hb12)]
      generalize hI2 : ek_up I 1 1 (q.2.2.2 0 + 1) = I2
      have z2 : ∀ z, z ≠ 1 → I2 z = I z := fun z hz => by rw [← hI2]; exact ek_up_ne hz
      have e9 : I2 (1 + 10) b = q.2.1 b 9 := by rw [z2 _ (by decide)]; exact h.2.1 b 9 hb2.1 (by decide) (by decide)
      have e11 : I2 (1 + 12) b = q.2.1 b 11 := by rw [z2 _ (by decide)]; exact h.2.1 b 11 hb2.1 (by decide) (by decide)
      have e12 : I2 (1 + 13) b = q.2.1 b 12 := by rw [z2 _ (by decide)]; exact h.2.1 b 12 hb2.1 (by decide) (by decide)
      have e00 : I2 (1 + 1) b = q.2.1 b 0 := by rw [z2 _ (by decide)]; exact h.2.1 b 0 hb2.1 (by decide) (by decide)
      have hm2 : RM I2 q.1 q.2.1 q.2.2.1 t (gset q.2.2.2 0 (q.2.2.2 0 + 1)) (fun _ => False) := by rw [← hI2]; exact hm1
      generalize hI4 : ek_up I2 (1 + 10) b (q.2.1 b 9 - 1) = I4
      have z4 : ∀ z, z ≠ 11 → I4 z = I2 z := fun z hz => by rw [← hI4]; exact ek_up_ne hz
      have f4 : I4 (1 + 10) b = q.2.1 b 9 - 1 := by rw [← hI4]; exact up_same
      have f41 : I4 (1 + 12) b = q.2.1 b 11 := by rw [z4 _ (by decide)]; exact e11
      simp only [ck_t hM.m1, ck_t hM.a1, ck_t hM.a2, ck_t hM.a3, ck_t hM.a4, ck_t hM.a5, ck_t hM.a6, ck_t hM.a7, ck_t hM.a8, ck_t hM.a9, ck_t hM.a10, ck_t hM.a11, ck_t hM.a12, ck_t hM.a13, ck_t hM.a14, ck_t hM.a15, ck_t hM.a16, ck_t hM.a17, ck_t (in12 hb12), cl12 hb12, let_e, e9, hI4, f4, f41]
      generalize hx : wkR (q.2.1 b) 1 (q.2.2.2 0 + 1) = x
      have hx9 : x 9 = q.2.1 b 9 - 1 := by rw [← hx]; rfl
      have xs : ∀ j, j ≠ 9 → j ≠ 11 → j ≠ 12 → x j = q.2.1 b j := fun j a1 a2 a3 => by
        rw [← hx]
        unfold wkR
        rw [if_neg a1, if_neg a2, if_neg a3]
      have n2 : ∀ j, j < 13 → j ≠ 7 → I2 (2 + j) b = q.2.1 b j := fun j h1 h2 => hm2.2.1 b j hb2.1 h1 h2
      by_cases c : q.2.1 b 9 - 1 = 0
      · rw [if_pos c]
        have hx11 : x 11 = q.2.1 b 11 + 1 := by rw [← hx]; unfold wkR; rw [if_neg (by decide), if_pos rfl, if_pos c]
        have hx12 : x 12 = q.2.2.2 0 + 1 := by rw [← hx]; unfold wkR; rw [if_neg (by decide), if_neg (by decide), if_pos rfl, if_pos c]
        generalize hI6 : ek_up I4 (1 + 12) b (q.2.1 b 11 + 1) = I6
        have z6 : ∀ z, z ≠ 13 → I6 z = I4 z := fun z hz => by rw [← hI6]; exact ek_up_ne hz
        have e61 : I6 1 1 = q.2.2.2 0 + 1 := by rw [z6 1 (by decide), z4 1 (by decide), ← hI2]; exact up_same
        rw [e61]
        generalize hI7 : ek_up I6 (1 + 13) b (q.2.2.2 0 + 1) = I7
        have z7 : ∀ z, z ≠ 14 → I7 z = I6 z := fun z hz => by rw [← hI7]; exact ek_up_ne hz
        have e70 : I7 (1 + 1) b = q.2.1 b 0 := by rw [z7 _ (by decide), z6 _ (by decide), z4 _ (by decide)]; exact e00
        have c1 : I7 1 = I2 1 := by rw [z7 1 (by decide), z6 1 (by decide), z4 1 (by decide)]
        simp only [fMo_step_262, ck_t hM.m1, ck_t hM.a1, ck_t hM.a2, ck_t hM.a3, ck_t hM.a4, ck_t hM.a5, ck_t hM.a6, ck_t hM.a7, ck_t hM.a8, ck_t hM.a9, ck_t hM.a10, ck_t hM.a11, ck_t hM.a12, ck_t hM.a13, ck_t hM.a14, ck_t hM.a15, ck_t hM.a16, ck_t hM.a17, ck_t (in12 hb12), cl12 hb12, e70]
        have hrow : RM I7 q.1 (rset q.2.1 b x) q.2.2.1 t (gset q.2.2.2 0 (q.2.2.2 0 + 1)) (fun _ => False) := by
          refine hm2.row x (fun k j hk hj hj7 => ?_) (fun k hk => ?_) ?_ ?_ ?_ ?_ (fun j hj => ?_) (fun j hj => xs j (by omega) (by omega) (by omega)) (xs 7 (by decide) (by decide) (by decide)) ?_
          · by_cases kb : k = b
            · rw [if_pos kb, kb]
              by_cases j9 : j = 9
              · subst j9
                rw [z7 _ (by decide), z6 _ (by decide), hx9]; exact f4
              · by_cases j11 : j = 11
                · subst j11
                  rw [z7 _ (by decide), hx11, ← hI6]; exact up_same
                · by_cases j12 : j = 12
                  · subst j12
                    rw [hx12, ← hI7]; exact up_same
                  · rw [z7 _ (by omega), z6 _ (by omega), z4 _ (by omega), n2 j hj hj7, xs j j9 j11 j12]
            · rw [if_neg kb, ← hI7, up_ne (fun z => kb z.2), ← hI6, up_ne (fun z => kb z.2), ← hI4, up_ne (fun z => kb z.2)]
          · rw [z7 15 (by decide), z6 15 (by decide), z4 15 (by decide)]
            by_cases kb : k = b
            · rw [if_pos kb, kb, xs 8 (by decide) (by decide) (by decide)]
              exact hm2.2.2.1 b hb2.1
            · rw [if_neg kb]
          · rw [z7 9 (by decide), z6 9 (by decide), z4 9 (by decide)]
          · rw [z7 16 (by decide), z6 16 (by decide), z4 16 (by decide)]
          · rw [z7 17 (by decide), z6 17 (by decide), z4 17 (by decide)]
          · rw [c1]
          · rw [c1]; exact hm2.2.2.2.2.2.2.2 j hj
          · by_cases z : q.2.1 b 5 = 2
            · left; rw [xs 5 (by decide) (by decide) (by decide)]; exact z
            · right; exact z
        refine ⟨_, rfl, rfl, hrow, ?_⟩
        show I7 1 0 = I 1 0
        rw [c1, ← hI2]
        exact up_ne (by decide)
      · rw [if_neg c]
        have hx11 : x 11 = q.2.1 b 11 := by rw [← hx]; unfold wkR; rw [if_neg (by decide), if_pos rfl, if_neg c]
        have hx12 : x 12 = q.2.1 b 12 := by rw [← hx]; unfold wkR; rw [if_neg (by decide), if_neg (by decide), if_pos rfl, if_neg c]
        have e40 : I4 (1 + 1) b = q.2.1 b 0 := by rw [z4 _ (by decide)]; exact e00
        have c1 : I4 1 = I2 1 := z4 1 (by decide)
        simp only [fMo_step_262, ck_t hM.m1, ck_t hM.a1, ck_t hM.a2, ck_t hM.a3, ck_t hM.a4, ck_t hM.a5, ck_t hM.a6, ck_t hM.a7, ck_t hM.a8, ck_t hM.a9, ck_t hM.a10, ck_t hM.a11, ck_t hM.a12, ck_t hM.a13, ck_t hM.a14, ck_t hM.a15, ck_t hM.a16, ck_t hM.a17, ck_t (in12 hb12), cl12 hb12, e40]
        have hrow : RM I4 q.1 (rset q.2.1 b x) q.2.2.1 t (gset q.2.2.2 0 (q.2.2.2 0 + 1)) (fun _ => False) := by
          refine hm2.row x (fun k j hk hj hj7 => ?_) (fun k hk => ?_) ?_ ?_ ?_ ?_ (fun j hj => ?_) (fun j hj => xs j (by omega) (by omega) (by omega)) (xs 7 (by decide) (by decide) (by decide)) ?_
          · by_cases kb : k = b
            · rw [if_pos kb, kb]
              by_cases j9 : j = 9
              · subst j9
                rw [hx9]; exact f4
              · rw [z4 _ (by omega), n2 j hj hj7]
                by_cases j11 : j = 11
                · subst j11; exact hx11.symm
                · by_cases j12 : j = 12
                  · subst j12; exact hx12.symm
                  · exact (xs j j9 j11 j12).symm
            · rw [if_neg kb, ← hI4, up_ne (fun z => kb z.2)]
          · rw [z4 15 (by decide)]
            by_cases kb : k = b
            · rw [if_pos kb, kb, xs 8 (by decide) (by decide) (by decide)]
              exact hm2.2.2.1 b hb2.1
            · rw [if_neg kb]
          · rw [z4 9 (by decide)]
          · rw [z4 16 (by decide)]
          · rw [z4 17 (by decide)]
          · rw [c1]
          · rw [c1]; exact hm2.2.2.2.2.2.2.2 j hj
          · by_cases z : q.2.1 b 5 = 2
            · left; rw [xs 5 (by decide) (by decide) (by decide)]; exact z
            · right; exact z
        refine ⟨_, rfl, rfl, hrow, ?_⟩
        show I4 1 0 = I 1 0
        rw [c1, ← hI2]
        exact up_ne (by decide)
/-- no job needs less than nothing -/
def NN (q : AS) : Prop := ∀ k, k < q.1 → ¬ ndR (q.2.1 k) < 0
theorem t_rel {kd : Nat → Nat} {I : ek_St} {q : AS} {t : Rat} (hM : MK kd) (h : RMA I q t) (hN : NN q) :
    ∃ r, ek_lp (fun (k : (ek_St × Nat × Int32) → Option (ek_St × Int32)) (q : (ek_St × Nat × Int32)) => fMo_step_73 kd k q.1 q.2.1 q.2.2) ek_N (I, 1, (0 : Int32)) = some r ∧ r.2 = ansR (rl q.1 0 q) ∧ RMA r.1 (run 1 (rl q.1 0 q)) t ∧ r.1 1 0 = I 1 0 := by
  have hn : q.1 ≤ 12 := h.1.1
  generalize hcl : q.2.2.2 0 = cl
  generalize hit : q.2.2.2 4 = it
  refine lp_for (fun i Q => ∃ I' q', Q = (I', 1, nI i) ∧ RMA I' q' t ∧ q'.1 = q.1 ∧ q'.2.2.2 0 = cl ∧ q'.2.2.2 4 = it ∧ rl (q.1 - i) i q' = rl q.1 0 q ∧ (∀ k, i ≤ k → q'.2.1 k = q.2.1 k) ∧ I' 1 0 = I 1 0) _ q.1 ⟨I, q, rfl, h, rfl, hcl, hit, rfl, fun _ _ => rfl, rfl⟩ ?_ ?_ (by omega)
  · rintro kk i Q hi ⟨I2, q2, rfl, r2, n2, c2, i2, d2, s2, w2⟩ hkk
    have hi2 : i < q2.1 := by omega
    have hi12 : i < 12 := by omega
    have e1 : I2 1 1 = cl := (r2.2.2.2.2.2.2.2 0 (by decide)).trans c2
    have e5 : I2 1 5 = it := (r2.2.2.2.2.2.2.2 4 (by decide)).trans i2
    have fl : ∀ j, j < 13 → j ≠ 7 → I2 (2 + j) i = q2.2.1 i j := fun j h1 h2 => r2.2.1 i j hi2 h1 h2
    have f5 : I2 (1 + 6) i = q2.2.1 i 5 := fl 5 (by decide) (by decide)
    have f8 : I2 (1 + 9) i = q2.2.1 i 8 := fl 8 (by decide) (by decide)
    obtain ⟨m, hm⟩ : ∃ m, q.1 - i = m + 1 := ⟨q.1 - i - 1, by omega⟩
    have hm2 : q.1 - (i + 1) = m := by omega
    rw [hm] at d2
    rw [hm2] at hkk
    have ed : rl (m + 1) i q2 = rl m (i + 1) (rl1 i q2) := rfl
    rw [ed] at d2
    unfold rl1 at d2
    rw [c2, i2] at d2
    have no : ¬ ((q2.2.1 i 5 = 0 ∧ ¬ cl < it) ∨ (q2.2.1 i 5 = 1 ∧ q2.2.1 i 8 = cl)) → ∃ r, fMo_step_151 kd kk I2 1 (nI i) = some r ∧ r.2 = ansR (rl q.1 0 q) ∧ RMA r.1 (run 1 (rl q.1 0 q)) t ∧ r.1 1 0 = I 1 0 := by
      intro hc
      rw [if_neg hc] at d2
      simp only [fMo_step_151, let_e]
      exact hkk _ ⟨I2, q2, by rw [nI_succ], r2, n2, c2, i2, d2, fun k hk => s2 k (by omega), w2⟩
    have yes : ∀ (I3 : ek_St) (cm : Int32), ((q2.2.1 i 5 = 0 ∧ ¬ cl < it) ∨ (q2.2.1 i 5 = 1 ∧ q2.2.1 i 8 = cl)) → I3 7 i = 1 → (∀ z j, ¬ (z = 7 ∧ j = i) → I3 z j = I2 z j) → (cm = 0 ∨ ¬ cl < it) → ∃ r, fMo_step_145 kd kk I3 1 (nI i) cm = some r ∧ r.2 = ansR (rl q.1 0 q) ∧ RMA r.1 (run 1 (rl q.1 0 q)) t ∧ r.1 1 0 = I 1 0 := by
      intro I3 cm hc h7 hz hcm
      rw [if_pos hc] at d2
      have hne2 : q2.2.1 i 5 ≠ 2 := by
        rcases hc with z | z
        · rw [z.1]; decide
        · rw [z.1]; decide
      have c3 : ∀ z, z ≠ 7 → I3 z = I2 z := fun z h => by funext j; exact hz z j (fun q => h q.1)
      have e9 : I2 9 i = q2.2.1 i 7 := (r2.2.2.2.1 i hi2 (fun z => z) hne2).1
      have r12 : I3 12 i = q2.2.1 i 10 := by rw [c3 12 (by decide)]; exact fl 10 (by decide) (by decide)
      have r3 : I3 3 i = q2.2.1 i 1 := by rw [c3 3 (by decide)]; exact fl 1 (by decide) (by decide)
      have r8 : I3 8 i = q2.2.1 i 6 := by rw [c3 8 (by decide)]; exact fl 6 (by decide) (by decide)
      have r9 : I3 9 i = q2.2.1 i 7 := by rw [c3 9 (by decide)]; exact e9
      have r11 : I3 11 i = q2.2.1 i 9 := by rw [c3 11 (by decide)]; exact fl 9 (by decide) (by decide)
      have r13 : I3 13 i = q2.2.1 i 11 := by rw [c3 13 (by decide)]; exact fl 11 (by decide) (by decide)
      have r14 : I3 14 i = q2.2.1 i 12 := by rw [c3 14 (by decide)]; exact fl 12 (by decide) (by decide)
      have g1 : I3 1 1 = cl := by rw [c3 1 (by decide)]; exact e1
      have g5 : I3 1 5 = it := by rw [c3 1 (by decide)]; exact e5
      have hnd : ¬ ndR (q2.2.1 i) < 0 := by rw [s2 i (Nat.le_refl _)]; exact hN i hi
      obtain ⟨I4, e4, p1, p2, p3, p4, p5, p6, p7, p8, p9, p10, p11⟩ := t_release (I := I3) (k := i) (cm := cm) hM hi12 (by rw [g1, g5]; exact hcm) (by rw [r12, r3]; exact hnd)
      rw [g1, g5, r8, r9] at p1
      rw [g1, g5, r8, r9] at p2 p3
      rw [r12, r3] at p4 p6 p7
      rw [r13] at p6
      rw [g1, r14] at p7
      rw [r11] at p10
      have pp : (if cl < it ∧ q2.2.1 i 7 ≤ q2.2.1 i 6 then q2.2.1 i 6 else q2.2.1 i 7) = perR (q2.2.1 i) cl it := rfl
      have pn : (if q2.2.1 i 10 = -1 then q2.2.1 i 1 else q2.2.1 i 10) = ndR (q2.2.1 i) := rfl
      rw [pp] at p1 p2 p3
      rw [pn] at p4 p6 p7
      have same : ∀ z, 2 ≤ z → z ≠ 7 → z ≠ 8 → z ≠ 10 → z ≠ 15 → z ≠ 11 → z ≠ 12 → z ≠ 13 → z ≠ 14 → I4 z = I2 z := fun z a0 a1 a2 a3 a4 a5 a6 a7 a8 => by rw [p9 z a0 a2 a3 a4 a5 a6 a7 a8, c3 z a1]
      have r4 : RM I4 q2.1 (rset q2.2.1 i (relR (q2.2.1 i) cl it)) q2.2.2.1 t (lateG q2.2.2.2 (q2.2.1 i 9)) (fun _ => False) := by
        refine r2.row (relR (q2.2.1 i) cl it) (fun k j hk hj hj7 => ?_) (fun k hk => ?_) ?_ ?_ ?_ ?_ (fun j hj => ?_) (fun j hj => ?_) rfl (Or.inr hne2)
        · by_cases kb : k = i
          · rw [if_pos kb, kb]
            have : j = 0 ∨ j = 1 ∨ j = 2 ∨ j = 3 ∨ j = 4 ∨ j = 5 ∨ j = 6 ∨ j = 8 ∨ j = 9 ∨ j = 10 ∨ j = 11 ∨ j = 12 := by omega
            rcases this with rfl | rfl | rfl | rfl | rfl | rfl | rfl | rfl | rfl | rfl | rfl | rfl
            · rw [same _ (by decide) (by decide) (by decide) (by decide) (by decide) (by decide) (by decide) (by decide) (by decide)]; exact fl 0 (by decide) (by decide)
            · rw [same _ (by decide) (by decide) (by decide) (by decide) (by decide) (by decide) (by decide) (by decide) (by decide)]; exact fl 1 (by decide) (by decide)
            · rw [same _ (by decide) (by decide) (by decide) (by decide) (by decide) (by decide) (by decide) (by decide) (by decide)]; exact fl 2 (by decide) (by decide)
            · rw [same _ (by decide) (by decide) (by decide) (by decide) (by decide) (by decide) (by decide) (by decide) (by decide)]; exact fl 3 (by decide) (by decide)
            · rw [same _ (by decide) (by decide) (by decide) (by decide) (by decide) (by decide) (by decide) (by decide) (by decide)]; exact fl 4 (by decide) (by decide)
            · have : I4 7 = I3 7 := p9 7 (by decide) (by decide) (by decide) (by decide) (by decide) (by decide) (by decide) (by decide)
              show I4 7 i = _
              rw [this]
              exact h7
            · exact p1
            · exact p2
            · exact p4
            · exact p5
            · exact p6
            · exact p7
          · rw [if_neg kb, p8 _ k (by omega) kb]
            exact hz _ _ (fun z => kb z.2)
        · by_cases kb : k = i
          · rw [if_pos kb, kb]
            exact p3
          · rw [if_neg kb, p8 15 k (by decide) kb, c3 15 (by decide)]
        · rw [p9 9 (by decide) (by decide) (by decide) (by decide) (by decide) (by decide) (by decide) (by decide), c3 9 (by decide)]
        · rw [p9 16 (by decide) (by decide) (by decide) (by decide) (by decide) (by decide) (by decide) (by decide), c3 16 (by decide)]
        · rw [p9 17 (by decide) (by decide) (by decide) (by decide) (by decide) (by decide) (by decide) (by decide), c3 17 (by decide)]
        · rw [p11 7 (by decide), c3 1 (by decide)]
        · unfold lateG gset
          by_cases z : j = 2
          · subst z
            rw [if_pos rfl]
            show I4 1 3 = _
            rw [p10, c3 1 (by decide)]
            congr 1
            exact r2.2.2.2.2.2.2.2 2 (by decide)
          · rw [if_neg z, p11 _ (by omega), c3 1 (by decide)]
            exact r2.2.2.2.2.2.2.2 j hj
        · unfold relR
          rw [if_neg (by omega), if_neg (by omega), if_neg (by omega), if_neg (by omega), if_neg (by omega), if_neg (by omega), if_neg (by omega)]
      simp only [fMo_step_145, ck_t hM.m1, e4, bv_s, fMo_step_151, let_e]
      have c2' : lateG q2.2.2.2 (q2.2.1 i 9) 0 = cl := by rw [lateG_ne (by decide)]; exact c2
      have i2' : lateG q2.2.2.2 (q2.2.1 i 9) 4 = it := by rw [lateG_ne (by decide)]; exact i2
      refine hkk _ ⟨I4, (q2.1, rset q2.2.1 i (relR (q2.2.1 i) cl it), q2.2.2.1, lateG q2.2.2.2 (q2.2.1 i 9)), by rw [nI_succ], r4, n2, c2', i2', d2, fun k hk => ?_, ?_⟩
      · show rset q2.2.1 i (relR (q2.2.1 i) cl it) k = q.2.1 k
        unfold rset
        rw [if_neg (by omega)]
        exact s2 k (by omega)
      · rw [p11 0 (by decide), c3 1 (by decide)]
        exact w2
    simp only [fMo_step_73, ck_t hM.m1, ck_t hM.a1, ck_t hM.a2, ck_t hM.a3, ck_t hM.a4, ck_t hM.a5, ck_t hM.a6, ck_t hM.a7, ck_t hM.a8, ck_t hM.a9, ck_t hM.a10, ck_t hM.a11, ck_t hM.a12, ck_t hM.a13, ck_t hM.a14, ck_t hM.a15, ck_t hM.a16, ck_t hM.a17, if_neg (r2.ge' hi2), ck_t (in12 hi12), cl12 hi12, f5, e1, e5, fMo_step_105, fMo_step_106, if_pos, if_neg (show ¬ (1 : Int32) = 0 by decide), fMo_step_118, f8, let_e]
    by_cases c0 : q2.2.1 i 5 = 0
    · rw [if_pos c0]
      have n1 : ¬ q2.2.1 i 5 = 1 := by rw [c0]; decide
      by_cases ci : cl < it
      · rw [if_pos ci, if_neg n1]
        exact no (fun z => z.elim (fun z => z.2 ci) (fun z => n1 z.1))
      · rw [if_neg ci]
        exact yes _ 1 (Or.inl ⟨c0, ci⟩) up_same (fun z j h => up_ne h) (Or.inr ci)
    · rw [if_neg c0]
      by_cases c1 : q2.2.1 i 5 = 1
      · rw [if_pos c1]
        by_cases c8 : q2.2.1 i 8 = cl
        · rw [if_pos c8]
          exact yes I2 0 (Or.inr ⟨c1, c8⟩) (f5.trans c1) (fun _ _ _ => rfl) (Or.inl rfl)
        · rw [if_neg c8]
          exact no (fun z => z.elim (fun z => c0 z.1) (fun z => c8 z.2))
      · rw [if_neg c1]
        exact no (fun z => z.elim (fun z => c0 z.1) (fun z => c1 z.1))
  · rintro kk Q ⟨I2, q2, rfl, r2, n2, c2, i2, d2, s2, w2⟩
    rw [Nat.sub_self] at d2
    have d2 : q2 = rl q.1 0 q := d2
    have hle : I2 1 7 ≤ nI q.1 := by
      have := RM.le' r2
      rw [n2] at this
      exact this
    simp only [fMo_step_73, ck_t hM.m1, if_pos hle]
    obtain ⟨r, e, a1, a2, a3⟩ := t_run hM r2
    rw [d2] at a1 a2
    exact ⟨r, e, a1, a2, a3.trans w2⟩
theorem t_step {kd : Nat → Nat} {I : ek_St} {q : AS} {t : Rat} (hM : MK kd) (h : RMA I q t) (hN : NN (dm q.1 q)) : ∃ I', fMo_step kd I 1 = some (I', ansR (bg q)) ∧ RMA I' (run 1 (bg q)) t ∧ I' 1 0 = I 1 0 := by
  have hn : q.1 ≤ 12 := h.1.1
  have e7 : I 1 7 = nI q.1 := h.1.2
  have goal : ∃ r, fMo_step kd I 1 = some r ∧ r.2 = ansR (bg q) ∧ RMA r.1 (run 1 (bg q)) t ∧ r.1 1 0 = I 1 0 := by
    simp only [fMo_step, fMo_step_0, ck_t hM.m1, e7, let_e]
    refine lp_for (fun u Q => ∃ I' q', Q = (I', 1, nI (q.1 - u) - 1) ∧ RMA I' q' t ∧ q.1 - u ≤ q'.1 ∧ dm (q.1 - u) q' = dm q.1 q ∧ I' 1 0 = I 1 0) _ q.1 ⟨I, q, rfl, h, by omega, rfl, rfl⟩ ?_ ?_ (by omega)
    · rintro kk u Q hu ⟨I2, q2, rfl, r2, l2, d2, w2⟩ hkk
      obtain ⟨i, hi⟩ : ∃ i, q.1 - u = i + 1 := ⟨q.1 - u - 1, by omega⟩
      have hi2 : q.1 - (u + 1) = i := by omega
      rw [hi] at l2 d2 ⊢
      rw [hi2] at hkk
      have hiq : i < q2.1 := by omega
      have hn2 : q2.1 ≤ 12 := r2.1.1
      have hi12 : i < 12 := by omega
      have ep : nI (i + 1) - (1 : Int32) = nI i := nI_pred i
      have em : nI i + (-1 : Int32) = nI i - 1 := by rw [Int32.sub_eq_add_neg]
      have e2 : I2 1 1 = q2.2.2.2 0 := r2.2.2.2.2.2.2.2 0 (by decide)
      have e3 : I2 1 3 = q2.2.2.2 2 := r2.2.2.2.2.2.2.2 2 (by decide)
      have f5 : I2 (1 + 6) i = q2.2.1 i 5 := r2.2.1 i 5 hiq (by decide) (by decide)
      have f8 : I2 (1 + 9) i = q2.2.1 i 8 := r2.2.1 i 8 hiq (by decide) (by decide)
      have f9 : I2 (1 + 10) i = q2.2.1 i 9 := r2.2.1 i 9 hiq (by decide) (by decide)
      have ed : dm (i + 1) q2 = dm i (dm1 i q2) := rfl
      rw [ed] at d2
      unfold dm1 at d2
      simp only [fMo_step_7, ep, if_neg (nI_pos (show i < 2 ^ 31 by omega)), ck_t hM.m1, ck_t hM.a1, ck_t hM.a2, ck_t hM.a3, ck_t hM.a4, ck_t hM.a5, ck_t hM.a6, ck_t hM.a7, ck_t hM.a8, ck_t hM.a9, ck_t hM.a10, ck_t hM.a11, ck_t hM.a12, ck_t hM.a13, ck_t hM.a14, ck_t hM.a15, ck_t hM.a16, ck_t hM.a17, ck_t (in12 hi12), cl12 hi12, f5, f8, e2, f9, e3, fMo_step_65, let_e, em]
      by_cases c5 : q2.2.1 i 5 = 2
      · rw [if_pos c5]
        by_cases c8 : q2.2.1 i 8 = q2.2.2.2 0
        · rw [if_pos c8]
          rw [if_pos ⟨c5, c8⟩] at d2
          have fin : ∀ w : Int32, w = (if q2.2.1 i 9 ≤ 0 then 0 else 1) → ∃ r, fMo_step_56 kd kk I2 1 (nI i) 1 (q2.2.2.2 2) w = some r ∧ r.2 = ansR (bg q) ∧ RMA r.1 (run 1 (bg q)) t ∧ r.1 1 0 = I 1 0 := by
            intro w hw
            have r3 : RM (ek_up I2 1 3 (q2.2.2.2 2 + w)) q2.1 q2.2.1 q2.2.2.1 t (lateG q2.2.2.2 (q2.2.1 i 9)) (fun _ => False) := by
              unfold lateG
              rw [← hw]
              exact r2.g 2 _ (by decide)
            obtain ⟨I4, e4, r4, w4⟩ := RM.remove hM r3 hiq
            rw [del_false] at r4
            simp only [fMo_step_56, ck_t hM.m1, let_e, e4, bv_s, fMo_step_65, em]
            exact hkk _ ⟨I4, (q2.1 - 1, del i q2.2.1, del i q2.2.2.1, lateG q2.2.2.2 (q2.2.1 i 9)), rfl, r4, by show i ≤ q2.1 - 1; omega, d2, by rw [w4, up_ne (by decide)]; exact w2⟩
          by_cases c9 : q2.2.1 i 9 ≤ 0
          · rw [if_pos c9]
            exact fin 0 (by rw [if_pos c9])
          · rw [if_neg c9]
            exact fin 1 (by rw [if_neg c9])
        · rw [if_neg c8]
          rw [if_neg (fun z => c8 z.2)] at d2
          exact hkk _ ⟨I2, q2, rfl, r2, by omega, d2, w2⟩
      · rw [if_neg c5]
        rw [if_neg (fun z => c5 z.1)] at d2
        exact hkk _ ⟨I2, q2, rfl, r2, by omega, d2, w2⟩
    · rintro kk Q ⟨I2, q2, rfl, r2, l2, d2, w2⟩
      rw [Nat.sub_self] at d2 ⊢
      have hneg : nI 0 - (1 : Int32) < 0 := by decide
      have d2 : q2 = dm q.1 q := d2
      simp only [fMo_step_7, if_pos hneg]
      subst d2
      obtain ⟨r, e, a1, a2, a3⟩ := t_rel hM r2 hN
      exact ⟨r, e, a1, a2, a3.trans w2⟩
  obtain ⟨⟨I', r⟩, e, h1, h2, h3⟩ := goal
  have h1' : r = ansR (bg q) := h1
  exact ⟨I', by rw [e, h1'], h2, h3⟩
