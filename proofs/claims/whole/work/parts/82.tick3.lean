/-! TICK: the reference's parts -/
theorem RM.row {I J : ek_St} {n p : Nat} {F : Nat → Nat → Int32} {L : Nat → Rat} {t : Rat} {G G' : Nat → Int32} {E : Nat → Prop} (h : RM I n F L t G E) (x : Nat → Int32) (jf : ∀ k j, k < n → j < 13 → j ≠ 7 → J (2 + j) k = if k = p then x j else I (2 + j) k) (jd : ∀ k, k < n → J 15 k = if k = p then x 8 else I 15 k) (j9 : J 9 = I 9) (j16 : J 16 = I 16) (j17 : J 17 = I 17) (j7 : J 1 7 = I 1 7) (jg : ∀ j, j < 6 → J 1 (1 + j) = G' j) (hx : ∀ j, j < 5 → x j = F p j) (hx7 : x 7 = F p 7) (h5 : x 5 = 2 ∨ F p 5 ≠ 2) : RM J n (rset F p x) L t G' E := by
  obtain ⟨h1, h2, h3, h4, h5', h6, h7, h8⟩ := h
  have st : ∀ k i, i < 5 → rset F p x k i = F k i := by
    intro k i hi
    unfold rset
    by_cases q : k = p
    · rw [if_pos q, q]; exact hx i hi
    · rw [if_neg q]
  refine ⟨⟨h1.1, by rw [j7]; exact h1.2⟩, fun k j hk hj hj7 => ?_, fun k hk => ?_, fun k hk hE hc => ?_, h5'.cell j17, fun m hm => ?_, fun k hk => by rw [j16]; exact h7 k hk, jg⟩
  · rw [jf k j hk hj hj7]
    unfold rset
    by_cases q : k = p
    · rw [if_pos q, if_pos q]
    · rw [if_neg q, if_neg q]
      exact h2 k j hk hj hj7
  · rw [jd k hk]
    unfold rset
    by_cases q : k = p
    · rw [if_pos q, if_pos q]
    · rw [if_neg q, if_neg q]
      exact h3 k hk
  · have hc' : F k 5 ≠ 2 := by
      unfold rset at hc
      by_cases q : k = p
      · rw [if_pos q] at hc
        rw [q]
        rcases h5 with z | z
        · exact absurd z hc
        · exact z
      · rw [if_neg q] at hc
        exact hc
    obtain ⟨a, b, c⟩ := h4 k hk hE hc'
    have e7 : rset F p x k 7 = F k 7 := by
      unfold rset
      by_cases q : k = p
      · rw [if_pos q, q]; exact hx7
      · rw [if_neg q]
    rw [j9, j16, e7]
    refine ⟨a, ?_, c.cell j17⟩
    show I 16 k = bI (decide (tn (rset F p x k 2) ≠ tn (rset F p x k 3) ∧ L k = mkRat (tn (rset F p x k 1)) (tn (rset F p x k 3))))
    rw [st k 1 (by decide), st k 2 (by decide), st k 3 (by decide)]
    exact b
  · obtain ⟨w, hw⟩ := h6 m hm
    exact ⟨w, Hr.cell hw j17⟩
/-- a release in the arrays -/
def RR (I I' : ek_St) (k : Nat) (per nd : Int32) : Prop :=
  I' 8 k = per ∧ I' 10 k = I 1 1 + per ∧ I' 15 k = I 1 1 + per ∧ I' 11 k = nd ∧ I' 12 k = -1 ∧ I' 13 k = (if nd = 0 then I 13 k + 1 else I 13 k) ∧ I' 14 k = (if nd = 0 then I 1 1 else I 14 k) ∧
  (∀ z i, 2 ≤ z → i ≠ k → I' z i = I z i) ∧ (∀ z, 2 ≤ z → z ≠ 8 → z ≠ 10 → z ≠ 15 → z ≠ 11 → z ≠ 12 → z ≠ 13 → z ≠ 14 → I' z = I z) ∧ I' 1 3 = I 1 3 + (if I 11 k ≤ 0 then 0 else 1) ∧ ∀ j, j ≠ 3 → I' 1 j = I 1 j
theorem t_release {kd : Nat → Nat} {I : ek_St} {k : Nat} {cm : Int32} (hM : MK kd) (hk : k < 12) (hcm : cm = 0 ∨ ¬ I 1 1 < I 1 5) (hnd : ¬ (if I 12 k = -1 then I 3 k else I 12 k) < 0) :
    ∃ I', fMo_release kd I 1 (nI k) cm = some I' ∧ RR I I' k (if I 1 1 < I 1 5 ∧ I 9 k ≤ I 8 k then I 8 k else I 9 k) (if I 12 k = -1 then I 3 k else I 12 k) := by
  generalize hper : (if I 1 1 < I 1 5 ∧ I 9 k ≤ I 8 k then I 8 k else I 9 k) = per
  generalize hnde : (if I 12 k = -1 then I 3 k else I 12 k) = nd at *
  -- behind the period
  have last : ∀ I1 : ek_St, I1 8 k = per → (∀ z i, ¬ (z = 8 ∧ i = k) → I1 z i = I z i) → ∃ I', fMo_release_42 kd I1 1 (nI k) = some I' ∧ RR I I' k per nd := by
    intro I1 h8 hz
    have ez : ∀ z, z ≠ 8 → I1 z = I z := fun z h => by funext i; exact hz z i (fun q => h q.1)
    have r11 : I1 (1 + 10) k = I 11 k := by rw [ez _ (by decide)]
    have mis : ∀ w : Int32, w = (if I 11 k ≤ 0 then 0 else 1) → ∃ I', fMo_release_61 kd I1 1 (nI k) 1 (I1 1 3) w = some I' ∧ RR I I' k per nd := by
      intro w hw
      generalize hI2 : ek_up I1 1 3 (I1 1 3 + w) = I2
      have z2 : ∀ z, z ≠ 1 → I2 z = I1 z := fun z h => by rw [← hI2]; exact ek_up_ne h
      have g2 : ∀ j, j ≠ 3 → I2 1 j = I 1 j := fun j h => by rw [← hI2, up_ne (fun q => h q.2), ez 1 (by decide)]
      have g3 : I2 1 3 = I 1 3 + (if I 11 k ≤ 0 then 0 else 1) := by rw [← hI2, up_same, hw, ez 1 (by decide)]
      have r1 : I2 1 1 = I 1 1 := g2 1 (by decide)
      have r8 : I2 (1 + 7) k = per := by rw [z2 _ (by decide)]; exact h8
      generalize hI3 : ek_up I2 (1 + 9) k (I 1 1 + per) = I3
      have r9 : I3 (1 + 9) k = I 1 1 + per := by rw [← hI3]; exact up_same
      generalize hI4 : ek_up I3 (1 + 14) k (I 1 1 + per) = I4
      have z4 : ∀ z i, ¬ (z = 10 ∧ i = k) → ¬ (z = 15 ∧ i = k) → I4 z i = I2 z i := fun z i h1 h2 => by rw [← hI4, up_ne h2, ← hI3, up_ne h1]
      have c4 : ∀ z, z ≠ 10 → z ≠ 15 → I4 z = I2 z := fun z h1 h2 => by funext i; exact z4 z i (fun q => h1 q.1) (fun q => h2 q.1)
      have r12 : I4 (1 + 11) k = I 12 k := by rw [c4 _ (by decide) (by decide), z2 _ (by decide), ez _ (by decide)]
      have r3 : I4 (1 + 2) k = I 3 k := by rw [c4 _ (by decide) (by decide), z2 _ (by decide), ez _ (by decide)]
      have e10 : I4 10 k = I 1 1 + per := by rw [← hI4, up_ne (by omega)]; exact r9
      have e15 : I4 15 k = I 1 1 + per := by rw [← hI4]; exact up_same
      have fin : ∃ I', fMo_release_124 kd I4 1 (nI k) (1 + 10) (nI k) nd = some I' ∧ RR I I' k per nd := by
        generalize hI6 : ek_up (ek_up I4 (1 + 10) k nd) (1 + 11) k (-1) = I6
        have z6 : ∀ z i, ¬ (z = 11 ∧ i = k) → ¬ (z = 12 ∧ i = k) → I6 z i = I4 z i := fun z i h1 h2 => by rw [← hI6, up_ne h2, up_ne h1]
        have c6 : ∀ z, z ≠ 11 → z ≠ 12 → I6 z = I4 z := fun z h1 h2 => by funext i; exact z6 z i (fun q => h1 q.1) (fun q => h2 q.1)
        have e11 : I6 (1 + 10) k = nd := by rw [← hI6, up_ne (by omega)]; exact up_same
        have e12 : I6 12 k = -1 := by rw [← hI6]; exact up_same
        have e13 : I6 (1 + 12) k = I 13 k := by rw [c6 _ (by decide) (by decide), c4 _ (by decide) (by decide), z2 _ (by decide), ez _ (by decide)]
        have e14 : I6 14 k = I 14 k := by rw [c6 _ (by decide) (by decide), c4 _ (by decide) (by decide), z2 _ (by decide), ez _ (by decide)]
        have e1 : I6 1 = I2 1 := by rw [c6 _ (by decide) (by decide), c4 _ (by decide) (by decide)]
        have all : ∀ z i, 2 ≤ z → i ≠ k → I6 z i = I z i := fun z i h1 h2 => by rw [z6 z i (fun q => h2 q.2) (fun q => h2 q.2), z4 z i (fun q => h2 q.2) (fun q => h2 q.2), z2 z (by omega), hz z i (fun q => h2 q.2)]
        have cel : ∀ z, 2 ≤ z → z ≠ 8 → z ≠ 10 → z ≠ 15 → z ≠ 11 → z ≠ 12 → I6 z = I z := fun z a b c d e f => by rw [c6 z e f, c4 z c d, z2 z (by omega), ez z b]
        simp only [fMo_release_124, ck_t hM.m1, ck_t hM.a1, ck_t hM.a2, ck_t hM.a3, ck_t hM.a4, ck_t hM.a5, ck_t hM.a6, ck_t hM.a7, ck_t hM.a8, ck_t hM.a9, ck_t hM.a10, ck_t hM.a11, ck_t hM.a12, ck_t hM.a13, ck_t hM.a14, ck_t hM.a15, ck_t hM.a16, ck_t hM.a17, ck_t (in12 hk), cl12 hk, let_e, hI6, e11, e13]
        by_cases q : nd ≤ 0
        · have q0 : nd = 0 := Int32.le_antisymm q (Int32.not_lt.mp hnd)
          rw [if_pos q]
          generalize hI7 : ek_up I6 (1 + 12) k (I 13 k + 1) = I7
          have z7 : ∀ z i, ¬ (z = 13 ∧ i = k) → I7 z i = I6 z i := fun z i h1 => by rw [← hI7, up_ne h1]
          have c7 : ∀ z, z ≠ 13 → I7 z = I6 z := fun z h1 => by funext i; exact z7 z i (fun q => h1 q.1)
          have r7 : I7 1 1 = I 1 1 := by rw [c7 1 (by decide), e1]; exact r1
          rw [r7]
          have c8 : ∀ z, z ≠ 14 → (ek_up I7 (1 + 13) k (I 1 1)) z = I7 z := fun z h => ek_up_ne h
          refine ⟨_, rfl, ?_, ?_, ?_, ?_, ?_, ?_, ?_, fun z i h1 h2 => ?_, fun z a b c d e f g h => ?_, ?_, fun j hj => ?_⟩
          · rw [c8 8 (by decide), c7 8 (by decide), c6 8 (by decide) (by decide), c4 8 (by decide) (by decide), z2 8 (by decide)]; exact h8
          · rw [c8 10 (by decide), c7 10 (by decide), c6 10 (by decide) (by decide)]; exact e10
          · rw [c8 15 (by decide), c7 15 (by decide), c6 15 (by decide) (by decide)]; exact e15
          · rw [c8 11 (by decide), c7 11 (by decide)]; exact e11
          · rw [c8 12 (by decide), c7 12 (by decide)]; exact e12
          · rw [c8 13 (by decide), if_pos q0, ← hI7]; exact up_same
          · rw [if_pos q0]; exact up_same
          · rw [up_ne (fun q => h2 q.2), z7 z i (fun q => h2 q.2)]; exact all z i h1 h2
          · rw [c8 z h, c7 z g]; exact cel z a b c d e f
          · rw [c8 1 (by decide), c7 1 (by decide), e1]; exact g3
          · rw [c8 1 (by decide), c7 1 (by decide), e1]; exact g2 j hj
        · have q0 : ¬ nd = 0 := fun z => q (by rw [z]; decide)
          rw [if_neg q]
          refine ⟨_, rfl, ?_, ?_, ?_, e11, e12, ?_, ?_, all, fun z a b c d e f g h => cel z a b c d e f, ?_, fun j hj => ?_⟩
          · rw [c6 8 (by decide) (by decide), c4 8 (by decide) (by decide), z2 8 (by decide)]; exact h8
          · rw [c6 10 (by decide) (by decide)]; exact e10
          · rw [c6 15 (by decide) (by decide)]; exact e15
          · rw [if_neg q0]; exact e13
          · rw [if_neg q0]; exact e14
          · rw [e1]; exact g3
          · rw [e1]; exact g2 j hj
      simp only [fMo_release_61, ck_t hM.m1, ck_t hM.a1, ck_t hM.a2, ck_t hM.a3, ck_t hM.a4, ck_t hM.a5, ck_t hM.a6, ck_t hM.a7, ck_t hM.a8, ck_t hM.a9, ck_t hM.a10, ck_t hM.a11, ck_t hM.a12, ck_t hM.a13, ck_t hM.a14, ck_t hM.a15, ck_t hM.a16, ck_t hM.a17, ck_t (in12 hk), cl12 hk, let_e, hI2, r1, r8, hI3, r9, hI4, r12, r3]
      by_cases q : I 12 k = -1
      · rw [if_pos q] at hnde ⊢
        rw [hnde]
        exact fin
      · rw [if_neg q] at hnde ⊢
        rw [hnde]
        exact fin
    simp only [fMo_release_42, ck_t hM.m1, ck_t hM.a1, ck_t hM.a2, ck_t hM.a3, ck_t hM.a4, ck_t hM.a5, ck_t hM.a6, ck_t hM.a7, ck_t hM.a8, ck_t hM.a9, ck_t hM.a10, ck_t hM.a11, ck_t hM.a12, ck_t hM.a13, ck_t hM.a14, ck_t hM.a15, ck_t hM.a16, ck_t hM.a17, ck_t (in12 hk), cl12 hk, r11]
    by_cases q : I 11 k ≤ 0
    · rw [if_pos q]
      exact mis 0 (by rw [if_pos q])
    · rw [if_neg q]
      exact mis 1 (by rw [if_neg q])
  have s30 : per = I 9 k → ∃ I', fMo_release_30 kd I 1 (nI k) = some I' ∧ RR I I' k per nd := by
    intro hp
    simp only [fMo_release_30, ck_t hM.m1, ck_t hM.a1, ck_t hM.a2, ck_t hM.a3, ck_t hM.a4, ck_t hM.a5, ck_t hM.a6, ck_t hM.a7, ck_t hM.a8, ck_t hM.a9, ck_t hM.a10, ck_t hM.a11, ck_t hM.a12, ck_t hM.a13, ck_t hM.a14, ck_t hM.a15, ck_t hM.a16, ck_t hM.a17, ck_t (in12 hk), cl12 hk, let_e]
    refine last _ ?_ (fun z i h => up_ne h)
    rw [hp]
    exact up_same
  simp only [fMo_release, fMo_release_0]
  by_cases c0 : cm = 0
  · rw [if_pos c0]
    simp only [ck_t hM.m1, ck_t hM.a1, ck_t hM.a2, ck_t hM.a3, ck_t hM.a4, ck_t hM.a5, ck_t hM.a6, ck_t hM.a7, ck_t hM.a8, ck_t hM.a9, ck_t hM.a10, ck_t hM.a11, ck_t hM.a12, ck_t hM.a13, ck_t hM.a14, ck_t hM.a15, ck_t hM.a16, ck_t hM.a17, ck_t (in12 hk), cl12 hk]
    by_cases c1 : I (1 + 7) k < I (1 + 8) k
    · rw [if_pos c1]
      exact s30 (by rw [← hper, if_neg (fun z => Int32.not_lt.mpr z.2 c1)])
    · rw [if_neg c1]
      by_cases c2 : I 1 1 < I 1 5
      · rw [if_pos c2]
        exact last I (by rw [← hper, if_pos ⟨c2, Int32.not_lt.mp c1⟩]) (fun _ _ _ => rfl)
      · rw [if_neg c2]
        exact s30 (by rw [← hper, if_neg (fun z => c2 z.1)])
  · rw [if_neg c0]
    rcases hcm with z | z
    · exact absurd z c0
    · exact s30 (by rw [← hper, if_neg (fun q => z q.1)])
