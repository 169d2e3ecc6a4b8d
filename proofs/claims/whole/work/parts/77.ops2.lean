/-! leave, add: of both -/
theorem mone {r : Nat} (h : r < 12) : ¬ nI r = -1 := fun q => by
  have : ¬ nI r < 0 := nI_pos (by omega)
  rw [q] at this
  exact this (by decide)
theorem j_leave {kd : Nat → Nat} {Ix Im : ek_St} {B : Nat} (hM : MK kd) (hB : B ≤ 2000000000) (h : ST Ix Im B) (a : Int32) : OK kd (fKe_leave kX Ix 1 a) (fMo_leave kd Im 1 a) B := by
  obtain ⟨π, n, F, L, t, G, hX, hm, hT, hG⟩ := h
  have hn := hX.1.1
  have hm0 := hm.code 0
  obtain ⟨r, hr, e1⟩ := s_find (ids := fun k => F k 0) hX.1 (fun k hk => hX.2.1 k 0 hk (by decide) (by decide)) a
  obtain ⟨r', hr', e2⟩ := t_find (ids := fun k => F k 0) hM hm0.1.1 hm0.1.2 (fun k hk => hm0.2.1 k 0 hk (by decide) (by decide)) a
  have er := hr.uniq hr'
  subst er
  have e1' : fRo_find kX Ix (1 + 1) a = some (Ix, if r < n then tk (π r) else 0) := e1
  simp only [fKe_leave, fKe_leave_0, ck_t k1, ck_t k11, e1', bi_s, fMo_leave, fMo_leave_0, ck_t hM.m1, let_e, e2, ck0]
  by_cases hrn : r < n
  · have hr12 : r < 12 := by omega
    rw [if_pos hrn, if_pos hrn, if_neg tkne, if_neg (mone hr12)]
    have hk6 := (kX_tk _ (hX.1.2.2.1 r hr12).1).1
    have c1 : Ix (tk (π r)) 5 = F r 5 := hX.2.1 r 5 hrn (by decide) (by decide)
    have c2 : ek_up Im 1 0 0 (1 + 6) r = F r 5 := hm0.2.1 r 5 hrn (by decide) (by decide)
    simp only [ck_t hk6, c1, ck_t hM.m1, ck_t hM.a1, ck_t hM.a2, ck_t hM.a3, ck_t hM.a4, ck_t hM.a5, ck_t hM.a6, ck_t hM.a7, ck_t hM.a8, ck_t hM.a9, ck_t hM.a10, ck_t hM.a11, ck_t hM.a12, ck_t hM.a13, ck_t hM.a14, ck_t hM.a15, ck_t hM.a16, ck_t hM.a17, ck_t (in12 hr12), cl12 hr12, c2]
    obtain ⟨th, g1, g2, g3, g4⟩ := hG.1
    by_cases h2 : F r 5 = 2
    · rw [if_pos h2, if_pos h2]
      exact ⟨_, _, _, rfl, rfl, π, n, F, L, t, G, hX, hm0, hT, hG⟩
    · rw [if_neg h2, if_neg h2]
      by_cases h0 : F r 5 = 0
      · rw [if_pos h0, if_pos h0]
        obtain ⟨Ix1, d1, d2, d3⟩ := s_drop hX.1 hrn
        have hX1 := hX.drop hrn d2 d3
        obtain ⟨Im1, b1, b2, -⟩ := RM.remove hM hm0 hrn
        have hT1 := hT.del hrn
        obtain ⟨Ix2, Im2, e3, e4, hs, -⟩ := j_solve (th := th) hM hB hX1 b2 hT1 hG.2.2.1 hG.2.2.2 g1 g2 g3 (Rat.le_trans (lo_del_le hrn) g4)
        have d1' : fRo_drop kX Ix (1 + 1) (tk (π r)) = some Ix1 := d1
        simp only [d1', bv_s, fKe_leave_46, ck_t k1, e3, b1, fMo_leave_52, ck_t hM.m1, e4, ck1]
        exact ⟨_, _, _, rfl, rfl, hs⟩
      · rw [if_neg h0, if_neg h0]
        have hX1 := hX.put (v := 2) hrn (j := 5) (by decide) (fun _ => Or.inl rfl)
        have hm1 := hm0.put (v := 2) hrn (j := 5) (by decide) (by decide) (by decide) (by decide) (fun _ => Or.inl rfl)
        have hd := hT.2.2.2 r hrn
        have hT1 : WT n (fset F r 5 2) B := hT.put hrn (by decide) (by
          unfold DY at hd ⊢
          rw [fset_eq, fset_ne (by omega), fset_ne (by omega), fset_ne (by omega), fset_ne (by omega), fset_ne (by omega)]
          exact ⟨Or.inr (Or.inr rfl), hd.2.1, hd.2.2.1, hd.2.2.2.1, hd.2.2.2.2.1, fun q => absurd q (by decide), fun q => absurd rfl q⟩)
        have hG1 := hG.put (p := r) (j := 5) (v := 2) (by decide)
        obtain ⟨th', g1', g2', g3', g4'⟩ := hG1.1
        obtain ⟨Ix2, Im2, e3, e4, hs, -⟩ := j_solve (th := th') hM hB hX1 hm1 hT1 hG.2.2.1 hG.2.2.2 g1' g2' g3' g4'
        have e4' : fMo_solve kd (ek_up (ek_up Im 1 0 0) (1 + 6) r 2) 1 = some Im2 := e4
        simp only [fKe_leave_46, ck_t k1, e3, bv_s, fMo_leave_52, ck_t hM.m1, e4', ck1]
        exact ⟨_, _, _, rfl, rfl, hs⟩
  · rw [if_neg hrn, if_neg hrn, if_pos rfl, if_pos rfl]
    exact ⟨_, _, _, rfl, rfl, π, n, F, L, t, G, hX, hm0, hT, hG⟩
abbrev AP (a c s l f : Int32) : Prop := (1 ≤ a ∧ a ≤ 99) ∧ (1 ≤ c ∧ c ≤ s ∧ s ≤ l ∧ l ≤ 20000) ∧ 1 ≤ f ∧ f ≤ 1000
theorem s_periods {I : ek_St} {c s l : Int32} : fKe_arePeriods kX I c s l = some (I, bI (decide (1 ≤ c ∧ c ≤ s ∧ s ≤ l ∧ l ≤ 20000))) := by
  simp only [fKe_arePeriods, fKe_arePeriods_0, fKe_arePeriods_26, ck0, ck1]
  by_cases h1 : c < 1
  · rw [if_pos h1, decide_eq_false (fun q => Int32.not_lt.mpr q.1 h1)]
    rfl
  · rw [if_neg h1]
    by_cases h2 : s < c
    · rw [if_pos h2, decide_eq_false (fun q => Int32.not_lt.mpr q.2.1 h2)]
      rfl
    · rw [if_neg h2]
      by_cases h3 : l < s
      · rw [if_pos h3, decide_eq_false (fun q => Int32.not_lt.mpr q.2.2.1 h3)]
        rfl
      · rw [if_neg h3]
        by_cases h4 : 20000 < l
        · rw [if_pos h4, decide_eq_false (fun q => Int32.not_lt.mpr q.2.2.2 h4)]
          rfl
        · rw [if_neg h4, decide_eq_true ⟨Int32.not_lt.mp h1, Int32.not_lt.mp h2, Int32.not_lt.mp h3, Int32.not_lt.mp h4⟩]
          rfl
theorem s_add_no {I : ek_St} {a c s l f : Int32} (h : ¬ AP a c s l f) : fKe_add kX I 1 a c s l f = some (I, -1) := by
  simp only [fKe_add, fKe_add_0, s_within, s_periods, bi_s]
  by_cases h1 : 1 ≤ a ∧ a ≤ 99
  · rw [decide_eq_true h1, if_neg (by decide)]
    by_cases h2 : 1 ≤ c ∧ c ≤ s ∧ s ≤ l ∧ l ≤ 20000
    · rw [decide_eq_true h2, if_neg (by decide), decide_eq_false (fun q => h ⟨h1, h2, q⟩), if_pos (by decide)]
    · rw [decide_eq_false h2, if_pos (by decide)]
  · rw [decide_eq_false h1, if_pos (by decide)]
theorem t_add_no {kd : Nat → Nat} {I : ek_St} {a c s l f : Int32} (hM : MK kd) (h : ¬ AP a c s l f) : fMo_add5 kd I 1 a c s l f = some (ek_up I 1 0 0, -1) := by
  simp only [fMo_add5, fMo_add5_0, ck_t hM.m1, let_e]
  by_cases q0 : a < 1
  · rw [if_pos q0]
  rw [if_neg q0]
  by_cases q1 : 99 < a
  · rw [if_pos q1]
  rw [if_neg q1]
  by_cases q2 : c < 1
  · rw [if_pos q2]
  rw [if_neg q2]
  by_cases q3 : s < 1
  · rw [if_pos q3]
  rw [if_neg q3]
  by_cases q4 : 20000 < s
  · rw [if_pos q4]
  rw [if_neg q4]
  by_cases q5 : l < 1
  · rw [if_pos q5]
  rw [if_neg q5]
  by_cases q6 : 20000 < l
  · rw [if_pos q6]
  rw [if_neg q6]
  by_cases q7 : s < c
  · rw [if_pos q7]
  rw [if_neg q7]
  by_cases q8 : l < s
  · rw [if_pos q8]
  rw [if_neg q8]
  by_cases q9 : f < 1
  · rw [if_pos q9]
  rw [if_neg q9]
  by_cases q10 : 1000 < f
  · rw [if_pos q10]
  rw [if_neg q10]
  exact absurd ⟨⟨Int32.not_lt.mp q0, Int32.not_lt.mp q1⟩, ⟨Int32.not_lt.mp q2, Int32.not_lt.mp q7, Int32.not_lt.mp q8, Int32.not_lt.mp q6⟩, Int32.not_lt.mp q9, Int32.not_lt.mp q10⟩ h
/-- a row is free at p, and it is filled -/
theorem t_row {kd : Nat → Nat} {I : ek_St} {n : Nat} {F : Nat → Nat → Int32} {L : Nat → Rat} {t : Rat} {G : Nat → Int32} (h : RM I n F L t G (fun _ => False)) (hn : n < 12) {p : Nat} (hp : p ≤ n) {I1 J : ek_St} (x : Nat → Int32) (r : RW I I1 (fun k => if p < k ∧ k ≤ n then k - 1 else k)) (j17 : J 1 7 = nI (n + 1)) (j1 : ∀ j, j ≠ 7 → J 1 j = I1 1 j) (jf : ∀ k j, j < 13 → j ≠ 7 → J (2 + j) k = if k = p then x j else I1 (2 + j) k) (jd : ∀ k, J 15 k = if k = p then x 8 else I1 15 k) (j9 : J 9 = I1 9) (j16 : J 16 = I1 16) (j17' : J 17 = I1 17) : RM J (n + 1) (ins p x F) (ins p 0 L) t G (fun k => k = p) := by
  obtain ⟨h1, h2, h3, h4, h5, h6, h7, h8⟩ := h
  have c17 : ∀ {m v}, Hm I1 1 m v → Hm J 1 m v := fun h => Hr.cell h j17'
  have σk : ∀ k, k < n + 1 → k ≠ p → (if p < k ∧ k ≤ n then k - 1 else k) = if k < p then k else k - 1 := by
    intro k hk hne
    by_cases q : k < p
    · rw [if_pos q, if_neg (by omega)]
    · rw [if_neg q, if_pos (by omega)]
  have lt : ∀ k, k < n + 1 → k ≠ p → (if k < p then k else k - 1) < n := by
    intro k hk hne
    split <;> omega
  have row : ∀ z k, 2 ≤ z → z ≤ 16 → k < n + 1 → k ≠ p → I1 z k = I z (if k < p then k else k - 1) := by
    intro z k hz1 hz2 hk hne
    have r2 : I1 z k = I z (if p < k ∧ k ≤ n then k - 1 else k) := r.2.1 z k hz1 hz2 (by omega)
    rw [r2, σk k hk hne]
  have il : ∀ {α : Type} (y : α) (X : Nat → α) k, k ≠ p → ins p y X k = X (if k < p then k else k - 1) := by
    intro α y X k hne
    unfold ins
    by_cases q : k < p
    · rw [if_pos q, if_pos q]
    · rw [if_neg q, if_neg hne, if_neg q]
  have ip : ∀ {α : Type} (y : α) (X : Nat → α), ins p y X p = y := by
    intro α y X
    unfold ins
    rw [if_neg (Nat.lt_irrefl p), if_pos rfl]
  refine ⟨⟨by omega, j17⟩, fun k j hk hj hj7 => ?_, fun k hk => ?_, fun k hk hE hc => ?_, ?_, ?_, ?_, fun j hj => ?_⟩
  · rw [jf k j hj hj7]
    by_cases q : k = p
    · rw [if_pos q, q, ip x F]
    · rw [if_neg q, row _ k (by omega) (by omega) hk q, il x F k q]
      exact h2 _ j (lt k hk q) hj hj7
  · rw [jd k]
    by_cases q : k = p
    · rw [if_pos q, q, ip x F]
    · rw [if_neg q, row _ k (by decide) (by decide) hk q, il x F k q]
      exact h3 _ (lt k hk q)
  · rw [j9, j16, row 9 k (by decide) (by decide) hk hE, row 16 k (by decide) (by decide) hk hE]
    rw [il x F k hE] at hc
    show _ ∧ I 16 _ = bI (decide (tn (ins p x F k 2) ≠ tn (ins p x F k 3) ∧ ins p 0 L k = mkRat (tn (ins p x F k 1)) (tn (ins p x F k 3)))) ∧ _
    rw [il x F k hE, il 0 L k hE]
    obtain ⟨a1, a2, a3⟩ := h4 _ (lt k hk hE) (fun q => q) hc
    refine ⟨a1, a2, ?_⟩
    obtain ⟨N, D, b1, b2, b3⟩ := a3
    refine ⟨N, D, c17 (r.2.2.1 k N (by omega) ?_), c17 (r.2.2.2.1 k D (by omega) ?_), b3⟩
    · show Hm I 1 (2 * (if p < k ∧ k ≤ n then k - 1 else k)) N
      rw [σk k hk hE]
      exact b1
    · show Hm I 1 (2 * (if p < k ∧ k ≤ n then k - 1 else k) + 1) D
      rw [σk k hk hE]
      exact b2
  · obtain ⟨N, D, b1, b2, b3⟩ := h5
    exact ⟨N, D, c17 (r.2.2.2.2.1 _ _ (by decide) (by decide) b1), c17 (r.2.2.2.2.1 _ _ (by decide) (by decide) b2), b3⟩
  · intro m hm
    obtain ⟨v, hv⟩ := h6.rw r m hm
    exact ⟨v, c17 hv⟩
  · intro k hk
    rw [j16]
    exact BV.rw h7 r k hk
  · rw [j1 _ (by omega), r.2.2.2.2.2]
    exact h8 j hj
