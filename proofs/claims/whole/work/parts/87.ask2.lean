theorem j_task {kd : Nat → Nat} {Ix Im : ek_St} {B : Nat} (hM : MK kd) (h : ST Ix Im B) (i a : Int32) : OK kd (fKe_task kX Ix 1 i a) (fMo_task kd Im 1 i a) B := by
  obtain ⟨π, n, F, L, t, G, hX, hm, hT, hG⟩ := h
  have hn := hX.1.1
  have hm0 := hm.code 0
  obtain ⟨r, hr, e1⟩ := s_find (ids := fun k => F k 0) hX.1 (fun k hk => hX.2.1 k 0 hk (by decide) (by decide)) i
  obtain ⟨r', hr', e2⟩ := t_find (ids := fun k => F k 0) hM hm0.1.1 hm0.1.2 (fun k hk => hm0.2.1 k 0 hk (by decide) (by decide)) i
  have er := hr.uniq hr'
  subst er
  have e1' : fRo_find kX Ix (1 + 1) i = some (Ix, if r < n then tk (π r) else 0) := e1
  simp only [fKe_task, fKe_task_0, ck_t k1, ck_t k11, e1', bi_s, fMo_task, fMo_task_0, ck_t hM.m1, let_e, e2, fMo_task_181]
  generalize hI0 : ek_up Im 1 0 0 = I0 at *
  have same : ∀ v : Int32, OK kd (some (Ix, v)) (some (I0, v)) B := fun v => ⟨_, _, _, rfl, rfl, π, n, F, L, t, G, hX, hm0, hT, hG⟩
  by_cases hrn : r < n
  · have hr12 : r < 12 := by omega
    have hπr := (hX.1.2.2.1 r hr12).1
    rw [if_pos hrn, if_pos hrn, if_neg tkne, if_neg (mone hr12)]
    have hk6 := (kX_tk _ hπr).1
    have cx : ∀ j, j < 13 → j ≠ 7 → Ix (tk (π r)) j = F r j := fun j h1 h2 => hX.2.1 r j hrn h1 h2
    have cm : ∀ j, j < 13 → j ≠ 7 → I0 (2 + j) r = F r j := fun j h1 h2 => hm0.2.1 r j hrn h1 h2
    have m5 : I0 (1 + 6) r = F r 5 := cm 5 (by decide) (by decide)
    have m6 : I0 (1 + 7) r = F r 6 := cm 6 (by decide) (by decide)
    have m8 : I0 (1 + 9) r = F r 8 := cm 8 (by decide) (by decide)
    have m9 : I0 (1 + 10) r = F r 9 := cm 9 (by decide) (by decide)
    have m11 : I0 (1 + 12) r = F r 11 := cm 11 (by decide) (by decide)
    have m12 : I0 (1 + 13) r = F r 12 := cm 12 (by decide) (by decide)
    have hd := hT.2.2.2 r hrn
    simp only [ck_t hk6, cx 5 (by decide) (by decide), cx 6 (by decide) (by decide), cx 8 (by decide) (by decide), cx 9 (by decide) (by decide), cx 11 (by decide) (by decide), cx 12 (by decide) (by decide), ck_t hM.m1, ck_t hM.a1, ck_t hM.a2, ck_t hM.a3, ck_t hM.a4, ck_t hM.a5, ck_t hM.a6, ck_t hM.a7, ck_t hM.a8, ck_t hM.a9, ck_t hM.a10, ck_t hM.a11, ck_t hM.a12, ck_t hM.a13, ck_t hM.a14, ck_t hM.a15, ck_t hM.a16, ck_t hM.a17, ck_t (in12 hr12), cl12 hr12, m5, m6, m8, m9, m11, m12]
    by_cases a0 : a = 0
    · rw [if_pos a0, if_pos a0]
      exact same _
    rw [if_neg a0, if_neg a0]
    by_cases a1 : a = 1
    · rw [if_pos a1, if_pos a1]
      by_cases p0 : F r 5 = 0
      · rw [if_pos p0, (hd.2.2.2.2.2.1 p0).1]
        exact same _
      · rw [if_neg p0]
        exact same _
    rw [if_neg a1, if_neg a1]
    by_cases a2 : a = 2
    · rw [if_pos a2, if_pos a2]
      by_cases p2 : F r 5 = 2
      · rw [if_pos p2, if_pos p2]
        exact same _
      · rw [if_neg p2, if_neg p2, (hX.2.2.1 r hrn (fun z => z) p2).1]
        have m7 : I0 (1 + 8) r = F r 7 := (hm0.2.2.2.1 r hrn (fun z => z) p2).1
        rw [m7]
        exact same _
    rw [if_neg a2, if_neg a2]
    by_cases a3 : a = 3
    · rw [if_pos a3, if_pos a3]
      by_cases p0 : F r 5 = 0
      · rw [if_pos p0, (hd.2.2.2.2.2.1 p0).2]
        exact same _
      · rw [if_neg p0]
        exact same _
    rw [if_neg a3, if_neg a3]
    by_cases a4 : a = 4
    · rw [if_pos a4, if_pos a4]
      exact same _
    rw [if_neg a4, if_neg a4]
    by_cases a5 : a = 5
    · rw [if_pos a5, if_pos a5]
      exact same _
    rw [if_neg a5, if_neg a5]
    by_cases a6 : a = 6
    · rw [if_pos a6, if_pos a6]
      exact same _
    rw [if_neg a6, if_neg a6]
    by_cases a7 : a = 7
    · rw [if_pos a7, if_pos a7, s_flat hX hT.1 hrn, bi_s]
      by_cases p2 : F r 5 = 2
      · rw [if_pos p2, decide_eq_false (fun z => z.1 p2), if_pos (by decide)]
        exact same _
      · rw [if_neg p2]
        have m15 : I0 (1 + 15) r = bI (decide (sF F r ≠ lF F r ∧ L r = lo' (cF F) (lF F) r)) := (hm0.2.2.2.1 r hrn (fun z => z) p2).2.1
        rw [m15]
        by_cases hc : sF F r ≠ lF F r ∧ L r = lo' (cF F) (lF F) r
        · rw [decide_eq_true (show F r 5 ≠ 2 ∧ sF F r ≠ lF F r ∧ L r = lo' (cF F) (lF F) r from ⟨p2, hc⟩), decide_eq_true hc, if_neg (by decide), if_neg (by decide)]
          exact same _
        · rw [decide_eq_false (show ¬ (F r 5 ≠ 2 ∧ sF F r ≠ lF F r ∧ L r = lo' (cF F) (lF F) r) from fun z => hc z.2), decide_eq_false hc, if_pos (by decide), if_pos (by decide)]
          exact same _
    rw [if_neg a7, if_neg a7]
    exact same _
  · rw [if_neg hrn, if_neg hrn, if_pos rfl, if_pos rfl]
    exact same _
/-- rounded up -/
def cdv (a b : Nat) : Nat := a / b + if a % b = 0 then 0 else 1
theorem cdv_spec {a b m : Nat} (hb : 0 < b) : cdv a b ≤ m ↔ a ≤ b * m := by
  unfold cdv
  have h1 := Nat.div_add_mod a b
  have h2 := Nat.mod_lt a hb
  constructor
  · intro hm
    have h3 : b * (a / b + if a % b = 0 then 0 else 1) ≤ b * m := Nat.mul_le_mul_left _ hm
    rw [Nat.mul_add] at h3
    split at h3 <;> omega
  · intro hm
    split
    · rw [Nat.add_zero]
      exact Nat.div_le_of_le_mul hm
    · rename_i h3
      have h4 : a / b < m := by
        apply Nat.lt_of_mul_lt_mul_left (a := b)
        omega
      omega
theorem cdv_mk {N D : Nat} (hD : 0 < D) : cdv ((mkRat (N : Nat) D).num.toNat * 1000) (mkRat (N : Nat) D).den = cdv (N * 1000) D := by
  have hmk := mk_div (n := N) (d := D) (by omega)
  rw [hmk.1, hmk.2, Int.toNat_natCast]
  have hg : 0 < Nat.gcd N D := Nat.gcd_pos_of_pos_right _ hD
  have e1 : N / Nat.gcd N D * Nat.gcd N D = N := Nat.div_mul_cancel (Nat.gcd_dvd_left _ _)
  have e2 : D / Nat.gcd N D * Nat.gcd N D = D := Nat.div_mul_cancel (Nat.gcd_dvd_right _ _)
  generalize N / Nat.gcd N D = a at *
  generalize D / Nat.gcd N D = b at *
  generalize Nat.gcd N D = g at *
  have hb : 0 < b := by
    rcases Nat.eq_zero_or_pos b with z | z
    · rw [z, Nat.zero_mul] at e2
      omega
    · exact z
  have key : ∀ m, cdv (a * 1000) b ≤ m ↔ cdv (N * 1000) D ≤ m := by
    intro m
    rw [cdv_spec hb, cdv_spec hD]
    have e3 : N * 1000 = a * 1000 * g := by rw [← e1]; grind
    have e4 : D * m = b * m * g := by rw [← e2]; grind
    rw [e3, e4]
    constructor
    · intro h
      exact Nat.mul_le_mul_right _ h
    · intro h
      exact Nat.le_of_mul_le_mul_right h hg
  exact Nat.le_antisymm ((key _).mpr (Nat.le_refl _)) ((key _).mp (Nat.le_refl _))
theorem t_unused {kd : Nat → Nat} {I : ek_St} {X : Rat} (hM : MK kd) (h : MV I 24 X) (hX : X ≤ 1) : ∃ I', fMo_unused kd I 1 = some (I', I 1 2 - nI (cdv (X.num.toNat * 1000) X.den)) ∧ MF I I' 1 [30, 31] := by
  obtain ⟨N, D, a1, a2, a3, a4, a5, rfl⟩ := h
  rw [cdv_mk a3]
  have hND : N ≤ D := by
    have h1 : mkRat (N : Nat) D ≤ mkRat ((1 : Nat) : Int) 1 := hX
    have := (mk_le_iff a3 (by decide)).mp h1
    omega
  have hc : cdv (N * 1000) D ≤ 1000 := (cdv_spec a3).mpr (Nat.mul_le_mul_right _ hND)
  have bQ : QB * 1000 < 2 ^ (24 * 24) := by decide +kernel
  obtain ⟨I1, e1, h1, f1⟩ := t_copy (I := I) (k := 30) hM.mn (by decide) (by decide) (by decide) a1
  obtain ⟨I2, e2, h2, f2⟩ := t_times (I := I1) (f := 1000) hM.mn (by decide) h1 (by decide) (Nat.lt_of_le_of_lt (Nat.mul_le_mul_right _ a5) bQ)
  obtain ⟨I3, e3, h3, f3⟩ := t_be (I := I2) (k := 31) (v := 0) hM.mn (by decide) (by decide)
  have e1' : fMo_copy kd I 1 (30 : Int32) (24 : Int32) = some I1 := e1
  have e2' : fMo_times kd I1 1 (30 : Int32) (1000 : Int32) = some I2 := e2
  have e3' : fMo_be kd I2 1 (31 : Int32) (0 : Int64) = some I3 := e3
  have m3 : MF I I3 1 [30, 31] := ((f1.mf (by simp)).trans (f2.mf (by simp))).trans (f3.mf (by simp))
  have goal : ∃ r, fMo_unused kd I 1 = some r ∧ r.2 = I 1 2 - nI (cdv (N * 1000) D) ∧ MF I r.1 1 [30, 31] := by
    simp only [fMo_unused, fMo_unused_0, ck_t hM.m1, e1', bv_s, e2', e3']
    refine lp_for (fun i Q => ∃ I', Q = (I', 1, nI i) ∧ MF I I' 1 [30, 31] ∧ Hm I' 1 30 (N * 1000) ∧ Hm I' 1 31 (D * i) ∧ i ≤ cdv (N * 1000) D) (fun r : ek_St × Int32 => r.2 = I 1 2 - nI (cdv (N * 1000) D) ∧ MF I r.1 1 [30, 31]) (cdv (N * 1000) D) ⟨I3, rfl, m3, Hr.fm h2 f3 (by decide), h3, Nat.zero_le _⟩ ?_ ?_ (by omega)
    · rintro kk i Q hi ⟨I4, rfl, m4, x4, y4, hle⟩ hkk
      have ec := t_compare (I := I4) hM.mn (by decide) (by decide) y4 x4
      have hlt : D * i < N * 1000 := by
        rcases Nat.lt_or_ge (D * i) (N * 1000) with z | z
        · exact z
        · have := (cdv_spec (m := i) a3).mpr z
          omega
      have d4 := m4.1 _ _ (by decide) (by decide) a2
      have b1 : D * i + D ≤ QB * 1000 := by
        rw [← Nat.mul_succ]
        exact Nat.mul_le_mul a4 (by omega)
      obtain ⟨I5, e5, h5, f5⟩ := t_plus (I := I4) hM.mn (by decide) (by decide) y4 d4 (Nat.lt_of_le_of_lt b1 bQ)
      simp only [fMo_unused_26, ck_t hM.m1, l30, l31, l25, ec, bi_s, if_neg (show ¬ (0 : Int32) ≤ sg (((D * i : Nat) : Int) - ((N * 1000 : Nat) : Int)) by rw [← Int32.not_lt, sg_neg]; omega), e5, bv_s, let_e]
      exact hkk _ ⟨I5, by rw [nI_succ], m4.trans (f5.mf (by simp)), Hr.fm x4 f5 (by decide), by rw [Nat.mul_succ]; exact h5, by omega⟩
    · rintro kk Q ⟨I4, rfl, m4, x4, y4, hle⟩
      have ec := t_compare (I := I4) hM.mn (by decide) (by decide) y4 x4
      have hge : N * 1000 ≤ D * cdv (N * 1000) D := (cdv_spec a3).mp (Nat.le_refl _)
      have e12 : I4 1 2 = I 1 2 := by rw [m4.2 1 (by decide)]
      generalize D * cdv (N * 1000) D = z at *
      simp only [fMo_unused_26, ck_t hM.m1, l30, l31, ec, bi_s, if_pos (show (0 : Int32) ≤ sg (((z : Nat) : Int) - ((N * 1000 : Nat) : Int)) by rw [← Int32.not_lt, sg_neg]; omega), e12]
      exact ⟨_, rfl, rfl, m4⟩
  obtain ⟨⟨I', r⟩, e, g1, g2⟩ := goal
  have g1 : r = I 1 2 - nI (cdv (N * 1000) D) := g1
  exact ⟨I', by rw [e, g1], g2⟩
theorem j_state {kd : Nat → Nat} {Ix Im : ek_St} {B : Nat} (hM : MK kd) (h : ST Ix Im B) (a : Int32) : OK kd (fKe_state kX Ix 1 a) (fMo_state kd Im 1 a) B := by
  obtain ⟨π, n, F, L, t, G, hX, hm, hT, hG⟩ := h
  have hm0 := hm.code 0
  simp only [fKe_state, fKe_state_0, ck_t k1, ck_t k11, ck_t k75, fMo_state, fMo_state_0, ck_t hM.m1, let_e]
  generalize hI0 : ek_up Im 1 0 0 = I0 at *
  have same : ∀ v : Int32, OK kd (some (Ix, v)) (some (I0, v)) B := fun v => ⟨_, _, _, rfl, rfl, π, n, F, L, t, G, hX, hm0, hT, hG⟩
  have x0 : Ix 1 2 = G 0 := hX.2.2.2.2 0 (by decide)
  have x1 : Ix 1 3 = G 1 := hX.2.2.2.2 1 (by decide)
  have x2 : Ix 1 4 = G 2 := hX.2.2.2.2 2 (by decide)
  have x3 : Ix 1 5 = G 3 := hX.2.2.2.2 3 (by decide)
  have x4 : Ix 1 6 = G 4 := hX.2.2.2.2 4 (by decide)
  have x5 : Ix 1 7 = G 5 := hX.2.2.2.2 5 (by decide)
  have y0 : I0 1 1 = G 0 := hm0.2.2.2.2.2.2.2 0 (by decide)
  have y1 : I0 1 2 = G 1 := hm0.2.2.2.2.2.2.2 1 (by decide)
  have y2 : I0 1 3 = G 2 := hm0.2.2.2.2.2.2.2 2 (by decide)
  have y3 : I0 1 4 = G 3 := hm0.2.2.2.2.2.2.2 3 (by decide)
  have y4 : I0 1 5 = G 4 := hm0.2.2.2.2.2.2.2 4 (by decide)
  have y5 : I0 1 6 = G 5 := hm0.2.2.2.2.2.2.2 5 (by decide)
  have xn : Ix (1 + 1) 1 = nI n := hX.1.2.1
  have yn : I0 1 7 = nI n := hm0.1.2
  simp only [x0, x1, x2, x3, x4, x5, y0, y1, y2, y3, y4, y5, xn, yn]
  by_cases a0 : a = 0
  · rw [if_pos a0, if_pos a0]; exact same _
  rw [if_neg a0, if_neg a0]
  by_cases a1 : a = 1
  · rw [if_pos a1, if_pos a1]; exact same _
  rw [if_neg a1, if_neg a1]
  by_cases a2 : a = 2
  · rw [if_pos a2, if_pos a2]; exact same _
  rw [if_neg a2, if_neg a2]
  by_cases a3 : a = 3
  · rw [if_pos a3, if_pos a3]; exact same _
  rw [if_neg a3, if_neg a3]
  by_cases a4 : a = 4
  · rw [if_pos a4, if_pos a4]
    obtain ⟨I1, e1, f1⟩ := s_inUse hX.2.2.2.1 hG.2.1.1 hG.2.1.2
    have e1' : fSp_thousandthsInUse kX Ix (1 + 75) = some (I1, nI (cdv (t.num.toNat * 1000) t.den)) := e1
    obtain ⟨I2, e2, m2⟩ := t_unused hM hm0.2.2.2.2.1 hG.2.1.1
    rw [e1', bi_s, e2, bi_s, y1]
    exact ⟨_, _, _, rfl, rfl, π, n, F, L, t, G, hX.far (fun z hz => f1 z (by simp; omega)) (f1 _ (by decide)) (f1 _ (by decide)), hm0.mf m2 (by decide), hT, hG⟩
  rw [if_neg a4, if_neg a4]
  by_cases a5 : a = 5
  · rw [if_pos a5, if_pos a5]; exact same _
  rw [if_neg a5, if_neg a5]
  by_cases a6 : a = 6
  · rw [if_pos a6, if_pos a6]; exact same _
  rw [if_neg a6, if_neg a6]
  by_cases a7 : a = 7
  · rw [if_pos a7, if_pos a7]; exact same _
  rw [if_neg a7, if_neg a7]
  exact same _
