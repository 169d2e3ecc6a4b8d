/-! task, rate, total, state: of both -/
theorem dg_big {v n k : Nat} (h : v < 2 ^ (24 * n)) (hk : n ≤ k) : dg v k = 0 := by
  unfold dg
  rw [Nat.div_eq_of_lt (Nat.lt_of_lt_of_le h (Nat.pow_le_pow_right (by decide) (by omega)))]
theorem s_wordN {I : ek_St} {x a k : Nat} (hx : NatK kX x) (ha : Hr I (x + 1) 0 16 a) (hk : k < 2 ^ 31) : fNa_word kX I x (nI k) = some (I, nI (dg a k)) := by
  have h := s_word (I := I) hx ha (k : Int) (by omega) (by omega)
  have e : Int32.ofInt (k : Int) = nI k := Int32.ofInt_eq_ofNat
  rw [e, if_neg (by omega), Int.toNat_natCast] at h
  exact h
theorem s_wordOf {I : ek_St} {f : Nat} {X : Rat} {part k : Int32} (hf : FrK kX f) (h : FrQ I f X) : ∃ r, fKe_wordOf kX I f part k = some (I, r) ∧ ((part < 0 ∨ 1 < part ∨ k < 0) → r = -1) ∧ (¬ (part < 0 ∨ 1 < part ∨ k < 0) → ∃ m, k = nI m ∧ m < 2 ^ 31 ∧ r = nI (dg (if part = 0 then X.num.toNat else X.den) m)) := by
  simp only [fKe_wordOf, fKe_wordOf_0]
  by_cases h1 : part < 0
  · rw [if_pos h1]
    exact ⟨_, rfl, fun _ => rfl, fun q => absurd (Or.inl h1) q⟩
  · rw [if_neg h1]
    by_cases h2 : 1 < part
    · rw [if_pos h2]
      exact ⟨_, rfl, fun _ => rfl, fun q => absurd (Or.inr (Or.inl h2)) q⟩
    · rw [if_neg h2]
      by_cases h3 : 0 ≤ k
      · rw [if_pos h3]
        obtain ⟨m, hm, rfl⟩ := nI_of (Int32.not_lt.mpr h3)
        have hno : ¬ (part < 0 ∨ 1 < part ∨ nI m < 0) := fun q => q.elim h1 (fun q => q.elim h2 (Int32.not_lt.mpr h3))
        by_cases h4 : part = 0
        · rw [if_pos h4]
          simp only [ck_t hf.1, ck_t hf.2.1.1, s_wordN hf.2.1 h.2.1 hm, bi_s]
          exact ⟨_, rfl, fun q => absurd q hno, fun _ => ⟨m, rfl, hm, by rw [if_pos h4]⟩⟩
        · rw [if_neg h4]
          simp only [ck_t hf.1, ck_t hf.2.2.1, s_wordN hf.2.2 h.2.2 hm, bi_s]
          exact ⟨_, rfl, fun q => absurd q hno, fun _ => ⟨m, rfl, hm, by rw [if_neg h4]⟩⟩
      · rw [if_neg h3]
        exact ⟨_, rfl, fun _ => rfl, fun q => absurd (Or.inr (Or.inr (Int32.not_le.mp h3))) q⟩
theorem t_wordOf {kd : Nat → Nat} {I : ek_St} {j m : Nat} {X : Rat} {part : Int32} (hM : MK kd) (hj : j < 26) (h : MV I j X) (hm : m < 2 ^ 31) : ∃ I', fMo_wordOf kd I 1 (nI j) part (nI m) = some (I', nI (dg (if part = 0 then X.num.toNat else X.den) m)) ∧ MF I I' 1 [30, 31, 32, 33, 34, 35] := by
  obtain ⟨N, D, a1, a2, a3, a4, a5, rfl⟩ := h
  have hQ : QB < 2 ^ 575 := by decide +kernel
  obtain ⟨I1, e1, h1, f1⟩ := t_copy (I := I) (k := 30) hM.mn (by decide) (by omega) (by omega) a1
  have d1 := Hr.fm a2 f1 (by omega)
  obtain ⟨I2, e2, h2, f2⟩ := t_copy (I := I1) (k := 31) hM.mn (by decide) (by omega) (by omega) d1
  have n2 := Hr.fm h1 f2 (by decide)
  obtain ⟨I3, e3, h3, h3', m3⟩ := t_reduce (I := I2) hM.mn (by decide) (by decide) (by decide) n2 h2 a3 (Nat.lt_of_le_of_lt a5 hQ) (Nat.lt_of_le_of_lt a4 hQ)
  have hmk := mk_div (n := N) (d := D) (by omega)
  rw [show N / Nat.gcd N D = (mkRat (N : Nat) D).num.toNat by rw [hmk.1, Int.toNat_natCast]] at h3
  rw [show D / Nat.gcd N D = (mkRat (N : Nat) D).den by rw [hmk.2]] at h3'
  generalize mkRat ((N : Nat) : Int) D = X at *
  have mm : MF I I3 1 [30, 31, 32, 33, 34, 35] := ((f1.mf (by simp)).trans (f2.mf (by simp))).trans (m3.mono (by simp))
  have es : nI j + (1 : Int32) = nI (j + 1) := (nI_succ _).symm
  simp only [fMo_wordOf, fMo_wordOf_0, ck_t hM.m1, es, l30, l31, e1, bv_s, e2, e3]
  by_cases c : m < 24
  · rw [if_pos (show nI m < (24 : Int32) from nI_lt (b := 24) c (by decide))]
    have e30 : I3 17 (24 * 30 + m) = nI (dg X.num.toNat m) := h3.2 m c
    have e31 : I3 17 (24 * 31 + m) = nI (dg X.den m) := h3'.2 m c
    have x30 : (24 : Int32) * nI 30 + nI m = nI (24 * 30 + m) := m24 30 m
    have x31 : (24 : Int32) * nI 31 + nI m = nI (24 * 31 + m) := m24 31 m
    have i30 : ek_in (nI (24 * 30 + m)) 864 := min (by decide) c
    have i31 : ek_in (nI (24 * 31 + m)) 864 := min (by decide) c
    have c30 : (nI (24 * 30 + m)).toNatClampNeg = 24 * 30 + m := mcl (by decide) c
    have c31 : (nI (24 * 31 + m)).toNatClampNeg = 24 * 31 + m := mcl (by decide) c
    by_cases h4 : part = 0
    · rw [if_pos h4, if_pos h4]
      simp only [fMo_wordOf_51, ck_t hM.a16, x30, ck_t i30, c30]
      exact ⟨I3, by rw [show I3 (1 + 16) (24 * 30 + m) = nI (dg X.num.toNat m) from e30], mm⟩
    · rw [if_neg h4, if_neg h4]
      simp only [fMo_wordOf_51, ck_t hM.a16, x31, ck_t i31, c31]
      exact ⟨I3, by rw [show I3 (1 + 16) (24 * 31 + m) = nI (dg X.den m) from e31], mm⟩
  · rw [if_neg (show ¬ nI m < (24 : Int32) from nI_nlt (b := 24) (by omega) hm)]
    refine ⟨I3, ?_, mm⟩
    by_cases h4 : part = 0
    · rw [if_pos h4, dg_big h3.1 (by omega)]
      rfl
    · rw [if_neg h4, dg_big h3'.1 (by omega)]
      rfl
theorem j_total {kd : Nat → Nat} {Ix Im : ek_St} {B : Nat} (hM : MK kd) (h : ST Ix Im B) (a b : Int32) : OK kd (fKe_total kX Ix 1 a b) (fMo_total kd Im 1 a b) B := by
  obtain ⟨π, n, F, L, t, G, hX, hm, hT, hG⟩ := h
  have hm0 := hm.code 0
  obtain ⟨r, e1, r1, r2⟩ := s_wordOf (part := a) (k := b) fr77 hX.2.2.2.1
  have e1' : fKe_wordOf kX Ix (1 + 75 + 1) a b = some (Ix, r) := e1
  simp only [fKe_total, fKe_total_0, ck_t k1, ck_t k75, e1', bi_s, fMo_total, fMo_total_0, ck_t hM.m1, let_e, fMo_total_18]
  by_cases h1 : a < 0
  · rw [if_pos h1, r1 (Or.inl h1)]
    exact ⟨_, _, _, rfl, rfl, π, n, F, L, t, G, hX, hm0, hT, hG⟩
  · rw [if_neg h1]
    by_cases h2 : 1 < a
    · rw [if_pos h2, r1 (Or.inr (Or.inl h2))]
      exact ⟨_, _, _, rfl, rfl, π, n, F, L, t, G, hX, hm0, hT, hG⟩
    · rw [if_neg h2]
      by_cases h3 : 0 ≤ b
      · rw [if_pos h3]
        obtain ⟨m, rfl, hm31, rfl⟩ := r2 (fun q => q.elim h1 (fun q => q.elim h2 (Int32.not_lt.mpr h3)))
        obtain ⟨I', e2, m2⟩ := t_wordOf (part := a) hM (by decide) hm0.2.2.2.2.1 hm31
        simp only [l24, e2, bi_s]
        exact ⟨_, _, _, rfl, rfl, π, n, F, L, t, G, hX, hm0.mf m2 (by decide), hT, hG⟩
      · rw [if_neg h3, r1 (Or.inr (Or.inr (Int32.not_le.mp h3)))]
        exact ⟨_, _, _, rfl, rfl, π, n, F, L, t, G, hX, hm0, hT, hG⟩
theorem j_rate {kd : Nat → Nat} {Ix Im : ek_St} {B : Nat} (hM : MK kd) (h : ST Ix Im B) (i a b : Int32) : OK kd (fKe_rate kX Ix 1 i a b) (fMo_rate kd Im 1 i a b) B := by
  obtain ⟨π, n, F, L, t, G, hX, hm, hT, hG⟩ := h
  have hn := hX.1.1
  have hm0 := hm.code 0
  obtain ⟨r, hr, e1⟩ := s_find (ids := fun k => F k 0) hX.1 (fun k hk => hX.2.1 k 0 hk (by decide) (by decide)) i
  obtain ⟨r', hr', e2⟩ := t_find (ids := fun k => F k 0) hM hm0.1.1 hm0.1.2 (fun k hk => hm0.2.1 k 0 hk (by decide) (by decide)) i
  have er := hr.uniq hr'
  subst er
  have e1' : fRo_find kX Ix (1 + 1) i = some (Ix, if r < n then tk (π r) else 0) := e1
  simp only [fKe_rate, fKe_rate_0, ck_t k1, ck_t k11, e1', bi_s, fMo_rate, fMo_rate_0, ck_t hM.m1, let_e, e2, fMo_rate_42]
  have same : OK kd (some (Ix, -1)) (some (ek_up Im 1 0 0, -1)) B := ⟨_, _, _, rfl, rfl, π, n, F, L, t, G, hX, hm0, hT, hG⟩
  by_cases hrn : r < n
  · have hr12 : r < 12 := by omega
    have hπr := (hX.1.2.2.1 r hr12).1
    rw [if_pos hrn, if_pos hrn, if_neg tkne, if_neg (mone hr12)]
    have hk6 := (kX_tk _ hπr).1
    have c1 : Ix (tk (π r)) 5 = F r 5 := hX.2.1 r 5 hrn (by decide) (by decide)
    have c2 : ek_up Im 1 0 0 (1 + 6) r = F r 5 := hm0.2.1 r 5 hrn (by decide) (by decide)
    simp only [ck_t hk6, c1, ck_t hM.m1, ck_t hM.a1, ck_t hM.a2, ck_t hM.a3, ck_t hM.a4, ck_t hM.a5, ck_t hM.a6, ck_t hM.a7, ck_t hM.a8, ck_t hM.a9, ck_t hM.a10, ck_t hM.a11, ck_t hM.a12, ck_t hM.a13, ck_t hM.a14, ck_t hM.a15, ck_t hM.a16, ck_t hM.a17, ck_t (in12 hr12), cl12 hr12, c2]
    by_cases h5 : F r 5 = 2
    · rw [if_pos h5, if_pos h5]
      exact same
    · rw [if_neg h5, if_neg h5]
      obtain ⟨w, e3, r1, r2⟩ := s_wordOf (part := a) (k := b) (frT hπr) (hX.2.2.1 r hrn (fun z => z) h5).2
      simp only [e3, bi_s]
      by_cases h1 : a < 0
      · rw [if_pos h1, r1 (Or.inl h1)]
        exact same
      · rw [if_neg h1]
        by_cases h2 : 1 < a
        · rw [if_pos h2, r1 (Or.inr (Or.inl h2))]
          exact same
        · rw [if_neg h2]
          by_cases h3 : 0 ≤ b
          · rw [if_pos h3]
            obtain ⟨m, rfl, hm31, rfl⟩ := r2 (fun q => q.elim h1 (fun q => q.elim h2 (Int32.not_lt.mpr h3)))
            obtain ⟨I', e4, m2⟩ := t_wordOf (part := a) hM (by omega) (hm0.2.2.2.1 r hrn (fun z => z) h5).2.2 hm31
            simp only [m2k, e4, bi_s]
            exact ⟨_, _, _, rfl, rfl, π, n, F, L, t, G, hX, hm0.mf m2 (by decide), hT, hG⟩
          · rw [if_neg h3, r1 (Or.inr (Or.inr (Int32.not_le.mp h3)))]
            exact same
  · rw [if_neg hrn, if_neg hrn, if_pos rfl, if_pos rfl]
    exact same
theorem s_flat {I : ek_St} {π : Nat → Nat} {n r : Nat} {F : Nat → Nat → Int32} {L : Nat → Rat} {t : Rat} {G : Nat → Int32} (hX : RX I π n F L t G (fun _ => False)) (hT : TF n F) (hr : r < n) : fTa_isPressedFlat kX I (tk (π r)) = some (I, bI (decide (F r 5 ≠ 2 ∧ sF F r ≠ lF F r ∧ L r = lo' (cF F) (lF F) r))) := by
  have hn := hX.1.1
  have hr12 : r < 12 := by omega
  have hπr := (hX.1.2.2.1 r hr12).1
  have hk := kX_tk _ hπr
  have f1 : I (tk (π r)) 1 = F r 1 := hX.2.1 r 1 hr (by decide) (by decide)
  have f2 : I (tk (π r)) 2 = F r 2 := hX.2.1 r 2 hr (by decide) (by decide)
  have f3 : I (tk (π r)) 3 = F r 3 := hX.2.1 r 3 hr (by decide) (by decide)
  have f5 : I (tk (π r)) 5 = F r 5 := hX.2.1 r 5 hr (by decide) (by decide)
  have hs := s_isSolved (I := I) hk.1 f5
  obtain ⟨⟨v1, v2, v3, v4⟩, b1, b2, b3, b4, b5, b6⟩ := hT r hr
  simp only [fTa_isPressedFlat, fTa_isPressedFlat_0, ck_t hk.1, hs, bi_s, fTa_isPressedFlat_42, ck0, ck1]
  by_cases h5 : F r 5 = 2
  · rw [h5, if_pos (by decide), decide_eq_false (fun z => z.1 rfl)]
    rfl
  · have hbb : bI (decide (F r 5 ≠ 2)) = 1 := by simp [bI, h5]
    rw [hbb, if_neg (by decide), f2, f3]
    by_cases hsl : F r 2 = F r 3
    · rw [if_pos hsl, decide_eq_false (fun z => z.2.1 (by show tn (F r 2) = tn (F r 3); rw [hsl]))]
      rfl
    · rw [if_neg hsl]
      have hsl2 : sF F r ≠ lF F r := fun z => hsl (by
        have z : tn (F r 2) = tn (F r 3) := z
        rw [v2, v3, z])
      have hQ := (hX.2.2.1 r hr (fun z => z) h5).2
      have hcmp := s_frcompare (I := I) (f := tk (π r) + 1) (la := ((tn (F r 1) : Nat) : Int)) (lb := ((tn (F r 3) : Nat) : Int)) (frT hπr) hQ.2 (by rw [Int.natAbs_natCast, Int.natAbs_natCast]; omega)
      have j1 : (F r 1).toInt64 = jI ((tn (F r 1) : Nat) : Int) := by
        rw [← nI_j (n := tn (F r 1)) (by omega), ← v1]
      have j3 : (F r 3).toInt64 = jI ((tn (F r 3) : Nat) : Int) := by
        rw [← nI_j (n := tn (F r 3)) (by omega), ← v3]
      simp only [f1, ck_t hk.2.1, j1, j3, hcmp, bi_s]
      have heq := cmp_eq (X := L r) (th := tn (F r 1)) (d := tn (F r 3)) hQ.1 (by omega)
      by_cases he : L r = lo' (cF F) (lF F) r
      · rw [if_pos ((sg_zero _).mpr (heq.mpr he)), decide_eq_true ⟨h5, hsl2, he⟩]
        rfl
      · rw [if_neg (fun z => he (heq.mp ((sg_zero _).mp z))), decide_eq_false (fun z => he z.2.2)]
        rfl
