/-! the springs: pressing, in code -/
theorem cmp_raw {a b : Nat} {x d : Nat} (hb : 0 < b) (hd : 0 < d) : (0 < (a : Int) * d - (b : Int) * x) ↔ mkRat x d < mkRat a b := by
  rw [Rat.mkRat_eq_div, Rat.mkRat_eq_div, Rat.div_lt_iff (by exact_mod_cast hd)]
  have e1 : ((a : Int) : Rat) / (b : Rat) * (d : Rat) = ((a : Int) : Rat) * (d : Rat) / (b : Rat) := by rw [Rat.div_def, Rat.div_def, Rat.mul_assoc, Rat.mul_comm _ (d : Rat), ← Rat.mul_assoc]
  rw [e1, Rat.lt_div_iff (by exact_mod_cast hb)]
  have e : ((x : Int) : Rat) * (b : Rat) < ((a : Int) : Rat) * (d : Rat) ↔ (x : Int) * b < (a : Int) * d := by
    rw [← Rat.intCast_lt_intCast, Rat.intCast_mul, Rat.intCast_mul]
    rfl
  rw [e]
  have := Int.mul_comm (x : Int) b
  omega
theorem s_isTooMuchFor {I : ek_St} {t a b c s l f : Nat} (ht : kX t = 6) (hF : FrH I 92 a b) (hb : 0 < b) (e1 : I t 1 = nI c) (e2 : I t 2 = nI s) (e3 : I t 3 = nI l) (e4 : I t 4 = nI f) (h1 : 1 ≤ c) (h2 : c ≤ s) (h3 : s ≤ l) (h4 : l ≤ 20000) (h5 : 1 ≤ f) (h6 : f ≤ 1000) :
    fSp_isTooMuchFor kX I 76 t = some (I, bI (decide (mkRat (c * (l - s) * f : Nat) (s * l) < mkRat a b))) := by
  have hr := room_le h2 h3 h4
  have hrf : c * (l - s) * f ≤ 100000000 * 1000 := Nat.mul_le_mul hr h6
  have hsl : s * l ≤ 20000 * 20000 := Nat.mul_le_mul (by omega) h4
  have hsl0 : 0 < s * l := Nat.mul_pos (by omega) (by omega)
  have j1 : (nI c).toInt64 * (nI (l - s)).toInt64 * (nI f).toInt64 = jI ((c * (l - s) * f : Nat) : Int) := by
    rw [nI_j (by omega), nI_j (by omega), nI_j (by omega), jI_mul, jI_mul, Int.natCast_mul, Int.natCast_mul]
  have j2 : (nI s).toInt64 * (nI l).toInt64 = jI ((s * l : Nat) : Int) := by
    rw [nI_j (by omega), nI_j (by omega), jI_mul, Int.natCast_mul]
  have hcmp := s_frcompare (I := I) (f := 92) (la := ((c * (l - s) * f : Nat) : Int)) (lb := ((s * l : Nat) : Int)) fr92 hF (by rw [Int.natAbs_natCast, Int.natAbs_natCast]; omega)
  have hcmp' : fFr_compare kX I (76 + 16) (jI ((c * (l - s) * f : Nat) : Int)) (jI ((s * l : Nat) : Int)) = some (I, sg ((a : Int) * (s * l : Nat) - b * (c * (l - s) * f : Nat))) := hcmp
  have hk : kX (76 + 16) = 2 := fr92.1
  have hiff := cmp_raw (a := a) (b := b) (x := c * (l - s) * f) (d := s * l) hb hsl0
  simp only [fSp_isTooMuchFor, fSp_isTooMuchFor_0, ck_t ht, ck_t k76, ck_t hk, e1, e2, e3, e4, pk_sub h3, j1, j2, let_e, hcmp', bi_s, ck0, ck1]
  by_cases h : mkRat (c * (l - s) * f : Nat) (s * l) < mkRat a b
  · rw [if_neg (fun q => (sg_le0 _).mp q (hiff.mpr h)), decide_eq_true h]
    rfl
  · rw [if_pos ((sg_le0 _).mpr (fun q => h (hiff.mp q))), decide_eq_false h]
    rfl
theorem bI_or (b : Bool) : bI b = 0 ∨ bI b = 1 := by cases b; exact Or.inl rfl; exact Or.inr rfl
theorem s_pinPressed {I : ek_St} {π : Nat → Nat} {n a b : Nat} {c s l f : Nat → Nat} {ph : Nat → Int32} {p : Nat → Bool} (hR : XR I π n) (hD : XD I π n c s l f ph) (hp : ∀ k, k < n → I (tk (π k)) 13 = bI (p k)) (hF : FrH I 92 a b) (hb : 0 < b) :
    ∃ (I' : ek_St) (r : Bool) (p' : Nat → Bool), fSp_pinPressed kX I 76 2 = some (I', bI r) ∧ Fp I I' ∧ (∀ k, k < n → I' (tk (π k)) 13 = bI (p' k)) ∧ (∀ k, k < n → (p' k = true ↔ (p k = true ∨ (cnt ph k ∧ rr' c s l f k < mkRat a b)))) ∧ (r = true ↔ ∃ k, k < n ∧ cnt ph k ∧ p k = false ∧ p' k = true) := by
  have hn := hR.1
  generalize hp'e : (fun k => p k || (decide (cnt ph k) && decide (rr' c s l f k < mkRat a b))) = p'
  have hp' : ∀ k, (p' k = true ↔ (p k = true ∨ (cnt ph k ∧ rr' c s l f k < mkRat a b))) := by
    intro k
    rw [← hp'e]
    simp
  have goal : ∃ q, fSp_pinPressed kX I 76 2 = some q ∧ ∃ r, q.2 = bI r ∧ Fp I q.1 ∧ (∀ k, k < n → q.1 (tk (π k)) 13 = bI (p' k)) ∧ (r = true ↔ ∃ k, k < n ∧ cnt ph k ∧ p k = false ∧ p' k = true) := by
    unfold fSp_pinPressed fSp_pinPressed_0
    refine lp_for (fun i q => ∃ I' r, q = (I', 76, 2, bI r, nI i) ∧ Fp I I' ∧ (∀ k, k < i → I' (tk (π k)) 13 = bI (p' k)) ∧ (∀ k, i ≤ k → k < n → I' (tk (π k)) 13 = bI (p k)) ∧ (r = true ↔ ∃ k, k < i ∧ cnt ph k ∧ p k = false ∧ p' k = true)) (fun q : ek_St × Int32 => ∃ r, q.2 = bI r ∧ Fp I q.1 ∧ (∀ k, k < n → q.1 (tk (π k)) 13 = bI (p' k)) ∧ (r = true ↔ ∃ k, k < n ∧ cnt ph k ∧ p k = false ∧ p' k = true)) n ⟨I, false, rfl, Fp.refl I, fun k hk => absurd hk (by omega), fun k _ hk => hp k hk, by constructor; intro h; exact absurd h (by decide); rintro ⟨k, hk, -⟩; omega⟩ ?_ ?_ (by omega)
    · rintro k i q hi ⟨I2, r, rfl, q1, q2, q3, q4⟩ hk
      have hi12 : i < 12 := by omega
      have hπ := (hR.2.2.1 i hi12).1
      have hR2 := hR.fp q1
      have hD2 := XD.fp hR hD q1
      have hd := hD2 i hi
      have hsol := s_isSolved (I := I2) (t := tk (π i)) (p := ph i) (kX_tk _ hπ).1 hd.1.2.2.2.2
      have hF2 : FrH I2 92 a b := hF.keep (q1.at (by decide)) (q1.at (by decide))
      have htm := s_isTooMuchFor (I := I2) (t := tk (π i)) (kX_tk _ hπ).1 hF2 hb hd.1.1 hd.1.2.1 hd.1.2.2.1 hd.1.2.2.2.1 hd.2.1 hd.2.2.1 hd.2.2.2.1 hd.2.2.2.2.1 hd.2.2.2.2.2.1 hd.2.2.2.2.2.2
      -- when the pin stays as it is
      have skip : p' i = p i → ∃ q, fSp_pinPressed_53 kX k I2 76 2 (bI r) (nI i) = some q ∧ ∃ r, q.2 = bI r ∧ Fp I q.1 ∧ (∀ k, k < n → q.1 (tk (π k)) 13 = bI (p' k)) ∧ (r = true ↔ ∃ k, k < n ∧ cnt ph k ∧ p k = false ∧ p' k = true) := by
        intro e
        simp only [fSp_pinPressed_53, let_e]
        refine hk _ ⟨I2, r, by rw [nI_succ], q1, fun j hj => ?_, fun j h1 h2 => q3 j (by omega) h2, ?_⟩
        · by_cases ej : j = i
          · subst ej
            rw [q3 j (Nat.le_refl _) hi, e]
          · exact q2 j (by omega)
        · rw [q4]
          constructor
          · rintro ⟨j, h1, h2⟩
            exact ⟨j, by omega, h2⟩
          · rintro ⟨j, h1, h2, h3, h4⟩
            by_cases ej : j = i
            · subst ej
              rw [e, h3] at h4
              exact absurd h4 (by decide)
            · exact ⟨j, by omega, h2, h3, h4⟩
      simp only [fSp_pinPressed_4, ck_t k2, if_neg (hR2.ge hi), ck_t k3, ck_t (in12 hi12), cl12 hi12, let_e]
      rw [hR2.row hi12]
      simp only [ck_t (kX_tk _ hπ).1, hsol, bi_s, ck_t k76, htm]
      by_cases hc : ph i = 2
      · rw [hc, if_pos (by decide)]
        refine skip ?_
        rw [← hp'e]
        simp [cnt, hc]
      · have hbb : bI (decide (ph i ≠ 2)) = 1 := by simp [bI, hc]
        rw [hbb, if_neg (by decide), q3 i (Nat.le_refl _) hi]
        cases hpi : p i with
        | true =>
          rw [if_neg (by decide)]
          refine skip ?_
          rw [hpi]
          exact (hp' i).mpr (Or.inl hpi)
        | false =>
          rw [if_pos (by decide)]
          by_cases hgt : rr' c s l f i < mkRat a b
          · have hp1 : p' i = true := (hp' i).mpr (Or.inr ⟨hc, hgt⟩)
            rw [if_neg (by rw [decide_eq_true hgt]; decide)]
            simp only [fSp_pinPressed_53, let_e]
            refine hk _ ⟨ek_up I2 (tk (π i)) 13 1, true, by rw [nI_succ]; rfl, q1.trans (Fp.up hπ), fun j hj => ?_, fun j h1 h2 => ?_, ?_⟩
            · by_cases ej : j = i
              · subst ej
                rw [hp1]
                exact up_same
              · rw [up_ne (fun h => ej (hR.2.2.2 j i (by omega) hi12 (by have : tk (π j) = tk (π i) := h.1; have h1 : tk (π j) = 4 + 6 * π j := rfl; have h2 : tk (π i) = 4 + 6 * π i := rfl; omega)))]
                exact q2 j (by omega)
            · rw [up_ne (fun h => by
                have e := hR.2.2.2 j i (by omega) hi12 (by have : tk (π j) = tk (π i) := h.1; have h1 : tk (π j) = 4 + 6 * π j := rfl; have h2 : tk (π i) = 4 + 6 * π i := rfl; omega)
                omega)]
              exact q3 j (by omega) h2
            · exact ⟨fun _ => ⟨i, by omega, hc, hpi, hp1⟩, fun _ => rfl⟩
          · rw [if_pos (by rw [decide_eq_false hgt]; rfl)]
            refine skip ?_
            rw [← hp'e]
            show (p i || (decide (cnt ph i) && decide (rr' c s l f i < mkRat a b))) = _
            rw [hpi, decide_eq_false hgt]
            simp
    · rintro k q ⟨I2, r, rfl, q1, q2, q3, q4⟩
      simp only [fSp_pinPressed_4, ck_t k2, if_pos (hR.fp q1).le, ck_t (bI_or r)]
      exact ⟨_, rfl, r, rfl, q1, q2, q4⟩
  obtain ⟨⟨I', r0⟩, e, r, hr, h1, h2, h3⟩ := goal
  simp only at hr h1 h2
  subst hr
  exact ⟨I', r, p', e, h1, h2, fun k _ => hp' k, h3⟩
