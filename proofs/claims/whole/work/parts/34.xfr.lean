/-! THE CLASS'S Fraction: by the rational that it holds -/
theorem s_commonFactor {kd : Nat → Nat} {I : ek_St} {a b : Nat} (ha : a < 2 ^ 31) (hb : b < 2 ^ 31) : fFr_commonFactor kd I (nI a) (nI b) = some (I, nI (max 1 (Nat.gcd a b))) := by
  have fin : ∀ g : Nat, g < 2 ^ 31 → fFr_commonFactor_35 kd I (nI g) = some (I, nI (max 1 g)) := by
    intro g hg
    simp only [fFr_commonFactor_35]
    by_cases h : 1 < g
    · rw [if_pos (show (1 : Int32) < nI g from nI_lt (a := 1) h hg), Nat.max_eq_right (by omega)]
    · rw [if_neg (show ¬ (1 : Int32) < nI g from nI_nlt (b := g) (a := 1) (by omega) (by decide)), Nat.max_eq_left (by omega)]
      rfl
  have goal : ∃ q, fFr_commonFactor kd I (nI a) (nI b) = some q ∧ q = (I, nI (max 1 (Nat.gcd a b))) := by
    unfold fFr_commonFactor fFr_commonFactor_0
    have step : ∀ (k : (ek_St × Int32 × Int32 × Int32) → Option (ek_St × Int32)) (t g s : Nat), t < 384 → g < 2 ^ 31 → s < 2 ^ 31 → Nat.gcd g s = Nat.gcd a b → (s ≠ 0 → ∃ r, k (I, nI s, nI (g % s), nI (t + 1)) = some r ∧ r = (I, nI (max 1 (Nat.gcd a b)))) → ∃ r, fFr_commonFactor_7 kd k I (nI g) (nI s) (nI t) = some r ∧ r = (I, nI (max 1 (Nat.gcd a b))) := by
      intro k t g s ht hg hs hgcd hk
      have c : ¬ (384 : Int32) ≤ nI t := nI_ge (b := 384) ht (by decide)
      simp only [fFr_commonFactor_7, if_neg c, let_e]
      by_cases h : s = 0
      · subst h
        rw [if_pos (show nI 0 = (0 : Int32) from rfl), fin g hg]
        rw [Nat.gcd_zero_right] at hgcd
        exact ⟨_, rfl, by rw [hgcd]⟩
      · have c2 : ¬ nI s = (0 : Int32) := nI_ne0 (by omega) hs
        rw [if_neg c2, ck_t c2, pk_rem hg (by omega) hs]
        have := hk h
        rwa [nI_succ] at this
    refine lp_for (fun t q => ∃ g s : Nat, q = (I, nI g, nI s, nI t) ∧ Nat.gcd g s = Nat.gcd a b ∧ g < 2 ^ 31 ∧ s < 2 ^ 31 ∧ (1 ≤ t → s < g) ∧ g * s * 2 ^ t < 2 ^ 63) (fun q => q = (I, nI (max 1 (Nat.gcd a b)))) 64 ⟨a, b, rfl, rfl, ha, hb, fun h => by omega, ?_⟩ ?_ ?_
    · have : a * b ≤ 2 ^ 31 * 2 ^ 31 := Nat.mul_le_mul (by omega) (by omega)
      rw [Nat.pow_zero, Nat.mul_one]
      omega
    · rintro k t q ht ⟨g, s, rfl, hgcd, hg, hs, hlt, hP⟩ hk
      refine step k t g s (by omega) hg hs hgcd (fun h => hk _ ⟨s, g % s, rfl, ?_, hs, ?_, fun _ => Nat.mod_lt _ (by omega), ?_⟩)
      · rw [← hgcd, Nat.gcd_comm g s, Nat.gcd_rec s g, Nat.gcd_comm]
      · have := Nat.mod_lt g (show 0 < s by omega)
        omega
      · have hm := Nat.mod_lt g (show 0 < s by omega)
        rcases Nat.eq_zero_or_pos t with h0 | h0
        · subst h0
          have : s * (g % s) ≤ 2 ^ 31 * 2 ^ 31 := Nat.mul_le_mul (by omega) (by omega)
          exact Nat.lt_of_lt_of_le (Nat.mul_lt_mul_of_pos_right (Nat.lt_of_le_of_lt (Nat.mul_le_mul (show s ≤ 2147483647 by omega) (show g % s ≤ 2147483647 by omega)) (show 2147483647 * 2147483647 < 2 ^ 62 by decide)) (by decide)) (by decide)
        · have h1 := hlt h0
          have h2 : 2 * (g % s) ≤ g := by
            have := Nat.div_add_mod g s
            have h3 : 1 ≤ g / s := Nat.div_pos (by omega) (by omega)
            have h4 : s * 1 ≤ s * (g / s) := Nat.mul_le_mul_left _ h3
            omega
          have h5 : s * (g % s) * 2 ^ (t + 1) ≤ g * s * 2 ^ t := by
            rw [Nat.pow_succ, ← Nat.mul_assoc, Nat.mul_right_comm]
            refine Nat.mul_le_mul_right _ ?_
            calc s * (g % s) * 2 = s * (2 * (g % s)) := by rw [Nat.mul_assoc, Nat.mul_comm (g % s)]
              _ ≤ s * g := Nat.mul_le_mul_left _ h2
              _ = g * s := Nat.mul_comm _ _
          omega
    · rintro k q ⟨g, s, rfl, hgcd, hg, hs, hlt, hP⟩
      refine step k 64 g s (by decide) hg hs hgcd (fun h => ?_)
      exfalso
      have h1 := hlt (by decide)
      have h2 : 1 ≤ g * s := Nat.mul_pos (by omega) (by omega)
      have h3 : 1 * 2 ^ 64 ≤ g * s * 2 ^ 64 := Nat.mul_le_mul_right _ h2
      omega
  obtain ⟨q, e, rfl⟩ := goal
  exact e
theorem s_cf_pos {kd : Nat → Nat} {I : ek_St} {a b : Nat} (ha : a < 2 ^ 31) (hb : b < 2 ^ 31) (h : 0 < a ∨ 0 < b) : fFr_commonFactor kd I (nI a) (nI b) = some (I, nI (Nat.gcd a b)) := by
  rw [s_commonFactor ha hb, Nat.max_eq_right]
  exact Nat.gcd_pos_iff.mpr h
def FrK (kd : Nat → Nat) (f : Nat) : Prop := kd f = 2 ∧ NatK kd (f + 1) ∧ NatK kd (f + 3)
def FrH (I : ek_St) (f a b : Nat) : Prop := Hr I (f + 1 + 1) 0 16 a ∧ Hr I (f + 3 + 1) 0 16 b
/-- the fraction holds the rational X in lowest terms -/
def FrQ (I : ek_St) (f : Nat) (X : Rat) : Prop := 0 ≤ X ∧ FrH I f X.num.toNat X.den
/-- nothing but the two words' rows of a fraction is changed -/
def Fr2 (I I' : ek_St) (f : Nat) : Prop := ∀ z, z ≠ f + 1 + 1 → z ≠ f + 3 + 1 → I' z = I z
theorem Fr2.a {I I' : ek_St} {f : Nat} (h : Fr1 I I' (f + 1 + 1) 0 16) : Fr2 I I' f := fun _ h1 _ => h.ne h1
theorem Fr2.b {I I' : ek_St} {f : Nat} (h : Fr1 I I' (f + 3 + 1) 0 16) : Fr2 I I' f := fun _ _ h2 => h.ne h2
theorem Fr2.trans {I I1 I2 : ek_St} {f : Nat} (h : Fr2 I I1 f) (h2 : Fr2 I1 I2 f) : Fr2 I I2 f := fun z a b => (h2 z a b).trans (h z a b)
theorem Fr2.refl (I : ek_St) (f : Nat) : Fr2 I I f := fun _ _ _ => rfl
theorem FrH.keep {I I' : ek_St} {g a b : Nat} (h : FrH I g a b) (e1 : I' (g + 1 + 1) = I (g + 1 + 1)) (e2 : I' (g + 3 + 1) = I (g + 3 + 1)) : FrH I' g a b := ⟨h.1.cell e1, h.2.cell e2⟩
theorem mk_red {n d : Nat} (hd : d ≠ 0) (h : Nat.Coprime n d) : (mkRat n d).num = n ∧ (mkRat n d).den = d := by
  have h1 : Nat.gcd d n = 1 := by rw [Nat.gcd_comm]; exact h
  constructor
  · rw [Rat.num_mkRat, if_neg hd, Int.natAbs_natCast, h1]
    simp
  · rw [Rat.den_mkRat, if_neg hd, Int.natAbs_natCast, h1, Nat.div_one]
theorem mk_div {n d : Nat} (hd : d ≠ 0) : (mkRat n d).num = ((n / Nat.gcd n d : Nat) : Int) ∧ (mkRat n d).den = d / Nat.gcd n d := by
  constructor
  · rw [Rat.num_mkRat, if_neg hd, Int.natAbs_natCast, Nat.gcd_comm]
    rfl
  · rw [Rat.den_mkRat, if_neg hd, Int.natAbs_natCast, Nat.gcd_comm]
theorem mk_nn (n d : Nat) : (0 : Rat) ≤ mkRat n d := by
  rw [Rat.mkRat_eq_div]
  rcases Nat.eq_zero_or_pos d with h | h
  · subst h
    simp [Rat.div_def]
  · rw [Rat.div_def]
    exact Rat.mul_nonneg (by exact_mod_cast Nat.zero_le n) (Rat.le_of_lt (Rat.inv_pos.mpr (by exact_mod_cast h)))
theorem s_frset {kd : Nat → Nat} {I : ek_St} {f a b : Nat} (hk : FrK kd f) (ha : a < 16777216) (hb : b < 16777216) (hb0 : 0 < b) :
    ∃ I', fFr_set kd I f (nI a) (nI b) = some I' ∧ FrQ I' f (mkRat a b) ∧ Fr2 I I' f := by
  have hg : 0 < Nat.gcd a b := Nat.gcd_pos_of_pos_right _ hb0
  have hg2 : Nat.gcd a b ≤ b := Nat.gcd_le_right _ hb0
  have hg3 : ¬ nI (Nat.gcd a b) = (0 : Int32) := nI_ne0 hg (by omega)
  have h1 : a / Nat.gcd a b < 16777216 := Nat.lt_of_le_of_lt (Nat.div_le_self _ _) ha
  have h2 : b / Nat.gcd a b < 16777216 := Nat.lt_of_le_of_lt (Nat.div_le_self _ _) hb
  obtain ⟨I1, e1, g1, f1⟩ := s_set (I := I) hk.2.1 h1
  obtain ⟨I2, e2, g2, f2⟩ := s_set (I := I1) hk.2.2 h2
  refine ⟨I2, ?_, ⟨mk_nn a b, ?_, ?_⟩, (Fr2.a f1).trans (Fr2.b f2)⟩
  · simp only [fFr_set, fFr_set_0, s_cf_pos (show a < 2 ^ 31 by omega) (show b < 2 ^ 31 by omega) (Or.inr hb0), bi_s, ck_t hk.1, ck_t hk.2.1.1, ck_t hk.2.2.1, ck_t hg3, pk_div (show a < 2 ^ 31 by omega) hg (show Nat.gcd a b < 2 ^ 31 by omega), pk_div (show b < 2 ^ 31 by omega) hg (show Nat.gcd a b < 2 ^ 31 by omega), e1, bv_s, e2]
  · rw [(mk_div (by omega)).1, Int.toNat_natCast]
    exact g1.fr f2 (Or.inl (by omega))
  · rw [(mk_div (by omega)).2]
    exact g2
theorem s_frcopy {kd : Nat → Nat} {I : ek_St} {f g a b : Nat} (hk : FrK kd f) (hg : FrK kd g) (hd : g + 4 < f ∨ f + 4 < g) (hX : FrH I g a b) :
    ∃ I', fFr_copy kd I f g = some I' ∧ FrH I' f a b ∧ Fr2 I I' f := by
  obtain ⟨I1, e1, g1, f1⟩ := s_copy hk.2.1 hg.2.1 hX.1
  obtain ⟨I2, e2, g2, f2⟩ := s_copy (I := I1) hk.2.2 hg.2.2 (hX.2.fr f1 (Or.inl (by omega)))
  refine ⟨I2, ?_, ⟨g1.fr f2 (Or.inl (by omega)), g2⟩, (Fr2.a f1).trans (Fr2.b f2)⟩
  simp only [fFr_copy, fFr_copy_0, ck_t hk.1, ck_t hg.1, ck_t hk.2.1.1, ck_t hk.2.2.1, e1, bv_s, e2]
theorem s_frcompare {kd : Nat → Nat} {I : ek_St} {f a b : Nat} {la lb : Int} (hk : FrK kd f) (hX : FrH I f a b) (hm : (lb.natAbs : Int) + la.natAbs ≤ 274877906944) : fFr_compare kd I f (jI la) (jI lb) = some (I, sg (a * lb - b * la)) := by
  simp only [fFr_compare, fFr_compare_0, ck_t hk.1, s_compareProducts hk.2.1 hk.2.2 hX.1 hX.2 hm, bi_s]
theorem s_setRatio {kd : Nat → Nat} {I : ek_St} {f g h a b c d : Nat} (hk : FrK kd f) (hg : FrK kd g) (hh : FrK kd h) (d1 : g + 4 < f ∨ f + 4 < g) (d2 : h + 4 < f ∨ f + 4 < h) (hX : FrH I g a b) (hY : FrH I h c d) (h1 : a * d < 2 ^ (24 * 16)) (h2 : b * c < 2 ^ (24 * 16)) :
    ∃ I', fFr_setRatio kd I f g h = some I' ∧ FrH I' f (a * d) (b * c) ∧ Fr2 I I' f := by
  obtain ⟨I1, e1, g1, f1⟩ := s_setProduct hk.2.1 hg.2.1 hh.2.2 (by omega) (by omega) hX.1 hY.2 h1
  obtain ⟨I2, e2, g2, f2⟩ := s_setProduct (I := I1) hk.2.2 hg.2.2 hh.2.1 (by omega) (by omega) (hX.2.fr f1 (Or.inl (by omega))) (hY.1.fr f1 (Or.inl (by omega))) h2
  refine ⟨I2, ?_, ⟨g1.fr f2 (Or.inl (by omega)), g2⟩, (Fr2.a f1).trans (Fr2.b f2)⟩
  simp only [fFr_setRatio, fFr_setRatio_0, ck_t hk.1, ck_t hg.1, ck_t hh.1, ck_t hk.2.1.1, ck_t hk.2.2.1, e1, bv_s, e2]
theorem rat_nd {X : Rat} (h : 0 ≤ X) : X = mkRat (X.num.toNat : Nat) X.den := by
  have : 0 ≤ X.num := Rat.num_nonneg.mpr h
  rw [Int.toNat_of_nonneg this, Rat.mkRat_self]
theorem rat_cop {X : Rat} (h : 0 ≤ X) : Nat.Coprime X.num.toNat X.den := by
  have h1 : 0 ≤ X.num := Rat.num_nonneg.mpr h
  have h2 : X.num.toNat = X.num.natAbs := by omega
  rw [h2]
  exact X.reduced
theorem rat_den_pos (X : Rat) : 0 < X.den := Nat.pos_of_ne_zero X.den_nz
/-- a reduced fraction divided by a natural -/
theorem s_divideBy {kd : Nat → Nat} {I : ek_St} {f d : Nat} {X : Rat} (hk : FrK kd f) (hX : FrQ I f X) (h0 : 0 < d) (hd : d < 2 ^ 31) (hb : X.den * d < 2 ^ (24 * 16)) :
    ∃ I', fFr_divideBy kd I f (nI d) = some I' ∧ FrQ I' f (X / d) ∧ Fr2 I I' f := by
  obtain ⟨hX0, hA, hB⟩ := hX
  have hc := rat_cop hX0
  have hq := rat_nd hX0
  have hp := rat_den_pos X
  generalize X.num.toNat = A at *
  generalize X.den = B at *
  have hg : 0 < Nat.gcd d (A % d) := Nat.gcd_pos_of_pos_left _ h0
  have hgd : Nat.gcd d (A % d) = Nat.gcd A d := by rw [Nat.gcd_comm d (A % d), ← Nat.gcd_rec d A, Nat.gcd_comm]
  have hg2 : Nat.gcd d (A % d) ≤ d := Nat.gcd_le_left _ h0
  have hg3 : ¬ nI (Nat.gcd d (A % d)) = (0 : Int32) := nI_ne0 hg (by omega)
  have hm : A % d < d := Nat.mod_lt _ h0
  have hle : B * (d / Nat.gcd d (A % d)) ≤ B * d := Nat.mul_le_mul_left _ (Nat.div_le_self _ _)
  obtain ⟨I1, e1, g1, f1⟩ := s_divideExactly hk.2.1 hA hg (show Nat.gcd d (A % d) < 2 ^ 31 by omega)
  obtain ⟨I2, e2, g2, f2⟩ := s_multiply (I := I1) (f := d / Nat.gcd d (A % d)) hk.2.2 (hB.fr f1 (Or.inl (by omega))) (Nat.lt_of_le_of_lt (Nat.div_le_self _ _) hd) (by omega)
  have eX : X / (d : Rat) = mkRat (A : Nat) (B * d) := by
    rw [hq, Rat.mkRat_eq_div, Rat.mkRat_eq_div]
    rw [Rat.div_def, Rat.div_def, Rat.div_def, Rat.mul_assoc]
    congr 1
    rw [Rat.natCast_mul, Rat.inv_mul_rev, Rat.mul_comm]
  have hgcd : Nat.gcd A (B * d) = Nat.gcd A d := Nat.Coprime.gcd_mul_left_cancel_right d hc.symm
  have hmk := mk_div (n := A) (d := B * d) (by have := Nat.mul_pos hp h0; omega)
  rw [hgcd, ← hgd] at hmk
  have hdv : Nat.gcd d (A % d) ∣ d := Nat.gcd_dvd_left _ _
  refine ⟨I2, ?_, ⟨?_, ?_, ?_⟩, (Fr2.a f1).trans (Fr2.b f2)⟩
  · simp only [fFr_divideBy, fFr_divideBy_0, ck_t hk.1, ck_t hk.2.1.1, ck_t hk.2.2.1, s_remainder hk.2.1 hA h0 hd, bi_s, s_cf_pos hd (show A % d < 2 ^ 31 by omega) (Or.inl h0), ck_t hg3, e1, bv_s, pk_div hd hg (show Nat.gcd d (A % d) < 2 ^ 31 by omega), e2]
  · rw [eX]
    exact mk_nn _ _
  · rw [eX, hmk.1, Int.toNat_natCast]
    exact g1.fr f2 (Or.inl (by omega))
  · rw [eX, hmk.2, Nat.mul_div_assoc _ hdv]
    exact g2
/-! join -/
theorem i_ofInt {z : Int} {n : Nat} (h : z = n) : Int32.ofInt z = nI n := by
  rw [h]
  exact Int32.ofInt_eq_ofNat
theorem i_abs {z : Int} (h : z.natAbs < 2 ^ 31) : (if (0 : Int32) ≤ Int32.ofInt z then Int32.ofInt z else (0 : Int32) - Int32.ofInt z) = nI z.natAbs := by
  have ei : (Int32.ofInt z).toInt = z := Int32.toInt_ofInt_of_le (by omega) (by omega)
  by_cases hz : 0 ≤ z
  · rw [if_pos (by rw [Int32.le_iff_toInt_le, ei]; exact hz)]
    exact i_ofInt (by omega)
  · rw [if_neg (by rw [Int32.le_iff_toInt_le, ei]; exact hz)]
    have e : (0 : Int32) - Int32.ofInt z = Int32.ofInt (0 - z) := (Int32.ofInt_sub 0 z).symm
    rw [e]
    exact i_ofInt (by omega)
theorem i_divx {z t : Int} {c : Nat} (hz : z = c * t) (hc : 0 < c) (hc2 : c < 2 ^ 31) (hz2 : z.natAbs < 2 ^ 31) : Int32.ofInt z / nI c = Int32.ofInt t := by
  have ht : t.natAbs ≤ z.natAbs := by
    rw [hz, Int.natAbs_mul, Int.natAbs_natCast]
    exact Nat.le_mul_of_pos_left _ hc
  have ei : (Int32.ofInt z).toInt = z := Int32.toInt_ofInt_of_le (by omega) (by omega)
  have et : (Int32.ofInt t).toInt = t := Int32.toInt_ofInt_of_le (by omega) (by omega)
  apply Int32.toInt_inj.mp
  rw [Int32.toInt_div_of_ne_right _ _ (by
    intro h
    have h1 := congrArg Int32.toInt h
    rw [nI_toInt hc2] at h1
    have h2 : (-1 : Int32).toInt = -1 := by decide
    omega), ei, et, nI_toInt hc2, hz]
  exact Int.mul_tdiv_cancel_left t (by omega)
theorem i_j {z : Int} (h : z.natAbs < 2 ^ 31) : (Int32.ofInt z).toInt64 = jI z := by
  rw [← Int64.ofInt_int32ToInt, Int32.toInt_ofInt_of_le (by omega) (by omega)]
  rfl
theorem dvd_nat {d m : Nat} {z : Int} (h : z.natAbs = m) (hd : (d : Int) ∣ z) : d ∣ m := by
  rw [← h]
  exact Int.ofNat_dvd_left.mp hd
/-- what is left of common factors lies in what the two share below the line -/
theorem join_gcd {A B b1 B1 g1 r : Nat} {σ t : Int} (hσ : σ.natAbs = 1) (hB : B = g1 * B1) (hcop : Nat.Coprime A B) (hB1 : Nat.Coprime B1 b1) (ht : Nat.Coprime t.natAbs (g1 * b1)) (hr : (r : Int) = A * (σ * b1) + B1 * t) : Nat.gcd r (B1 * (g1 * b1)) = Nat.gcd g1 r := by
  have c1 : Nat.Coprime r B1 := by
    show Nat.gcd r B1 = 1
    have h1 : Nat.gcd r B1 ∣ r := Nat.gcd_dvd_left _ _
    have h2 : Nat.gcd r B1 ∣ B1 := Nat.gcd_dvd_right _ _
    generalize Nat.gcd r B1 = d at *
    have h3 : (d : Int) ∣ A * (σ * b1) := by
      have e : (A : Int) * (σ * b1) = r - B1 * t := by omega
      rw [e]
      exact Int.dvd_sub (Int.natCast_dvd_natCast.mpr h1) (Int.dvd_mul_of_dvd_left (Int.natCast_dvd_natCast.mpr h2))
    have h4 : d ∣ A * b1 := dvd_nat (by rw [Int.natAbs_mul, Int.natAbs_mul, hσ, Int.natAbs_natCast, Int.natAbs_natCast, Nat.one_mul]) h3
    have h5 : Nat.Coprime d A := (Nat.Coprime.coprime_dvd_right (Nat.dvd_trans h2 (by rw [hB]; exact Nat.dvd_mul_left _ _)) hcop).symm
    have h6 : d ∣ b1 := h5.dvd_of_dvd_mul_left h4
    have h7 : d ∣ Nat.gcd B1 b1 := Nat.dvd_gcd h2 h6
    rw [hB1] at h7
    exact Nat.dvd_one.mp h7
  have c2 : Nat.Coprime r b1 := by
    show Nat.gcd r b1 = 1
    have h1 : Nat.gcd r b1 ∣ r := Nat.gcd_dvd_left _ _
    have h2 : Nat.gcd r b1 ∣ b1 := Nat.gcd_dvd_right _ _
    generalize Nat.gcd r b1 = d at *
    have h3 : (d : Int) ∣ B1 * t := by
      have e : (B1 : Int) * t = r - A * (σ * b1) := by omega
      rw [e]
      exact Int.dvd_sub (Int.natCast_dvd_natCast.mpr h1) (Int.dvd_mul_of_dvd_right (Int.dvd_mul_of_dvd_right (Int.natCast_dvd_natCast.mpr h2)))
    have h4 : d ∣ B1 * t.natAbs := dvd_nat (by rw [Int.natAbs_mul, Int.natAbs_natCast]) h3
    have h5 : Nat.Coprime d t.natAbs := (Nat.Coprime.coprime_dvd_right (Nat.dvd_trans h2 (Nat.dvd_mul_left _ _)) ht).symm
    have h6 : d ∣ B1 := h5.dvd_of_dvd_mul_right h4
    have h7 : d ∣ Nat.gcd B1 b1 := Nat.dvd_gcd h6 h2
    rw [hB1] at h7
    exact Nat.dvd_one.mp h7
  rw [Nat.Coprime.gcd_mul_left_cancel_right _ c1.symm, Nat.Coprime.gcd_mul_right_cancel_right _ c2.symm, Nat.gcd_comm]
theorem s_join {kd : Nat → Nat} {I : ek_St} {f ib : Nat} {X : Rat} {σ ia : Int} (hk : FrK kd f) (hX : FrQ I f X) (hσ : σ.natAbs = 1) (hib : 0 < ib) (hib2 : ib ≤ 20000) (hia : ia.natAbs ≤ 20000) (hpos : 0 ≤ σ * X + mkRat ia ib) (hb1 : X.num.toNat * ib + ia.natAbs * X.den < 2 ^ (24 * 16)) (hb2 : X.den * ib < 2 ^ (24 * 16)) :
    ∃ I', fFr_join kd I f (Int32.ofInt σ) (Int32.ofInt ia) (nI ib) = some I' ∧ FrQ I' f (σ * X + mkRat ia ib) ∧ Fr2 I I' f := by
  obtain ⟨hX0, hA, hB⟩ := hX
  have hc := rat_cop hX0
  have hq := rat_nd hX0
  have hp := rat_den_pos X
  generalize X.num.toNat = A at *
  generalize X.den = B at *
  -- the cut
  have hcut : 0 < Nat.gcd ia.natAbs ib := Nat.gcd_pos_of_pos_right _ hib
  obtain ⟨bot, hbot⟩ : Nat.gcd ia.natAbs ib ∣ ib := Nat.gcd_dvd_right _ _
  obtain ⟨tn, htn⟩ : Nat.gcd ia.natAbs ib ∣ ia.natAbs := Nat.gcd_dvd_left _ _
  have hcop2 : Nat.Coprime tn bot := by
    have := Nat.gcd_div (Nat.gcd_dvd_left ia.natAbs ib) (Nat.gcd_dvd_right ia.natAbs ib)
    rw [Nat.div_self hcut] at this
    have e1 : ia.natAbs / Nat.gcd ia.natAbs ib = tn := by
      conv => lhs; lhs; rw [htn]
      exact Nat.mul_div_cancel_left _ hcut
    have e2 : ib / Nat.gcd ia.natAbs ib = bot := by
      conv => lhs; lhs; rw [hbot]
      exact Nat.mul_div_cancel_left _ hcut
    rw [e1, e2] at this
    exact this
  generalize hcutE : Nat.gcd ia.natAbs ib = cut at *
  obtain ⟨t, ht, htabs⟩ : ∃ t : Int, ia = cut * t ∧ t.natAbs = tn := by
    rcases Int.natAbs_eq ia with h | h
    · exact ⟨tn, by rw [h, htn, Int.natCast_mul], Int.natAbs_natCast tn⟩
    · exact ⟨-tn, by rw [h, htn, Int.natCast_mul, Int.mul_neg], by rw [Int.natAbs_neg, Int.natAbs_natCast]⟩
  have hbot0 : 0 < bot := Nat.pos_of_ne_zero (fun h => by rw [h, Nat.mul_zero] at hbot; omega)
  have hbotle : bot ≤ ib := by rw [hbot]; exact Nat.le_mul_of_pos_left _ hcut
  have htnle : tn ≤ ia.natAbs := by rw [htn]; exact Nat.le_mul_of_pos_left _ hcut
  have hcutle : cut ≤ ib := by rw [hbot]; exact Nat.le_mul_of_pos_right _ hbot0
  -- what the two share
  have hsh : Nat.gcd bot (B % bot) = Nat.gcd bot B := by rw [Nat.gcd_comm bot (B % bot), ← Nat.gcd_rec bot B]
  have hg0 : 0 < Nat.gcd bot B := Nat.gcd_pos_of_pos_left _ hbot0
  obtain ⟨b1, hb1e⟩ : Nat.gcd bot B ∣ bot := Nat.gcd_dvd_left _ _
  obtain ⟨B1, hB1e⟩ : Nat.gcd bot B ∣ B := Nat.gcd_dvd_right _ _
  have hcop3 : Nat.Coprime B1 b1 := by
    have := Nat.gcd_div (Nat.gcd_dvd_left bot B) (Nat.gcd_dvd_right bot B)
    rw [Nat.div_self hg0] at this
    have e1 : bot / Nat.gcd bot B = b1 := by
      conv => lhs; lhs; rw [hb1e]
      exact Nat.mul_div_cancel_left _ hg0
    have e2 : B / Nat.gcd bot B = B1 := by
      conv => lhs; lhs; rw [hB1e]
      exact Nat.mul_div_cancel_left _ hg0
    rw [e1, e2, Nat.gcd_comm] at this
    exact this
  have hgle : Nat.gcd bot B ≤ bot := Nat.gcd_le_left _ hbot0
  generalize hg1 : Nat.gcd bot B = g1 at *
  have hB1le : B1 ≤ B := by rw [hB1e]; exact Nat.le_mul_of_pos_left _ hg0
  have hb1le : b1 ≤ bot := by rw [hb1e]; exact Nat.le_mul_of_pos_left _ hg0
  have hB10 : 0 < B1 := Nat.pos_of_ne_zero (fun h => by rw [h, Nat.mul_zero] at hB1e; omega)
  have hb10 : 0 < b1 := Nat.pos_of_ne_zero (fun h => by rw [h, Nat.mul_zero] at hb1e; omega)
  -- the sum
  have hD0 : B1 * (g1 * b1) ≠ 0 := by
    have := Nat.mul_pos hB10 (Nat.mul_pos hg0 hb10)
    omega
  have eY : (σ : Rat) * X + mkRat ia ib = mkRat (A * (σ * b1) + B1 * t) (B1 * (g1 * b1)) := by
    have e1 : (σ : Rat) * X = mkRat (σ * A) B := by
      rw [hq, Rat.mkRat_eq_div, Rat.mkRat_eq_div, Rat.div_def, Rat.div_def, ← Rat.mul_assoc, Rat.intCast_mul]
    rw [e1, Rat.mkRat_add_mkRat _ _ (by omega) (by omega)]
    have e2 : σ * A * (ib : Int) + ia * (B : Int) = ((cut * g1 : Nat) : Int) * (A * (σ * b1) + B1 * t) := by
      rw [ht, hbot, hb1e, hB1e]
      simp only [Int.natCast_mul]
      grind
    have e3 : B * ib = cut * g1 * (B1 * (g1 * b1)) := by
      rw [hbot, hb1e, hB1e]
      grind
    rw [e2, e3, Rat.mkRat_mul_left (by have := Nat.mul_pos hcut hg0; omega)]
  obtain ⟨r, hr⟩ : ∃ r : Nat, (r : Int) = A * (σ * b1) + B1 * t := by
    refine ⟨(A * (σ * b1) + B1 * t).toNat, Int.toNat_of_nonneg ?_⟩
    rw [eY] at hpos
    have h1 := Rat.num_nonneg.mpr hpos
    by_cases h : (A * (σ * b1) + B1 * t : Int) < 0
    · exfalso
      have h2 : mkRat (A * (σ * b1) + B1 * t) (B1 * (g1 * b1)) < 0 := by
        rw [Rat.mkRat_eq_div, Rat.div_lt_iff (by exact_mod_cast Nat.pos_of_ne_zero hD0), Rat.zero_mul]
        exact_mod_cast h
      exact absurd hpos (Rat.not_le.mpr h2)
    · omega
  rw [← hr] at eY
  have hgr : Nat.gcd r (B1 * (g1 * b1)) = Nat.gcd g1 r := join_gcd hσ hB1e hc hcop3 (by rw [htabs, ← hb1e]; exact hcop2) hr
  have hgm : Nat.gcd g1 (r % g1) = Nat.gcd g1 r := by rw [Nat.gcd_comm g1 (r % g1), ← Nat.gcd_rec g1 r]
  have hgr0 : 0 < Nat.gcd g1 r := Nat.gcd_pos_of_pos_left _ hg0
  have hgrle : Nat.gcd g1 r ≤ g1 := Nat.gcd_le_left _ hg0
  have hgrd : Nat.gcd g1 r ∣ g1 * b1 := Nat.dvd_trans (Nat.gcd_dvd_left _ _) (Nat.dvd_mul_right _ _)
  have hmk := mk_div (n := r) hD0
  rw [hgr] at hmk
  have hrle : r ≤ A * ib + ia.natAbs * B := by
    have h1 : (r : Int).natAbs ≤ (A * (σ * b1) : Int).natAbs + (B1 * t : Int).natAbs := by rw [hr]; exact Int.natAbs_add_le _ _
    rw [Int.natAbs_natCast, Int.natAbs_mul, Int.natAbs_mul, Int.natAbs_mul, hσ, htabs] at h1
    simp only [Int.natAbs_natCast, Nat.one_mul] at h1
    have h2 : A * b1 ≤ A * ib := Nat.mul_le_mul_left _ (by omega)
    have h3 : B1 * tn ≤ B * ia.natAbs := Nat.mul_le_mul hB1le htnle
    rw [Nat.mul_comm B] at h3
    omega
  -- the steps
  obtain ⟨I1, e1, k1, f1⟩ := s_divideExactly hk.2.2 hB hg0 (show g1 < 2 ^ 31 by omega)
  have eBB : B / g1 = B1 := by rw [hB1e]; exact Nat.mul_div_cancel_left _ hg0
  rw [eBB] at k1
  have ebb : bot / g1 = b1 := by rw [hb1e]; exact Nat.mul_div_cancel_left _ hg0
  have hσ2 : σ = 1 ∨ σ = -1 := by omega
  have hwn : (σ * b1).natAbs = b1 := by rw [Int.natAbs_mul, hσ, Int.natAbs_natCast, Nat.one_mul]
  obtain ⟨I2, e2, k2, f2⟩ := s_weigh (I := I1) (w := σ * b1) (v := t) hk.2.1 hk.2.2 (hA.fr f1 (Or.inl (by omega))) k1 hr (by omega) (by rw [hwn, htabs]; omega)
  obtain ⟨I3, e3, k3, f3⟩ := s_divideExactly (I := I2) hk.2.1 k2 hgr0 (show Nat.gcd g1 r < 2 ^ 31 by omega)
  have k1' : Hr I3 (f + 3 + 1) 0 16 B1 := (k1.fr f2 (Or.inl (by omega))).fr f3 (Or.inl (by omega))
  have hbc : bot / Nat.gcd g1 r ≤ bot := Nat.div_le_self _ _
  have hmb : B1 * (bot / Nat.gcd g1 r) ≤ B * ib := Nat.mul_le_mul hB1le (by omega)
  obtain ⟨I4, e4, k4, f4⟩ := s_multiply (I := I3) (f := bot / Nat.gcd g1 r) hk.2.2 k1' (by omega) (by omega)
  have c1 : ¬ nI cut = (0 : Int32) := nI_ne0 hcut (by omega)
  have c2 : ¬ nI g1 = (0 : Int32) := nI_ne0 hg0 (by omega)
  have c3 : ¬ nI (Nat.gcd g1 r) = (0 : Int32) := nI_ne0 hgr0 (by omega)
  have m1 : B % bot < bot := Nat.mod_lt _ hbot0
  have m2 : r % g1 < g1 := Nat.mod_lt _ hg0
  have q1 := s_cf_pos (kd := kd) (I := I) (show ia.natAbs < 2 ^ 31 by omega) (show ib < 2 ^ 31 by omega) (Or.inr hib)
  rw [hcutE] at q1
  have q2 := s_cf_pos (kd := kd) (I := I) (show bot < 2 ^ 31 by omega) (show B % bot < 2 ^ 31 by omega) (Or.inl hbot0)
  rw [hsh] at q2
  have q3 := s_cf_pos (kd := kd) (I := I2) (show g1 < 2 ^ 31 by omega) (show r % g1 < 2 ^ 31 by omega) (Or.inl hg0)
  rw [hgm] at q3
  have d1 : nI ib / nI cut = nI bot := by
    rw [pk_div (by omega) hcut (by omega), hbot, Nat.mul_div_cancel_left _ hcut]
  have d2 : nI bot / nI g1 = nI b1 := by rw [pk_div (by omega) hg0 (by omega), ebb]
  have d3 : nI bot / nI (Nat.gcd g1 r) = nI (bot / Nat.gcd g1 r) := pk_div (by omega) hgr0 (by omega)
  have jw : jI σ * jI (b1 : Int) = jI (σ * b1) := jI_mul _ _
  refine ⟨I4, ?_, ⟨?_, ?_, ?_⟩, (((Fr2.b f1).trans (Fr2.a f2)).trans (Fr2.a f3)).trans (Fr2.b f4)⟩
  · simp only [fFr_join, fFr_join_0, i_abs (show ia.natAbs < 2 ^ 31 by omega), q1, bi_s, ck_t c1, let_e, i_divx ht hcut (show cut < 2 ^ 31 by omega) (show ia.natAbs < 2 ^ 31 by omega), d1, ck_t hk.1, ck_t hk.2.1.1, ck_t hk.2.2.1, s_remainder hk.2.2 hB hbot0 (show bot < 2 ^ 31 by omega), q2, e1, bv_s, ck_t c2, d2, i_j (show σ.natAbs < 2 ^ 31 by omega), i_j (show t.natAbs < 2 ^ 31 by omega), nI_j (show b1 < 2 ^ 31 by omega), jw, e2, s_remainder hk.2.1 k2 hg0 (show g1 < 2 ^ 31 by omega), q3, e3, ck_t c3, d3, e4]
  · exact hpos
  · rw [eY, hmk.1, Int.toNat_natCast]
    exact k3.fr f4 (Or.inl (by omega))
  · rw [eY, hmk.2, ← hb1e, Nat.mul_div_assoc _ (by rw [hb1e]; exact hgrd)]
    exact k4
