/-! Natural: bits, shifts, products -/
theorem tb_dg (v i b : Nat) : (dg v i).testBit b = (decide (b < 24) && v.testBit (24 * i + b)) := by
  unfold dg
  rw [show (16777216 : Nat) = 2 ^ 24 by decide, Nat.testBit_mod_two_pow, Nat.testBit_div_two_pow, Nat.add_comm]
theorem tb_lt {v n : Nat} (h : v < 2 ^ n) {b : Nat} (hb : n ≤ b) : v.testBit b = false := Nat.testBit_lt_two_pow (Nat.lt_of_lt_of_le h (Nat.pow_le_pow_right (by decide) hb))
theorem nI_or {a b : Nat} (ha : a < 2 ^ 32) (hb : b < 2 ^ 32) : nI a ||| nI b = nI (a ||| b) := by
  apply Int32.toBitVec_inj.mp
  apply BitVec.eq_of_toNat_eq
  rw [Int32.toBitVec_or, BitVec.toNat_or, pk_tn ha, pk_tn hb, pk_tn (Nat.or_lt_two_pow ha hb)]
theorem sh_31 : ∀ k, k < 32 → ((nI k &&& 31).toBitVec.smod 32).toNat = k := by decide
theorem ush_31 : ∀ k, k < 32 → (((nI k).toUInt32 &&& Int32.toUInt32 31).toBitVec % 32).toNat = k := by decide
theorem i24 {n : Nat} (hn : n < 2 ^ 31) : nI n / (24 : Int32) = nI (n / 24) := pk_div hn (d := 24) (by decide) (by decide)
theorem r24 {n : Nat} (hn : n < 2 ^ 31) : nI n - nI n / (24 : Int32) * (24 : Int32) = nI (n % 24) := pk_rem hn (d := 24) (by decide) (by decide)
theorem dg_or_bit {v b j : Nat} : dg (v ||| 2 ^ b) j = if j = b / 24 then dg v j ||| 2 ^ (b % 24) else dg v j := by
  apply Nat.eq_of_testBit_eq
  intro k
  rw [tb_dg, Nat.testBit_or, Nat.testBit_two_pow]
  split
  · rename_i h
    rw [Nat.testBit_or, tb_dg, Nat.testBit_two_pow]
    by_cases hk : k < 24
    · have : (b = 24 * j + k) ↔ (b % 24 = k) := by omega
      simp [hk, this]
    · have : ¬ b % 24 = k := by omega
      simp [hk, this]
  · rename_i h
    rw [tb_dg]
    by_cases hk : k < 24
    · have : ¬ (b = 24 * j + k) := by omega
      simp [hk, this]
    · simp [hk]
theorem s_setBit {kd : Nat → Nat} {I : ek_St} {x a b : Nat} (hx : NatK kd x) (ha : Hr I (x + 1) 0 16 a) (hb : b < 384) :
    ∃ I', fNa_setBit kd I x (nI b) = some I' ∧ Hr I' (x + 1) 0 16 (a ||| 2 ^ b) ∧ Fr1 I I' (x + 1) 0 16 := by
  have c1 : ¬ nI b < (0 : Int32) := nI_pos (by omega)
  have c2 : ¬ (384 : Int32) ≤ nI b := nI_ge (b := 384) hb (by decide)
  have c3 : ¬ (24 : Int32) = 0 := by decide
  have hin : ek_in (nI (b / 24)) 16 := ein (by omega) (by decide)
  have hc : (nI (b / 24)).toNatClampNeg = b / 24 := nI_clamp (by omega)
  have hsh : (1 : Int32) <<< (nI (b % 24) &&& 31) = nI (2 ^ (b % 24)) := by
    have h24 : b % 24 < 32 := by omega
    have := pk_shlN (n := 1) (nI (b % 24) &&& 31) (b % 24) (sh_31 _ h24) (by rw [Nat.one_mul]; exact Nat.pow_lt_pow_right (by decide) h24)
    rw [Nat.one_mul] at this
    exact this
  have hrem : nI b - nI (b / 24) * (24 : Int32) = nI (b % 24) := by
    have := r24 (show b < 2 ^ 31 by omega)
    rwa [i24 (by omega)] at this
  have hp : 2 ^ (b % 24) < 2 ^ 32 := Nat.pow_lt_pow_right (by decide) (by omega)
  have hor : nI (dg a (b / 24)) ||| nI (2 ^ (b % 24)) = nI (dg a (b / 24) ||| 2 ^ (b % 24)) := nI_or (Nat.lt_trans (dg_lt _ _) (by decide)) hp
  simp only [fNa_setBit, fNa_setBit_0, if_neg c1, if_neg c2, i24 (show b < 2 ^ 31 by omega), hrem, ck_t hx.1, ck_t hx.2, ck_t c3, ck_t hin, hc, let_e, ha.at0 (show b / 24 < 16 by omega), hsh, hor]
  refine ⟨_, rfl, ⟨Nat.or_lt_two_pow ha.1 (Nat.pow_lt_pow_right (by decide) hb), fun i hi => ?_⟩, fun z k hz => ?_⟩
  · rw [Nat.zero_add, dg_or_bit]
    split
    · rename_i h
      subst h
      exact up_same
    · rename_i h
      rw [up_ne (by omega)]
      exact ha.at0 hi
  · rw [up_ne (by omega)]
theorem i_sub (a b : Nat) : nI a - nI b = Int32.ofInt ((a : Int) - b) := by
  rw [Int32.ofInt_sub]
  show Int32.ofNat a - Int32.ofNat b = _
  rw [Int32.ofInt_eq_ofNat, Int32.ofInt_eq_ofNat]
theorem i_sub1 (z : Int) : Int32.ofInt z - (1 : Int32) = Int32.ofInt (z - 1) := by
  rw [Int32.ofInt_sub]
  rfl
theorem shl_low {a k : Nat} (ha : a < 2 ^ 24) (hk : k < 32) : ∃ m, nI a <<< (nI k &&& 31) = nI m ∧ m < 2 ^ 32 ∧ ∀ b, b < 32 → m.testBit b = (decide (k ≤ b) && a.testBit (b - k)) := by
  refine ⟨a * 2 ^ k % 2 ^ 32, ?_, Nat.mod_lt _ (by decide), fun b hb => ?_⟩
  · apply Int32.toBitVec_inj.mp
    apply BitVec.eq_of_toNat_eq
    rw [pk_shl _ _ k (sh_31 k hk), pk_tn (Nat.lt_trans ha (by decide)), pk_tn (Nat.mod_lt _ (by decide))]
  · rw [Nat.testBit_mod_two_pow, Nat.testBit_mul_two_pow]
    simp [hb]
theorem ushr_low {a k : Nat} (ha : a < 2 ^ 24) (hk : k < 32) : ((nI a).toUInt32 >>> ((nI k).toUInt32 &&& Int32.toUInt32 31)).toInt32 = nI (a / 2 ^ k) := pk_ushrN (Nat.lt_trans ha (by decide)) (nI k) k (ush_31 k hk)
theorem s_setShifted {kd : Nat → Nat} {I : ek_St} {x y a s : Nat} (hx : NatK kd x) (hy : NatK kd y) (hne : x ≠ y) (ha : Hr I (y + 1) 0 16 a) (hs : s < 384) (hr : a * 2 ^ s < 2 ^ (24 * 16)) :
    ∃ I', fNa_setShifted kd I x y (nI s) = some I' ∧ Hr I' (x + 1) 0 16 (a * 2 ^ s) ∧ Fr1 I I' (x + 1) 0 16 := by
  have c3 : ¬ (24 : Int32) = 0 := by decide
  simp only [fNa_setShifted, fNa_setShifted_0, ck_t c3, let_e, i24 (show s < 2 ^ 31 by omega), r24 (show s < 2 ^ 31 by omega)]
  have hrem : nI s - nI (s / 24) * (24 : Int32) = nI (s % 24) := by
    have := r24 (show s < 2 ^ 31 by omega)
    rwa [i24 (by omega)] at this
  try rw [hrem]
  refine lp_for (fun i q => ∃ I', q = (I', x, y, nI (s / 24), nI (s % 24), nI i) ∧ Part I I' (x + 1) 0 16 i (a * 2 ^ s)) (fun I' => Hr I' (x + 1) 0 16 (a * 2 ^ s) ∧ Fr1 I I' (x + 1) 0 16) 16 ⟨I, rfl, Part.start _ _ _ _ _⟩ ?_ ?_
  · rintro k i q hi ⟨I', rfl, hp⟩ hk
    have hc : (nI i).toNatClampNeg = i := nI_clamp (by omega)
    have hin : ek_in (nI i) 16 := ein hi (by decide)
    have ha' : Hr I' (y + 1) 0 16 a := ha.fr hp.1 (Or.inl (by omega))
    have w1 := s_word hy ha' ((i : Int) - (s / 24 : Nat)) (by omega) (by omega)
    have w2 := s_word hy ha' ((i : Int) - (s / 24 : Nat) - 1) (by omega) (by omega)
    have e24 : (24 : Int32) - nI (s % 24) = nI (24 - s % 24) := pk_sub (a := 24) (by omega)
    generalize hd1 : (if (i : Int) - (s / 24 : Nat) < 0 then 0 else dg a ((i : Int) - (s / 24 : Nat)).toNat) = d1 at w1
    generalize hd2 : (if (i : Int) - (s / 24 : Nat) - 1 < 0 then 0 else dg a ((i : Int) - (s / 24 : Nat) - 1).toNat) = d2 at w2
    have l1 : d1 < 2 ^ 24 := by rw [← hd1]; split; decide; exact dg_lt _ _
    have l2 : d2 < 2 ^ 24 := by rw [← hd2]; split; decide; exact dg_lt _ _
    obtain ⟨m, em, lm, tm⟩ := shl_low (k := s % 24) l1 (by omega)
    have hq : d2 / 2 ^ (24 - s % 24) < 2 ^ 32 := Nat.lt_of_le_of_lt (Nat.div_le_self _ _) (Nat.lt_trans l2 (by decide))
    have em2 : (nI m ||| nI (d2 / 2 ^ (24 - s % 24))) &&& (16777215 : Int32) = nI (dg (a * 2 ^ s) i) := by
      rw [nI_or lm hq, pk_andN (Nat.or_lt_two_pow lm hq) 24 (by decide)]
      congr 1
      apply Nat.eq_of_testBit_eq
      intro b
      rw [Nat.testBit_mod_two_pow, Nat.testBit_or, tb_dg, Nat.testBit_mul_two_pow, Nat.testBit_div_two_pow]
      by_cases hb : b < 24
      · rw [tm b (by omega)]
        have hs2 := Nat.div_add_mod s 24
        have t1 : ∀ c, d1.testBit c = (decide (s / 24 ≤ i) && (decide (c < 24) && a.testBit (24 * (i - s / 24) + c))) := by
          intro c
          rw [← hd1]
          by_cases hle : s / 24 ≤ i
          · rw [if_neg (by omega), tb_dg, show ((i : Int) - (s / 24 : Nat)).toNat = i - s / 24 by omega]
            simp [hle]
          · rw [if_pos (by omega), Nat.zero_testBit]
            simp [hle]
        have t2 : ∀ c, d2.testBit c = (decide (s / 24 + 1 ≤ i) && (decide (c < 24) && a.testBit (24 * (i - s / 24 - 1) + c))) := by
          intro c
          rw [← hd2]
          by_cases hle : s / 24 + 1 ≤ i
          · rw [if_neg (by omega), tb_dg, show ((i : Int) - (s / 24 : Nat) - 1).toNat = i - s / 24 - 1 by omega]
            simp [hle]
          · rw [if_pos (by omega), Nat.zero_testBit]
            simp [hle]
        rw [t1, t2]
        by_cases h1 : s % 24 ≤ b
        · have h2 : ¬ (b + (24 - s % 24) < 24) := by omega
          have h9 : ¬ (24 - s % 24 + b < 24) := by omega
          by_cases h3 : s / 24 ≤ i
          · have h4 : s ≤ 24 * i + b := by omega
            have h5 : 24 * (i - s / 24) + (b - s % 24) = 24 * i + b - s := by omega
            have h6 : b - s % 24 < 24 := by omega
            simp [hb, h1, h2, h3, h4, h5, h6, h9]
          · have h4 : ¬ s ≤ 24 * i + b := by omega
            simp [hb, h1, h2, h3, h4, h9]
        · by_cases h3 : s / 24 + 1 ≤ i
          · have h4 : s ≤ 24 * i + b := by omega
            have h5 : 24 * (i - s / 24 - 1) + (b + (24 - s % 24)) = 24 * i + b - s := by omega
            have h6 : b + (24 - s % 24) < 24 := by omega
            have h7 : 24 * (i - s / 24 - 1) + (24 - s % 24 + b) = 24 * i + b - s := by omega
            have h8 : 24 - s % 24 + b < 24 := by omega
            simp [hb, h1, h3, h4, h5, h6, h7, h8]
          · have h4 : ¬ s ≤ 24 * i + b := by omega
            simp [hb, h1, h3, h4]
      · simp [hb]
    simp only [fNa_setShifted_14, if_neg (h16 hi), ck_t hx.1, ck_t hx.2, ck_t hy.1, ck_t hin, let_e, hc, i_sub, i_sub1, w1, w2, bi_s, em, e24]
    rw [ushr_low l2 (by omega), em2]
    have hp := hp.step hi
    rw [Nat.zero_add] at hp
    refine hk _ ⟨_, ?_, hp⟩
    rw [nI_succ]
  · rintro k q ⟨I', rfl, hp⟩
    simp only [fNa_setShifted_14, if_pos (show (16 : Int32) ≤ nI 16 from nI_le (Nat.le_refl _) (by decide))]
    exact ⟨I', rfl, hp.done hr⟩
/-! products -/
def mT (a b i j : Nat) : Nat := (a % 2 ^ (24 * i)) * b + dg a i * (b % 2 ^ (24 * j)) * 2 ^ (24 * i)
theorem mT_0 (a b i : Nat) : mT a b i 0 = (a % 2 ^ (24 * i)) * b := by simp [mT, Nat.mod_one]
theorem mT_full {a b i j : Nat} (h : b < 2 ^ (24 * j)) : mT a b i j = (a % 2 ^ (24 * (i + 1))) * b := by
  unfold mT
  rw [Nat.mod_eq_of_lt h, dg_split, Nat.add_mul]
  congr 1
  rw [Nat.mul_comm (2 ^ (24 * i)), Nat.mul_right_comm]
theorem mT_succ (a b i j : Nat) : mT a b i (j + 1) = mT a b i j + dg a i * dg b j * 2 ^ (24 * (i + j)) := by
  unfold mT
  rw [dg_split b j, Nat.mul_add, Nat.add_mul, ← Nat.add_assoc]
  congr 1
  rw [Nat.mul_add 24, Nat.pow_add]
  generalize 2 ^ (24 * i) = A
  generalize 2 ^ (24 * j) = B
  grind
theorem mT_le (a b i j : Nat) : mT a b i j ≤ a * b := by
  have h1 : mT a b i j ≤ (a % 2 ^ (24 * (i + 1))) * b := by
    unfold mT
    rw [dg_split a i, Nat.add_mul]
    refine Nat.add_le_add_left ?_ _
    rw [Nat.mul_comm (2 ^ (24 * i)), Nat.mul_right_comm]
    exact Nat.mul_le_mul_left _ (Nat.mod_le _ _)
  exact Nat.le_trans h1 (Nat.mul_le_mul_right _ (Nat.mod_le _ _))
/-- the carry of a row of the product -/
def mC (a b i j : Nat) : Nat := mT a b i j / 2 ^ (24 * (i + j)) - mT a b i 0 / 2 ^ (24 * (i + j))
theorem mT_mono (a b i j : Nat) : mT a b i 0 ≤ mT a b i j := by
  rw [mT_0]
  unfold mT
  omega
theorem mC_eq (a b i j : Nat) : mT a b i j / 2 ^ (24 * (i + j)) = mT a b i 0 / 2 ^ (24 * (i + j)) + mC a b i j := by
  have := Nat.div_le_div_right (c := 2 ^ (24 * (i + j))) (mT_mono a b i j)
  unfold mC
  omega
theorem mC_0 (a b i : Nat) : mC a b i 0 = 0 := by simp [mC]
theorem mC_step (a b i j : Nat) : mT a b i (j + 1) / 2 ^ (24 * (i + j)) = mT a b i 0 / 2 ^ (24 * (i + j + 1)) * 16777216 + (dg a i * dg b j + dg (mT a b i 0) (i + j) + mC a b i j) := by
  rw [mT_succ, Nat.add_mul_div_right _ _ (Nat.two_pow_pos _), mC_eq, dg_top (mT a b i 0) (i + j)]
  omega
theorem mC_word (a b i j : Nat) : dg (mT a b i (j + 1)) (i + j) = (dg a i * dg b j + dg (mT a b i 0) (i + j) + mC a b i j) % 16777216 := by
  unfold dg
  rw [mC_step]
  unfold dg
  omega
theorem mC_next (a b i j : Nat) : mC a b i (j + 1) = (dg a i * dg b j + dg (mT a b i 0) (i + j) + mC a b i j) / 16777216 := by
  have h1 := mC_step a b i j
  have h2 : mT a b i (j + 1) / 2 ^ (24 * (i + (j + 1))) = mT a b i (j + 1) / 2 ^ (24 * (i + j)) / 16777216 := by
    rw [show i + (j + 1) = (i + j) + 1 by omega, p24, Nat.div_div_eq_div_mul]
  unfold mC
  rw [h2, h1, show i + (j + 1) = i + j + 1 by omega]
  generalize mT a b i 0 / 2 ^ (24 * (i + j + 1)) = U
  have : mC a b i j = mT a b i j / 2 ^ (24 * (i + j)) - mT a b i 0 / 2 ^ (24 * (i + j)) := rfl
  rw [← this]
  omega
theorem mC_lt (a b i : Nat) : ∀ j, mC a b i j < 16777216 := by
  intro j
  induction j with
  | zero => rw [mC_0]; decide
  | succ j ih =>
    rw [mC_next]
    have h1 := dg_lt a i
    have h2 := dg_lt b j
    have h3 := dg_lt (mT a b i 0) (i + j)
    have h4 : dg a i * dg b j ≤ 16777215 * 16777215 := Nat.mul_le_mul (by omega) (by omega)
    omega
theorem mT_low (a b i j k : Nat) (h : k < i + j) : dg (mT a b i (j + 1)) k = dg (mT a b i j) k := by
  have e : ∀ u m, dg (u + m * 2 ^ (24 * (i + j))) k = dg u k := by
    intro u m
    unfold dg
    have h2 : 2 ^ (24 * (i + j)) = 2 ^ (24 * (k + 1)) * 2 ^ (24 * (i + j) - 24 * (k + 1)) := by
      rw [← Nat.pow_add]
      congr 1
      omega
    rw [h2, p24, ← Nat.mul_assoc, Nat.mul_comm m, Nat.mul_assoc, Nat.mul_assoc, Nat.add_mul_div_left _ _ (Nat.two_pow_pos _), Nat.add_mul_mod_self_left]
  rw [mT_succ]
  exact e _ _
theorem jI_sum (p q r : Nat) : jI p * jI q + jI r = jI ((p * q + r : Nat) : Int) := by
  rw [jI_mul, jI_add, Int.natCast_add, Int.natCast_mul]
theorem jI_shrN {n : Nat} (h : n < 2 ^ 62) : jI n >>> (Int32.toInt64 (24 : Int32) &&& 63) = jI ((n / 16777216 : Nat) : Int) := by
  rw [jI_shr (by omega) (by omega)]
  rfl
theorem jI_andN (n : Nat) : jI n &&& (16777215 : Int64) = jI ((n % 16777216 : Nat) : Int) := by
  rw [jI_and]
  rfl
theorem s_setProduct {kd : Nat → Nat} {I : ek_St} {x y z a b : Nat} (hx : NatK kd x) (hy : NatK kd y) (hz : NatK kd z) (hxy : x ≠ y) (hxz : x ≠ z) (ha : Hr I (y + 1) 0 16 a) (hb : Hr I (z + 1) 0 16 b) (hr : a * b < 2 ^ (24 * 16)) :
    ∃ I', fNa_setProduct kd I x y z = some I' ∧ Hr I' (x + 1) 0 16 (a * b) ∧ Fr1 I I' (x + 1) 0 16 := by
  obtain ⟨I1, e1, h1, f1⟩ := s_set (I := I) (f := 0) hx (by decide)
  simp only [fNa_setProduct, fNa_setProduct_0, ck_t hx.1]
  rw [show (0 : Int32) = nI 0 from rfl, e1, bv_s]
  refine lp_for (fun i q => ∃ I', q = (I', x, y, z, nI i) ∧ Fr1 I I' (x + 1) 0 16 ∧ Hr I' (x + 1) 0 16 ((a % 2 ^ (24 * i)) * b)) (fun I' => Hr I' (x + 1) 0 16 (a * b) ∧ Fr1 I I' (x + 1) 0 16) 16 ⟨I1, rfl, f1, by rw [Nat.mul_zero, Nat.pow_zero, Nat.mod_one, Nat.zero_mul]; exact h1⟩ ?_ ?_
  · rintro k i q hi ⟨I2, rfl, f2, h2⟩ hk
    simp only [fNa_setProduct_7, if_neg (h16 hi)]
    have hci : (nI i).toNatClampNeg = i := nI_clamp (by omega)
    have hini : ek_in (nI i) 16 := ein hi (by decide)
    rw [← mT_0] at h2
    refine lp_for (fun j q => ∃ I', q = (I', x, y, z, nI i, jI (mC a b i j : Nat), nI j) ∧ Fr1 I I' (x + 1) 0 16 ∧ (∀ k, k < i + j → k < 16 → I' (x + 1) k = nI (dg (mT a b i j) k)) ∧ ∀ k, i + j ≤ k → k < 16 → I' (x + 1) k = nI (dg (mT a b i 0) k)) (fun I' => Hr I' (x + 1) 0 16 (a * b) ∧ Fr1 I I' (x + 1) 0 16) (16 - i) ⟨I2, by rw [mC_0]; rfl, f2, fun k h3 h4 => h2.at0 h4, fun k h3 h4 => h2.at0 h4⟩ ?_ ?_ (by omega)
    · rintro kk j q hj ⟨I3, rfl, f3, g1, g2⟩ hkk
      have hcj : (nI j).toNatClampNeg = j := nI_clamp (by omega)
      have hinj : ek_in (nI j) 16 := ein (by omega) (by decide)
      have hcij : (nI (i + j)).toNatClampNeg = i + j := nI_clamp (by omega)
      have hinij : ek_in (nI (i + j)) 16 := ein (by omega) (by decide)
      have ha3 : Hr I3 (y + 1) 0 16 a := ha.fr f3 (Or.inl (by omega))
      have hb3 : Hr I3 (z + 1) 0 16 b := hb.fr f3 (Or.inl (by omega))
      have l1 := dg_lt a i
      have l2 := dg_lt b j
      have l3 := dg_lt (mT a b i 0) (i + j)
      have l4 := mC_lt a b i j
      have l5 : dg a i * dg b j ≤ 16777215 * 16777215 := Nat.mul_le_mul (by omega) (by omega)
      have hw := mC_word a b i j
      have hn := mC_next a b i j
      simp only [fNa_setProduct_19, nI_add, if_neg (h16 (show i + j < 16 by omega)), ck_t hx.1, ck_t hx.2, ck_t hy.1, ck_t hy.2, ck_t hz.1, ck_t hz.2, ck_t hini, ck_t hinj, ck_t hinij, let_e, hci, hcj, hcij, ha3.at0 hi, hb3.at0 (show j < 16 by omega), g2 (i + j) (Nat.le_refl _) (by omega), dgj, jI_sum]
      rw [jI_add, ← Int.natCast_add, jI_shrN (by omega), jI_andN, jI_iN, ← hn, ← hw]
      refine hkk _ ⟨ek_up I3 (x + 1) (i + j) (nI (dg (mT a b i (j + 1)) (i + j))), ?_, ?_, ?_, ?_⟩
      · rw [nI_succ]
      · exact fun z' k' hz' => by rw [up_ne (by omega)]; exact f3 z' k' hz'
      · intro k h3 h4
        by_cases e : k = i + j
        · subst e
          exact up_same
        · rw [up_ne (by omega), g1 k (by omega) h4, mT_low _ _ _ _ _ (by omega)]
      · intro k h3 h4
        rw [up_ne (by omega)]
        exact g2 k (by omega) h4
    · rintro kk q ⟨I3, rfl, f3, g1, g2⟩
      have c : (16 : Int32) ≤ nI (i + (16 - i)) := nI_le (a := 16) (by omega) (by omega)
      simp only [fNa_setProduct_19, nI_add, if_pos c, let_e]
      refine hk _ ⟨I3, ?_, f3, ?_⟩
      · rw [nI_succ]
      · have e : mT a b i (16 - i) = (a % 2 ^ (24 * (i + 1))) * b := by
          have hd := dg_split a i
          have hP : (a % 2 ^ (24 * (i + 1))) * b ≤ a * b := Nat.mul_le_mul_right _ (Nat.mod_le _ _)
          have hbm := Nat.div_add_mod b (2 ^ (24 * (16 - i)))
          have h5 : (a % 2 ^ (24 * (i + 1))) * b = mT a b i (16 - i) + 2 ^ (24 * 16) * (dg a i * (b / 2 ^ (24 * (16 - i)))) := by
            unfold mT
            rw [hd, Nat.add_mul]
            have h6 : 2 ^ (24 * 16) = 2 ^ (24 * i) * 2 ^ (24 * (16 - i)) := by
              rw [← Nat.pow_add]
              congr 1
              omega
            rw [h6]
            generalize 2 ^ (24 * i) = A at *
            generalize 2 ^ (24 * (16 - i)) = B at *
            generalize a % A = a0 at *
            generalize dg a i = d at *
            generalize hq : b / B = bq at *
            generalize hm : b % B = bm at *
            have h7 : A * d * b = A * d * (B * bq) + A * d * bm := by rw [← Nat.mul_add, hbm]
            have h8 : A * d * b = d * bm * A + A * B * (d * bq) := by
              rw [h7]
              grind
            omega
          have h9 : dg a i * (b / 2 ^ (24 * (16 - i))) = 0 := by
            rcases Nat.eq_zero_or_pos (dg a i * (b / 2 ^ (24 * (16 - i)))) with h | h
            · exact h
            · have : 2 ^ (24 * 16) * 1 ≤ 2 ^ (24 * 16) * (dg a i * (b / 2 ^ (24 * (16 - i)))) := Nat.mul_le_mul_left _ h
              omega
          rw [h5, h9]
          omega
        rw [← e]
        refine ⟨Nat.lt_of_le_of_lt (mT_le _ _ _ _) hr, fun k hk => ?_⟩
        rw [Nat.zero_add]
        exact g1 k (by omega) hk
  · rintro k q ⟨I2, rfl, f2, h2⟩
    simp only [fNa_setProduct_7, if_pos (show (16 : Int32) ≤ nI 16 from nI_le (Nat.le_refl _) (by decide))]
    rw [Nat.mod_eq_of_lt ha.1] at h2
    exact ⟨I2, rfl, h2, f2⟩
/-! the length in bits -/
def bl (v : Nat) : Nat := if v = 0 then 0 else Nat.log2 v + 1
theorem log2_shr {v k : Nat} (h : 2 ^ k ≤ v) : Nat.log2 v = Nat.log2 (v / 2 ^ k) + k := by
  have hv : v ≠ 0 := by have := Nat.two_pow_pos k; omega
  have hq : v / 2 ^ k ≠ 0 := by
    have := Nat.div_pos h (Nat.two_pow_pos k)
    omega
  have h1 := Nat.log2_self_le hq
  have h2 := Nat.lt_log2_self (n := v / 2 ^ k)
  rw [Nat.log2_eq_iff hv]
  rw [Nat.pow_add, show Nat.log2 (v / 2 ^ k) + k + 1 = (Nat.log2 (v / 2 ^ k) + 1) + k by omega, Nat.pow_add]
  constructor
  · calc 2 ^ Nat.log2 (v / 2 ^ k) * 2 ^ k ≤ v / 2 ^ k * 2 ^ k := Nat.mul_le_mul_right _ h1
      _ ≤ v := Nat.div_mul_le_self _ _
  · exact (Nat.div_lt_iff_lt_mul (Nat.two_pow_pos k)).mp h2
theorem nlz_73 {kd : Nat → Nat} {I : ek_St} {v n : Nat} (hv : 0 < v) (h : v < 4) (hn : Nat.log2 v ≤ n) (hn2 : n < 64) : fIg_numberOfLeadingZeros_73 kd I (nI v) (nI n) = some (I, nI (n - Nat.log2 v)) := by
  have e := ushr_low (a := v) (k := 1) (by omega) (by decide)
  simp only [fIg_numberOfLeadingZeros_73]
  rw [show (1 : Int32) = nI 1 from rfl, e]
  have h3 : v = 1 ∨ v = 2 ∨ v = 3 := by omega
  have l1 : Nat.log2 1 = 0 := by decide
  have l2 : Nat.log2 2 = 1 := by decide
  have l3 : Nat.log2 3 = 1 := by decide
  rcases h3 with rfl | rfl | rfl
  · rw [l1, show 1 / 2 ^ 1 = 0 by decide, pk_sub (by omega)]
  · rw [l2] at hn ⊢
    rw [show 2 / 2 ^ 1 = 1 by decide, pk_sub (by omega)]
  · rw [l3] at hn ⊢
    rw [show 3 / 2 ^ 1 = 1 by decide, pk_sub (by omega)]
theorem i_dec {n k : Nat} (h : k ≤ n) {z : Int32} (hz : z = -nI k) : nI n + z = nI (n - k) := by
  rw [hz, ← pk_sub h, Int32.sub_eq_add_neg]
theorem nlz_61 {kd : Nat → Nat} {I : ek_St} {v n : Nat} (hv : 0 < v) (h : v < 16) (hn : Nat.log2 v ≤ n) (hn2 : n < 64) : fIg_numberOfLeadingZeros_61 kd I (nI v) (nI n) = some (I, nI (n - Nat.log2 v)) := by
  by_cases c : v < 4
  · simp only [fIg_numberOfLeadingZeros_61, if_pos (show nI v < (4 : Int32) from nI_lt (b := 4) c (by decide))]
    exact nlz_73 hv c hn hn2
  · have hl := log2_shr (v := v) (k := 2) (by omega)
    have e := ushr_low (a := v) (k := 2) (by omega) (by decide)
    simp only [fIg_numberOfLeadingZeros_61, if_neg (show ¬ nI v < (4 : Int32) from nI_nlt (b := 4) (by omega) (by omega)), let_e]
    rw [show (2 : Int32) = nI 2 from rfl, e, i_dec (k := 2) (by omega) (by decide), nlz_73 (by omega) (by omega) (by omega) (by omega), hl]
    congr 3
    omega
theorem nlz_48 {kd : Nat → Nat} {I : ek_St} {v n : Nat} (hv : 0 < v) (h : v < 256) (hn : Nat.log2 v ≤ n) (hn2 : n < 64) : fIg_numberOfLeadingZeros_48 kd I (nI v) (nI n) = some (I, nI (n - Nat.log2 v)) := by
  by_cases c : v < 16
  · simp only [fIg_numberOfLeadingZeros_48, if_pos (show nI v < (16 : Int32) from nI_lt (b := 16) c (by decide))]
    exact nlz_61 hv c hn hn2
  · have hl := log2_shr (v := v) (k := 4) (by omega)
    have e := ushr_low (a := v) (k := 4) (by omega) (by decide)
    simp only [fIg_numberOfLeadingZeros_48, if_neg (show ¬ nI v < (16 : Int32) from nI_nlt (b := 16) (by omega) (by omega)), let_e]
    rw [show (4 : Int32) = nI 4 from rfl, e, i_dec (k := 4) (by omega) (by decide), nlz_61 (by omega) (by omega) (by omega) (by omega), hl]
    congr 3
    omega
theorem nlz_33 {kd : Nat → Nat} {I : ek_St} {v n : Nat} (hv : 0 < v) (h : v < 65536) (hn : Nat.log2 v ≤ n) (hn2 : n < 64) : fIg_numberOfLeadingZeros_33 kd I (nI v) (nI n) = some (I, nI (n - Nat.log2 v)) := by
  by_cases c : v < 256
  · simp only [fIg_numberOfLeadingZeros_33, if_pos (show nI v < (256 : Int32) from nI_lt (b := 256) c (by decide))]
    exact nlz_48 hv c hn hn2
  · have hl := log2_shr (v := v) (k := 8) (by omega)
    have e := ushr_low (a := v) (k := 8) (by omega) (by decide)
    simp only [fIg_numberOfLeadingZeros_33, if_neg (show ¬ nI v < (256 : Int32) from nI_nlt (b := 256) (by omega) (by omega)), let_e]
    rw [show (8 : Int32) = nI 8 from rfl, e, i_dec (k := 8) (by omega) (by decide), nlz_48 (by omega) (by omega) (by omega) (by omega), hl]
    congr 3
    omega
theorem log2_le {v k : Nat} (h : v < 2 ^ (k + 1)) : Nat.log2 v ≤ k := by
  rcases Nat.eq_zero_or_pos v with h0 | h0
  · subst h0
    simp
  · have := (Nat.log2_lt (n := v) (k := k + 1) (by omega)).mpr h
    omega
theorem s_nlz {kd : Nat → Nat} {I : ek_St} {v : Nat} (hv : 0 < v) (h : v < 16777216) : fIg_numberOfLeadingZeros kd I (nI v) = some (I, nI (31 - Nat.log2 v)) := by
  have hp : (0 : Int32) < nI v := nI_lt (a := 0) hv (by omega)
  have hle : Nat.log2 v ≤ 23 := log2_le (k := 23) (by omega)
  by_cases c : v < 65536
  · simp only [fIg_numberOfLeadingZeros, fIg_numberOfLeadingZeros_0, if_pos hp, if_pos (show nI v < (65536 : Int32) from nI_lt (b := 65536) c (by decide))]
    exact nlz_33 (n := 31) hv c (by omega) (by decide)
  · have hl := log2_shr (v := v) (k := 16) (by omega)
    have e := ushr_low (a := v) (k := 16) (by omega) (by decide)
    simp only [fIg_numberOfLeadingZeros, fIg_numberOfLeadingZeros_0, if_pos hp, if_neg (show ¬ nI v < (65536 : Int32) from nI_nlt (b := 65536) (by omega) (by omega)), let_e]
    rw [show (31 : Int32) + -16 = nI 15 by decide, show (16 : Int32) = nI 16 from rfl, e, nlz_33 (by omega) (by omega) (by omega) (by omega), hl]
    congr 3
    omega
theorem s_bitLength {kd : Nat → Nat} {I : ek_St} {x a : Nat} (hx : NatK kd x) (ha : Hr I (x + 1) 0 16 a) : fNa_bitLength kd I x = some (I, nI (bl a)) := by
  have goal : ∃ q, fNa_bitLength kd I x = some q ∧ q = (I, nI (bl a)) := by
    unfold fNa_bitLength fNa_bitLength_0
    refine lp_for (fun t q => q = (I, x, nI (16 - t) + (-1)) ∧ a < 2 ^ (24 * (16 - t))) (fun q => q = (I, nI (bl a))) 16 ⟨rfl, ha.1⟩ ?_ ?_
    · rintro k t q ht ⟨rfl, hlt⟩ hk
      have hc : (nI (15 - t)).toNatClampNeg = 15 - t := nI_clamp (by omega)
      have hin : ek_in (nI (15 - t)) 16 := ein (by omega) (by decide)
      have hneg : ¬ nI (15 - t) < (0 : Int32) := nI_pos (by omega)
      have e1 : 16 - t = (15 - t) + 1 := by omega
      have hda : dg a (15 - t) = a / 2 ^ (24 * (15 - t)) := by
        unfold dg
        refine Nat.mod_eq_of_lt (Nat.div_lt_of_lt_mul ?_)
        rw [← p24, ← e1]
        exact hlt
      simp only [fNa_bitLength_3, dn_at ht, if_neg hneg, ck_t hx.1, ck_t hx.2, ck_t hin, hc, ha.at0 (show 15 - t < 16 by omega), let_e]
      by_cases h0 : dg a (15 - t) = 0
      · rw [if_pos (by rw [h0]; rfl)]
        refine hk _ ⟨by rw [show 16 - (t + 1) = 15 - t by omega], ?_⟩
        rw [show 16 - (t + 1) = 15 - t by omega]
        rw [hda] at h0
        exact (Nat.div_eq_zero_iff_lt (Nat.two_pow_pos _)).mp h0
      · have hd := dg_lt a (15 - t)
        rw [if_neg (nI_ne0 (by omega) (by omega)), s_nlz (by omega) hd, bi_s]
        refine ⟨_, rfl, ?_⟩
        have hge : 2 ^ (24 * (15 - t)) ≤ a := by
          rcases Nat.lt_or_ge a (2 ^ (24 * (15 - t))) with h | h
          · rw [hda, Nat.div_eq_of_lt h] at h0
            exact absurd rfl h0
          · exact h
        have hl := log2_shr hge
        rw [← hda] at hl
        have hle : Nat.log2 (dg a (15 - t)) ≤ 23 := log2_le (k := 23) (by omega)
        have ha0 : a ≠ 0 := by have := Nat.two_pow_pos (24 * (15 - t)); omega
        rw [show (24 : Int32) = nI 24 from rfl, show (32 : Int32) = nI 32 from rfl, pk_mul, nI_add, pk_sub (by omega)]
        unfold bl
        rw [if_neg ha0, hl]
        congr 2
        omega
    · rintro k q ⟨rfl, hlt⟩
      have hneg : nI (16 - 16) + (-1) < (0 : Int32) := by decide
      have h0 : a = 0 := by simpa using hlt
      simp only [fNa_bitLength_3, if_pos hneg]
      refine ⟨_, rfl, ?_⟩
      rw [h0]
      rfl
  obtain ⟨q, e, rfl⟩ := goal
  exact e
theorem bl_0 {v : Nat} : bl v = 0 ↔ v = 0 := by
  unfold bl
  split <;> omega
theorem bl_lt {v n : Nat} (h : v < 2 ^ n) : bl v ≤ n := by
  unfold bl
  split
  · omega
  · rename_i h0
    have := (Nat.log2_lt (n := v) (k := n) h0).mpr h
    omega
def bI (b : Bool) : Int32 := if b then 1 else 0
theorem ck1 {β : Type} {k : Option β} : ek_ck ((1 : Int32) = 0 ∨ True) k = k := ck_t (Or.inr trivial)
theorem ck0 {β : Type} {k : Option β} : ek_ck (True ∨ (0 : Int32) = 1) k = k := ck_t (Or.inl trivial)
theorem s_isZero {kd : Nat → Nat} {I : ek_St} {x a : Nat} (hx : NatK kd x) (ha : Hr I (x + 1) 0 16 a) : fNa_isZero kd I x = some (I, bI (a == 0)) := by
  have hb := bl_lt ha.1
  simp only [fNa_isZero, fNa_isZero_0, ck_t hx.1, s_bitLength hx ha, bi_s]
  by_cases h : a = 0
  · rw [if_pos (by rw [bl_0.mpr h]; rfl), ck1]
    simp [bI, h]
  · rw [if_neg (nI_ne0 (by have := mt bl_0.mp h; omega) (by omega)), ck0]
    simp [bI, h]
