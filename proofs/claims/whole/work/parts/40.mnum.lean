/-! THE REFERENCE'S NUMBERS: word[24 k + i] -/
def MnK (kd : Nat → Nat) (x : Nat) : Prop := kd x = 8 ∧ kd (x + 16) = 964
abbrev Hm (I : ek_St) (x k v : Nat) : Prop := Hr I (x + 16) (24 * k) 24 v
abbrev Fm (I I' : ek_St) (x k : Nat) : Prop := Fr1 I I' (x + 16) (24 * k) 24
theorem Hr.fm {I I' : ek_St} {x k m v : Nat} (h : Hm I x m v) (f : Fm I I' x k) (d : m ≠ k) : Hm I' x m v := h.fr f (by omega)
theorem h24 {i : Nat} (hi : i < 24) : ¬ (24 : Int32) ≤ nI i := nI_ge (b := 24) hi (by decide)
theorem h24e : (24 : Int32) ≤ nI 24 := nI_le (Nat.le_refl _) (by decide)
theorem m24 (k i : Nat) : (24 : Int32) * nI k + nI i = nI (24 * k + i) := by
  rw [show (24 : Int32) = nI 24 from rfl, pk_mul, nI_add]
theorem min {k i : Nat} (hk : k < 36) (hi : i < 24) : ek_in (nI (24 * k + i)) 864 := ein (by omega) (by decide)
theorem mcl {k i : Nat} (hk : k < 36) (hi : i < 24) : (nI (24 * k + i)).toNatClampNeg = 24 * k + i := nI_clamp (by omega)
theorem jI_shrK {n k : Nat} (h : n < 2 ^ 63) (hk : k < 3) : jI n >>> (Int32.toInt64 (nI (24 * k)) &&& 63) = jI ((n / 2 ^ (24 * k) : Nat) : Int) := by
  apply Int64.toInt_inj.mp
  have e0 : ((Int32.toInt64 (nI (24 * k)) &&& 63).toBitVec.smod 64).toNat = 24 * k := by
    have : k = 0 ∨ k = 1 ∨ k = 2 := by omega
    rcases this with rfl | rfl | rfl <;> decide
  have e : (jI n >>> (Int32.toInt64 (nI (24 * k)) &&& 63)).toInt = (jI n).toInt >>> (24 * k) := by
    show ((jI n).toBitVec.sshiftRight ((Int32.toInt64 (nI (24 * k)) &&& 63).toBitVec.smod 64).toNat).toInt = _
    rw [e0, BitVec.toInt_sshiftRight]
    rfl
  have hq : n / 2 ^ (24 * k) ≤ n := Nat.div_le_self _ _
  have e2 : (n : Int) >>> (24 * k) = ((n / 2 ^ (24 * k) : Nat) : Int) := by
    rw [Int.shiftRight_eq_div_pow]
    rfl
  rw [e, jI_toInt (by omega) (by omega), e2]
  generalize n / 2 ^ (24 * k) = u at *
  rw [jI_toInt (by omega) (by omega)]
theorem t_be {kd : Nat → Nat} {I : ek_St} {x k v : Nat} (hx : MnK kd x) (hk : k < 36) (hv : v < 2 ^ 63) :
    ∃ I', fMo_be kd I x (nI k) (jI v) = some I' ∧ Hm I' x k v ∧ Fm I I' x k := by
  unfold fMo_be fMo_be_0
  refine lp_for (fun i q => ∃ I', q = (I', x, nI k, jI v, nI i) ∧ Part I I' (x + 16) (24 * k) 24 i v) (fun I' => Hm I' x k v ∧ Fm I I' x k) 24 ⟨I, rfl, Part.start _ _ _ _ _⟩ ?_ ?_
  · rintro kk i q hi ⟨I', rfl, hp⟩ hkk
    have step : ∀ t2 : Int32, t2 = nI (dg v i) → ∃ r, fMo_be_43 kd kk I' x (nI k) (jI v) (nI i) (x + 16) (nI (24 * k + i)) t2 = some r ∧ Hm r x k v ∧ Fm I r x k := by
      rintro t2 rfl
      simp only [fMo_be_43, ck_t hx.2, ck_t (min hk hi), let_e, mcl hk hi]
      refine hkk _ ⟨_, ?_, hp.step hi⟩
      rw [nI_succ]
    simp only [fMo_be_3, if_neg (h24 hi), ck_t hx.1, m24]
    by_cases h2 : i < 3
    · rw [if_pos (show nI i ≤ (2 : Int32) from nI_le (b := 2) (by omega) (by decide))]
      refine step _ ?_
      have e : (24 : Int32) * nI i = nI (24 * i) := by rw [show (24 : Int32) = nI 24 from rfl, pk_mul]
      rw [e, jI_shrK hv h2, jI_andN, jI_iN]
      rfl
    · rw [if_neg (show ¬ nI i ≤ (2 : Int32) from nI_ge (a := 2) (by omega) (by omega))]
      refine step _ ?_
      have e : dg v i = 0 := by
        unfold dg
        rw [Nat.div_eq_of_lt (Nat.lt_of_lt_of_le hv (Nat.pow_le_pow_right (by decide) (by omega)))]
      rw [e]
      rfl
  · rintro kk q ⟨I', rfl, hp⟩
    simp only [fMo_be_3, if_pos h24e]
    exact ⟨I', rfl, hp.done (Nat.lt_of_lt_of_le hv (Nat.pow_le_pow_right (by decide) (by decide)))⟩
theorem t_copy {kd : Nat → Nat} {I : ek_St} {x k m v : Nat} (hx : MnK kd x) (hk : k < 36) (hm : m < 36) (hne : k ≠ m) (hv : Hm I x m v) :
    ∃ I', fMo_copy kd I x (nI k) (nI m) = some I' ∧ Hm I' x k v ∧ Fm I I' x k := by
  unfold fMo_copy fMo_copy_0
  refine lp_for (fun i q => ∃ I', q = (I', x, nI k, nI m, nI i) ∧ Part I I' (x + 16) (24 * k) 24 i v) (fun I' => Hm I' x k v ∧ Fm I I' x k) 24 ⟨I, rfl, Part.start _ _ _ _ _⟩ ?_ ?_
  · rintro kk i q hi ⟨I', rfl, hp⟩ hkk
    have hv' := Hr.fm hv hp.1 (Ne.symm hne)
    simp only [fMo_copy_2, if_neg (h24 hi), ck_t hx.1, ck_t hx.2, m24, ck_t (min hk hi), ck_t (min hm hi), let_e, mcl hk hi, mcl hm hi, hv'.2 i hi]
    refine hkk _ ⟨_, ?_, hp.step hi⟩
    rw [nI_succ]
  · rintro kk q ⟨I', rfl, hp⟩
    simp only [fMo_copy_2, if_pos h24e]
    exact ⟨I', rfl, hp.done hv.1⟩
theorem dn_at24 {t : Nat} (ht : t < 24) : nI (24 - t) + (-1) = nI (23 - t) := by
  rw [show 24 - t = (23 - t) + 1 by omega, pk_m1]
theorem sg_1 {z : Int} (h : 0 < z) : sg z = 1 := by unfold sg; rw [if_neg (by omega), if_neg (by omega)]
theorem sg_m1 {z : Int} (h : z < 0) : sg z = -1 := by unfold sg; rw [if_pos h]
theorem t_compare {kd : Nat → Nat} {I : ek_St} {x k m a b : Nat} (hx : MnK kd x) (hk : k < 36) (hm : m < 36) (ha : Hm I x k a) (hb : Hm I x m b) : fMo_compare kd I x (nI k) (nI m) = some (I, sg ((a : Int) - b)) := by
  have goal : ∃ q, fMo_compare kd I x (nI k) (nI m) = some q ∧ q = (I, sg ((a : Int) - b)) := by
    unfold fMo_compare fMo_compare_0
    refine lp_for (fun t q => q = (I, x, nI k, nI m, nI (24 - t) + (-1)) ∧ a / 2 ^ (24 * (24 - t)) = b / 2 ^ (24 * (24 - t))) (fun q => q = (I, sg ((a : Int) - b))) 24 ⟨rfl, ?_⟩ ?_ ?_
    · rw [Nat.div_eq_of_lt ha.1, Nat.div_eq_of_lt hb.1]
    · rintro kk t q ht ⟨rfl, heq⟩ hkk
      have hneg : ¬ nI (23 - t) < (0 : Int32) := nI_pos (by omega)
      have hi : 23 - t < 24 := by omega
      have da := dg_lt a (23 - t)
      have db := dg_lt b (23 - t)
      have ta := dg_top a (23 - t)
      have tb := dg_top b (23 - t)
      rw [show 23 - t + 1 = 24 - t by omega] at ta tb
      simp only [fMo_compare_3, dn_at24 ht, if_neg hneg, ck_t hx.1, ck_t hx.2, m24, ck_t (min hk hi), ck_t (min hm hi), let_e, mcl hk hi, mcl hm hi, ha.2 _ hi, hb.2 _ hi]
      have hsub := pk_sub_toInt (a := dg a (23 - t)) (b := dg b (23 - t)) (by omega) (by omega)
      by_cases hE : dg a (23 - t) = dg b (23 - t)
      · rw [if_pos (by rw [hE]; exact Int32.sub_self _)]
        refine hkk _ ⟨by rw [show 24 - (t + 1) = 23 - t by omega], ?_⟩
        rw [show 24 - (t + 1) = 23 - t by omega, ta, tb, heq, hE]
      · rw [if_neg (by
          intro h
          have := congrArg Int32.toInt h
          rw [hsub] at this
          have h0 : (0 : Int32).toInt = 0 := rfl
          omega)]
        by_cases hlt : dg b (23 - t) < dg a (23 - t)
        · rw [if_pos (by rw [Int32.le_iff_toInt_le, hsub]; show (0 : Int) ≤ _; omega)]
          refine ⟨_, rfl, ?_⟩
          have : b < a := by
            have h1 : b / 2 ^ (24 * (23 - t)) < a / 2 ^ (24 * (23 - t)) := by omega
            rcases Nat.lt_or_ge b a with h | h
            · exact h
            · have := Nat.div_le_div_right (c := 2 ^ (24 * (23 - t))) h
              omega
          rw [sg_1 (by omega)]
        · rw [if_neg (by rw [Int32.le_iff_toInt_le, hsub]; show ¬ (0 : Int) ≤ _; omega)]
          refine ⟨_, rfl, ?_⟩
          have : a < b := by
            have h1 : a / 2 ^ (24 * (23 - t)) < b / 2 ^ (24 * (23 - t)) := by omega
            rcases Nat.lt_or_ge a b with h | h
            · exact h
            · have := Nat.div_le_div_right (c := 2 ^ (24 * (23 - t))) h
              omega
          rw [sg_m1 (by omega)]
    · rintro kk q ⟨rfl, heq⟩
      have hneg : nI (24 - 24) + (-1) < (0 : Int32) := by decide
      simp only [fMo_compare_3, if_pos hneg]
      refine ⟨_, rfl, ?_⟩
      have : a = b := by simpa using heq
      rw [this, Int.sub_self]
      rfl
  obtain ⟨q, e, rfl⟩ := goal
  exact e
theorem t_isZero {kd : Nat → Nat} {I : ek_St} {x k a : Nat} (hx : MnK kd x) (hk : k < 36) (ha : Hm I x k a) : fMo_isZero kd I x (nI k) = some (I, bI (a == 0)) := by
  have goal : ∃ q, fMo_isZero kd I x (nI k) = some q ∧ q = (I, bI (a == 0)) := by
    unfold fMo_isZero fMo_isZero_0
    refine lp_for (fun i q => q = (I, x, nI k, nI i) ∧ ∀ j, j < i → dg a j = 0) (fun q => q = (I, bI (a == 0))) 24 ⟨rfl, fun j hj => absurd hj (by omega)⟩ ?_ ?_
    · rintro kk i q hi ⟨rfl, hz⟩ hkk
      have da := dg_lt a i
      simp only [fMo_isZero_2, if_neg (h24 hi), ck_t hx.1, ck_t hx.2, m24, ck_t (min hk hi), let_e, mcl hk hi, ha.2 _ hi, ck0]
      by_cases hE : dg a i = 0
      · rw [if_pos (by rw [hE]; rfl)]
        refine hkk _ ⟨by rw [nI_succ], fun j hj => ?_⟩
        by_cases e : j = i
        · rw [e]; exact hE
        · exact hz j (by omega)
      · rw [if_neg (nI_ne0 (by omega) (by omega))]
        refine ⟨_, rfl, ?_⟩
        have : a ≠ 0 := by rintro rfl; exact hE (dg_0 i)
        simp [bI, this]
    · rintro kk q ⟨rfl, hz⟩
      simp only [fMo_isZero_2, if_pos h24e, ck1]
      refine ⟨_, rfl, ?_⟩
      have : a = 0 := dg_ext ha.1 (Nat.two_pow_pos _) (fun i hi => by rw [hz i hi, dg_0])
      simp [bI, this]
  obtain ⟨q, e, rfl⟩ := goal
  exact e
theorem t_times {kd : Nat → Nat} {I : ek_St} {x k a f : Nat} (hx : MnK kd x) (hk : k < 36) (ha : Hm I x k a) (hf : f < 2 ^ 31) (hr : a * f < 2 ^ (24 * 24)) :
    ∃ I', fMo_times kd I x (nI k) (nI f) = some I' ∧ Hm I' x k (a * f) ∧ Fm I I' x k := by
  unfold fMo_times fMo_times_0
  have hrr : ((a * f : Nat) : Int) = a * (f : Int) + a * 0 := by rw [Int.mul_zero, Int.add_zero]; exact Int.natCast_mul a f
  have hm : ((f : Int).natAbs : Int) + (0 : Int).natAbs ≤ 2147483648 := by simp; omega
  refine lp_for (fun i q => ∃ I', q = (I', x, nI k, nI f, jI (cA a a f 0 i / ((2 ^ (24 * i) : Nat) : Int)), nI i) ∧ Part I I' (x + 16) (24 * k) 24 i (a * f)) (fun I' => Hm I' x k (a * f) ∧ Fm I I' x k) 24 ⟨I, by rw [cA_0]; rfl, Part.start _ _ _ _ _⟩ ?_ ?_
  · rintro kk i q hi ⟨I', rfl, hp⟩ hkk
    have ea : I' (x + 16) (24 * k + i) = nI (dg a i) := by
      rw [hp.2.2 i (Nat.le_refl i) hi]
      exact ha.2 i hi
    have es : (dg a i : Int) * f + cA a a f 0 i / ((2 ^ (24 * i) : Nat) : Int) = cA a a f 0 (i + 1) / ((2 ^ (24 * i) : Nat) : Int) := by rw [cA_div, Int.mul_zero, Int.add_zero]; exact Int.add_comm _ _
    obtain ⟨b1, b2⟩ := cA_le a a f 0 (i + 1) hm
    rw [← cA_next] at b1 b2
    have hwd := cA_word hrr i
    have hnx := cA_next a a f 0 i
    generalize hS : cA a a f 0 (i + 1) / ((2 ^ (24 * i) : Nat) : Int) = S at *
    simp only [fMo_times_5, if_neg (h24 hi), ck_t hx.1, ck_t hx.2, m24, ck_t (min hk hi), let_e, mcl hk hi, ea, dgj, nI_j hf, jI_mul, jI_add, es, jI_and, hwd, jI_iN, jI_shr (show (-9223372036854775808 : Int) ≤ S by omega) (show S < 9223372036854775808 by omega), hnx]
    refine hkk _ ⟨_, ?_, hp.step hi⟩
    rw [nI_succ]
  · rintro kk q ⟨I', rfl, hp⟩
    simp only [fMo_times_5, if_pos h24e]
    exact ⟨I', rfl, hp.done hr⟩
/-! ints that may be below nothing -/
def iI (z : Int) : Int32 := Int32.ofInt z
theorem iI_add (a b : Int) : iI a + iI b = iI (a + b) := (Int32.ofInt_add a b).symm
theorem iI_neg (a : Int) : -iI a = iI (-a) := (Int32.ofInt_neg a).symm
theorem iIN (n : Nat) : iI n = nI n := Int32.ofInt_eq_ofNat
theorem iI_toInt {z : Int} (h1 : -2147483648 ≤ z) (h2 : z < 2147483648) : (iI z).toInt = z := Int32.toInt_ofInt_of_le (by simpa using h1) (by simpa using h2)
theorem iI_shr {z : Int} (h1 : -2147483648 ≤ z) (h2 : z < 2147483648) : iI z >>> ((24 : Int32) &&& 31) = iI (z / 16777216) := by
  apply Int32.toInt_inj.mp
  rw [pk_shr _ _ 24 (by decide), iI_toInt h1 h2, iI_toInt (by omega) (by omega), Int.shiftRight_eq_div_pow]
  rfl
theorem iI_and (z : Int) : iI z &&& (16777215 : Int32) = iI (z % 16777216) := by
  apply Int32.toBitVec_inj.mp
  apply BitVec.eq_of_toNat_eq
  have e1 : (16777215 : Int32).toBitVec.toNat = 2 ^ 24 - 1 := by decide
  rw [Int32.toBitVec_and, BitVec.toNat_and, e1, Nat.and_two_pow_sub_one_eq_mod]
  show (BitVec.ofInt 32 z).toNat % 2 ^ 24 = (BitVec.ofInt 32 (z % 16777216)).toNat
  rw [BitVec.toNat_ofInt, BitVec.toNat_ofInt]
  omega
theorem t_add {kd : Nat → Nat} {I : ek_St} {x k m a b r : Nat} {w : Int} (hx : MnK kd x) (hk : k < 36) (hm : m < 36) (ha : Hm I x k a) (hb : Hm I x m b) (hw : w = 1 ∨ w = -1) (hr : (r : Int) = a * 1 + b * w) (hr2 : r < 2 ^ (24 * 24)) :
    ∃ I', fMo_add3 kd I x (nI k) (nI m) (if w = 1 then 0 else 1) = some I' ∧ Hm I' x k r ∧ Fm I I' x k := by
  unfold fMo_add3 fMo_add3_0
  have hmm : ((1 : Int).natAbs : Int) + w.natAbs ≤ 2 := by rcases hw with rfl | rfl <;> decide
  refine lp_for (fun i q => ∃ I', q = (I', x, nI k, nI m, (if w = 1 then 0 else 1), iI (cA a b 1 w i / ((2 ^ (24 * i) : Nat) : Int)), nI i) ∧ Part I I' (x + 16) (24 * k) 24 i r) (fun I' => Hm I' x k r ∧ Fm I I' x k) 24 ⟨I, by rw [cA_0]; rfl, Part.start _ _ _ _ _⟩ ?_ ?_
  · rintro kk i q hi ⟨I', rfl, hp⟩ hkk
    have ea : I' (x + 16) (24 * k + i) = nI (dg a i) := by
      rw [hp.2.2 i (Nat.le_refl i) hi]
      exact ha.2 i hi
    have eb : I' (x + 16) (24 * m + i) = nI (dg b i) := by
      by_cases e : m = k
      · subst e
        rw [hp.2.2 i (Nat.le_refl i) hi]
        exact hb.2 i hi
      · exact (Hr.fm hb hp.1 e).2 i hi
    have es : (dg a i : Int) + cA a b 1 w i / ((2 ^ (24 * i) : Nat) : Int) + (dg b i : Int) * w = cA a b 1 w (i + 1) / ((2 ^ (24 * i) : Nat) : Int) := by
      rw [cA_div]
      omega
    obtain ⟨b1, b2⟩ := cA_le a b 1 w (i + 1) hmm
    rw [← cA_next] at b1 b2
    have hwd := cA_word hr i
    have hnx := cA_next a b 1 w i
    have step : ∀ t0 t1 : Int32, t0 + t1 = iI (cA a b 1 w (i + 1) / ((2 ^ (24 * i) : Nat) : Int)) → ∃ q, fMo_add3_60 kd kk I' x (nI k) (nI m) (if w = 1 then 0 else 1) (nI i) t0 t1 = some q ∧ Hm q x k r ∧ Fm I q x k := by
      intro t0 t1 ht
      generalize hS : cA a b 1 w (i + 1) / ((2 ^ (24 * i) : Nat) : Int) = S at *
      simp only [fMo_add3_60, ht, ck_t hx.1, ck_t hx.2, m24, ck_t (min hk hi), let_e, mcl hk hi, iI_and, hwd, iIN, iI_shr (show (-2147483648 : Int) ≤ S by omega) (show S < 2147483648 by omega), hnx]
      refine hkk _ ⟨_, ?_, hp.step hi⟩
      rw [nI_succ]
    simp only [fMo_add3_6, if_neg (h24 hi), ck_t hx.1, ck_t hx.2, m24, ck_t (min hk hi), ck_t (min hm hi), mcl hk hi, mcl hm hi, ea, eb]
    rcases hw with rfl | rfl
    · rw [if_pos (show (if (1 : Int) = 1 then (0 : Int32) else 1) = 0 from rfl)]
      refine step _ _ ?_
      rw [← es, Int.mul_one, ← iIN, ← iIN, iI_add, iI_add]
    · rw [if_neg (show ¬ (if (-1 : Int) = 1 then (0 : Int32) else 1) = 0 by decide)]
      refine step _ _ ?_
      rw [← es, Int.mul_neg, Int.mul_one, ← iIN, ← iIN, iI_neg, iI_add, iI_add]
  · rintro kk q ⟨I', rfl, hp⟩
    simp only [fMo_add3_6, if_pos h24e]
    exact ⟨I', rfl, hp.done hr2⟩
theorem t_plus {kd : Nat → Nat} {I : ek_St} {x k m a b : Nat} (hx : MnK kd x) (hk : k < 36) (hm : m < 36) (ha : Hm I x k a) (hb : Hm I x m b) (hr : a + b < 2 ^ (24 * 24)) : ∃ I', fMo_add3 kd I x (nI k) (nI m) (0 : Int32) = some I' ∧ Hm I' x k (a + b) ∧ Fm I I' x k :=
  t_add (w := 1) hx hk hm ha hb (Or.inl rfl) (by omega) hr
theorem t_minus {kd : Nat → Nat} {I : ek_St} {x k m a b : Nat} (hx : MnK kd x) (hk : k < 36) (hm : m < 36) (ha : Hm I x k a) (hb : Hm I x m b) (hle : b ≤ a) : ∃ I', fMo_add3 kd I x (nI k) (nI m) (1 : Int32) = some I' ∧ Hm I' x k (a - b) ∧ Fm I I' x k :=
  t_add (w := -1) hx hk hm ha hb (Or.inr rfl) (by omega) (Nat.lt_of_le_of_lt (Nat.sub_le _ _) ha.1)
