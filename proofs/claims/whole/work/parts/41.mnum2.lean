/-! the reference's numbers: products, halves, quotients -/
theorem m24b (k i j : Nat) : (24 : Int32) * nI k + nI i + nI j = nI (24 * k + (i + j)) := by
  rw [m24, nI_add, Nat.add_assoc]
theorem m24c (k i j : Nat) : nI (24 * k + i + j) = nI (24 * k + (i + j)) := by rw [Nat.add_assoc]
theorem t_product {kd : Nat → Nat} {I : ek_St} {x k m l a b : Nat} (hx : MnK kd x) (hk : k < 36) (hm : m < 36) (hl : l < 36) (hkm : k ≠ m) (hkl : k ≠ l) (ha : Hm I x m a) (hb : Hm I x l b) (hr : a * b < 2 ^ (24 * 24)) :
    ∃ I', fMo_product kd I x (nI k) (nI m) (nI l) = some I' ∧ Hm I' x k (a * b) ∧ Fm I I' x k := by
  obtain ⟨I1, e1, h1, f1⟩ := t_be (I := I) (v := 0) hx hk (by decide)
  have e1' : fMo_be kd I x (nI k) (0 : Int64) = some I1 := e1
  simp only [fMo_product, fMo_product_0, ck_t hx.1]
  rw [e1', bv_s]
  refine lp_for (fun i q => ∃ I', q = (I', x, nI k, nI m, nI l, nI i) ∧ Fm I I' x k ∧ Hm I' x k ((a % 2 ^ (24 * i)) * b)) (fun I' => Hm I' x k (a * b) ∧ Fm I I' x k) 24 ⟨I1, rfl, f1, by rw [Nat.mul_zero, Nat.pow_zero, Nat.mod_one, Nat.zero_mul]; exact h1⟩ ?_ ?_
  · rintro kk i q hi ⟨I2, rfl, f2, h2⟩ hkk
    simp only [fMo_product_9, if_neg (h24 hi)]
    rw [← mT_0] at h2
    refine lp_for (fun j q => ∃ I', q = (I', x, nI k, nI m, nI l, nI i, jI (mC a b i j : Nat), nI j) ∧ Fm I I' x k ∧ (∀ c, c < i + j → c < 24 → I' (x + 16) (24 * k + c) = nI (dg (mT a b i j) c)) ∧ ∀ c, i + j ≤ c → c < 24 → I' (x + 16) (24 * k + c) = nI (dg (mT a b i 0) c)) (fun I' => Hm I' x k (a * b) ∧ Fm I I' x k) (24 - i) ⟨I2, by rw [mC_0]; rfl, f2, fun c h3 h4 => h2.2 c h4, fun c h3 h4 => h2.2 c h4⟩ ?_ ?_ (by omega)
    · rintro k2 j q hj ⟨I3, rfl, f3, g1, g2⟩ hk2
      have ha3 : Hm I3 x m a := Hr.fm ha f3 (Ne.symm hkm)
      have hb3 : Hm I3 x l b := Hr.fm hb f3 (Ne.symm hkl)
      have l1 := dg_lt a i
      have l2 := dg_lt b j
      have l3 := dg_lt (mT a b i 0) (i + j)
      have l4 := mC_lt a b i j
      have l5 : dg a i * dg b j ≤ 16777215 * 16777215 := Nat.mul_le_mul (by omega) (by omega)
      have hw := mC_word a b i j
      have hn := mC_next a b i j
      simp only [fMo_product_22, m24, nI_add, m24c, if_neg (h24 (show i + j < 24 by omega)), ck_t hx.1, ck_t hx.2, ck_t (min hm hi), ck_t (min hl (show j < 24 by omega)), ck_t (min hk (show i + j < 24 by omega)), let_e, mcl hm hi, mcl hl (show j < 24 by omega), mcl hk (show i + j < 24 by omega), ha3.2 i hi, hb3.2 j (show j < 24 by omega), g2 (i + j) (Nat.le_refl _) (by omega), dgj, jI_sum]
      rw [jI_add, ← Int.natCast_add, jI_shrN (by omega), jI_andN, jI_iN, ← hn, ← hw]
      refine hk2 _ ⟨ek_up I3 (x + 16) (24 * k + (i + j)) (nI (dg (mT a b i (j + 1)) (i + j))), ?_, ?_, ?_, ?_⟩
      · rw [nI_succ]
      · exact fun z' k' hz' => by rw [up_ne (by omega)]; exact f3 z' k' hz'
      · intro c h3 h4
        by_cases e : c = i + j
        · subst e
          exact up_same
        · rw [up_ne (by omega), g1 c (by omega) h4, mT_low _ _ _ _ _ (by omega)]
      · intro c h3 h4
        rw [up_ne (by omega)]
        exact g2 c (by omega) h4
    · rintro k2 q ⟨I3, rfl, f3, g1, g2⟩
      have c : (24 : Int32) ≤ nI (i + (24 - i)) := nI_le (a := 24) (by omega) (by omega)
      simp only [fMo_product_22, nI_add, if_pos c, let_e]
      refine hkk _ ⟨I3, ?_, f3, ?_⟩
      · rw [nI_succ]
      · have e : mT a b i (24 - i) = (a % 2 ^ (24 * (i + 1))) * b := by
          have hd := dg_split a i
          have hP : (a % 2 ^ (24 * (i + 1))) * b ≤ a * b := Nat.mul_le_mul_right _ (Nat.mod_le _ _)
          have hbm := Nat.div_add_mod b (2 ^ (24 * (24 - i)))
          have h5 : (a % 2 ^ (24 * (i + 1))) * b = mT a b i (24 - i) + 2 ^ (24 * 24) * (dg a i * (b / 2 ^ (24 * (24 - i)))) := by
            unfold mT
            rw [hd, Nat.add_mul]
            have h6 : 2 ^ (24 * 24) = 2 ^ (24 * i) * 2 ^ (24 * (24 - i)) := by
              rw [← Nat.pow_add]
              congr 1
              omega
            rw [h6]
            generalize 2 ^ (24 * i) = A at *
            generalize 2 ^ (24 * (24 - i)) = B at *
            generalize a % A = a0 at *
            generalize dg a i = d at *
            generalize hq : b / B = bq at *
            generalize hm : b % B = bm at *
            have h7 : A * d * b = A * d * (B * bq) + A * d * bm := by rw [← Nat.mul_add, hbm]
            have h8 : A * d * b = d * bm * A + A * B * (d * bq) := by
              rw [h7]
              grind
            omega
          have h9 : dg a i * (b / 2 ^ (24 * (24 - i))) = 0 := by
            rcases Nat.eq_zero_or_pos (dg a i * (b / 2 ^ (24 * (24 - i)))) with h | h
            · exact h
            · have : 2 ^ (24 * 24) * 1 ≤ 2 ^ (24 * 24) * (dg a i * (b / 2 ^ (24 * (24 - i)))) := Nat.mul_le_mul_left _ h
              omega
          rw [h5, h9]
          omega
        rw [← e]
        exact ⟨Nat.lt_of_le_of_lt (mT_le _ _ _ _) hr, fun c hc => g1 c (by omega) hc⟩
  · rintro kk q ⟨I2, rfl, f2, h2⟩
    simp only [fMo_product_9, if_pos h24e]
    rw [Nat.mod_eq_of_lt ha.1] at h2
    exact ⟨I2, rfl, h2, f2⟩
theorem dg_half (a i : Nat) : dg (a / 2) i = dg a i / 2 + (dg a (i + 1) % 2) * 8388608 := by
  have h1 := dg_top a i
  have h2 : dg (a / 2) i = a / 2 ^ (24 * i) / 2 % 16777216 := by
    unfold dg
    rw [Nat.div_div_eq_div_mul, Nat.mul_comm, ← Nat.div_div_eq_div_mul]
  have h3 : dg a (i + 1) % 2 = a / 2 ^ (24 * (i + 1)) % 2 := by
    unfold dg
    omega
  have h4 := dg_lt a i
  rw [h2, h1, h3]
  omega
theorem nI_shl23 {n : Nat} (h : n < 2) : nI n <<< ((23 : Int32) &&& 31) = nI (n * 8388608) := pk_shlN _ 23 (by decide) (by omega)
theorem nI_shr1 {n : Nat} (h : n < 16777216) : nI n >>> ((1 : Int32) &&& 31) = nI (n / 2) := pk_shrN (by omega) _ 1 (by decide)
theorem or_add {p q : Nat} (hp : p < 8388608) (hq : q < 2) : p ||| q * 8388608 = p + q * 8388608 := by
  rw [Nat.or_comm, Nat.mul_comm, ← Nat.two_pow_add_eq_or_of_lt (i := 23) hp q, Nat.add_comm]
theorem t_halve {kd : Nat → Nat} {I : ek_St} {x k a : Nat} (hx : MnK kd x) (hk : k < 36) (ha : Hm I x k a) :
    ∃ I', fMo_halve kd I x (nI k) = some I' ∧ Hm I' x k (a / 2) ∧ Fm I I' x k := by
  unfold fMo_halve fMo_halve_0
  refine lp_for (fun i q => ∃ I', q = (I', x, nI k, nI i) ∧ Part I I' (x + 16) (24 * k) 24 i (a / 2)) (fun I' => Hm I' x k (a / 2) ∧ Fm I I' x k) 24 ⟨I, rfl, Part.start _ _ _ _ _⟩ ?_ ?_
  · rintro kk i q hi ⟨I', rfl, hp⟩ hkk
    have ea : I' (x + 16) (24 * k + i) = nI (dg a i) := by
      rw [hp.2.2 i (Nat.le_refl i) hi]
      exact ha.2 i hi
    have da := dg_lt a i
    have step : ∀ t0 : Int32, t0 = nI (dg a (i + 1) % 2) → ∃ r, fMo_halve_35 kd kk I' x (nI k) (nI i) t0 = some r ∧ Hm r x k (a / 2) ∧ Fm I r x k := by
      rintro t0 rfl
      have e1 : nI (dg a i) >>> ((1 : Int32) &&& 31) ||| nI (dg a (i + 1) % 2) <<< ((23 : Int32) &&& 31) = nI (dg (a / 2) i) := by
        rw [nI_shl23 (by omega), nI_shr1 da, nI_or (by omega) (by omega), or_add (by omega) (by omega), ← dg_half]
      simp only [fMo_halve_35, ck_t hx.1, ck_t hx.2, m24, ck_t (min hk hi), let_e, mcl hk hi, ea, e1]
      refine hkk _ ⟨_, ?_, hp.step hi⟩
      rw [nI_succ]
    simp only [fMo_halve_2, if_neg (h24 hi), ck_t hx.1, ck_t hx.2]
    rw [show (1 : Int32) = nI 1 from rfl, m24b, nI_add]
    by_cases h2 : i + 1 < 24
    · rw [if_neg (h24 h2), ck_t (min hk h2), mcl hk h2]
      refine step _ ?_
      rw [hp.2.2 (i + 1) (by omega) h2, ha.2 (i + 1) h2]
      exact pk_andN (n := dg a (i + 1)) (m := nI 1) (by have := dg_lt a (i + 1); omega) 1 (by decide)
    · rw [if_pos (show (24 : Int32) ≤ nI (i + 1) from nI_le (a := 24) (by omega) (by omega))]
      refine step _ ?_
      have : dg a (i + 1) = 0 := by
        unfold dg
        rw [Nat.div_eq_of_lt (Nat.lt_of_lt_of_le ha.1 (Nat.pow_le_pow_right (by decide) (by omega)))]
      rw [this]
      rfl
  · rintro kk q ⟨I', rfl, hp⟩
    simp only [fMo_halve_2, if_pos h24e]
    exact ⟨I', rfl, hp.done (Nat.lt_of_le_of_lt (Nat.div_le_self _ _) ha.1)⟩
theorem dg0_mod (a : Nat) : dg a 0 % 2 = a % 2 := by
  unfold dg
  rw [Nat.mul_zero, Nat.pow_zero, Nat.div_one]
  omega
theorem t_isEven {kd : Nat → Nat} {I : ek_St} {x k a : Nat} (hx : MnK kd x) (hk : k < 36) (ha : Hm I x k a) : fMo_isEven kd I x (nI k) = some (I, bI (a % 2 == 0)) := by
  have e : (24 : Int32) * nI k = nI (24 * k + 0) := by rw [show (24 : Int32) = nI 24 from rfl, pk_mul]; rfl
  have e2 : nI (dg a 0) &&& (1 : Int32) = nI (a % 2) := by
    rw [pk_andN (n := dg a 0) (m := 1) (by have := dg_lt a 0; omega) 1 (by decide)]
    show nI (dg a 0 % 2) = _
    rw [dg0_mod]
  simp only [fMo_isEven, fMo_isEven_0, e, ck_t hx.1, ck_t hx.2, ck_t (min hk (show 0 < 24 by decide)), mcl hk (show 0 < 24 by decide), ha.2 0 (by decide), e2, ck0, ck1]
  by_cases h : a % 2 = 0
  · rw [if_pos (by rw [h]; rfl), h]
    rfl
  · have h1 : a % 2 = 1 := by omega
    rw [if_neg (by rw [h1]; decide), h1]
    rfl
/-- the lowest bit of an even number is set -/
theorem Hm_bit {I : ek_St} {x k v b : Nat} (h : Hm I x k (2 * v)) (hb : b < 2) (hr : 2 * v + b < 2 ^ (24 * 24)) : Hm (ek_up I (x + 16) (24 * k) (nI (dg (2 * v) 0 ||| b))) x k (2 * v + b) := by
  have e0 : dg (2 * v) 0 ||| b = dg (2 * v + b) 0 := by
    have : dg (2 * v) 0 = 2 * (dg (2 * v) 0 / 2) := by
      have := dg0_mod (2 * v)
      omega
    rw [this, show (2 : Nat) = 2 ^ 1 by decide, ← Nat.two_pow_add_eq_or_of_lt (i := 1) hb]
    unfold dg
    rw [Nat.mul_zero, Nat.pow_zero, Nat.div_one, Nat.div_one]
    omega
  refine ⟨hr, fun i hi => ?_⟩
  by_cases hi0 : i = 0
  · subst hi0
    show ek_up I (x + 16) (24 * k) _ (x + 16) (24 * k) = _
    rw [up_same, e0]
  · rw [up_ne (by omega), h.2 i hi]
    congr 1
    unfold dg
    obtain ⟨p, hp⟩ : ∃ p, 2 ^ (24 * i) = 2 * p := ⟨2 ^ (24 * i - 1), by rw [← Nat.pow_succ']; congr 1; omega⟩
    rw [hp, ← Nat.div_div_eq_div_mul, ← Nat.div_div_eq_div_mul]
    congr 2
    omega
theorem bit_at {a j : Nat} : nI (dg a (j / 24)) >>> (nI (j % 24) &&& 31) &&& (1 : Int32) = nI (a / 2 ^ j % 2) := by
  have h1 := dg_lt a (j / 24)
  have h2 : j % 24 < 32 := by omega
  rw [pk_shrN (by omega) _ (j % 24) (sh_31 _ h2), pk_andN (m := 1) (Nat.lt_of_le_of_lt (Nat.div_le_self _ _) (by omega)) 1 (by decide)]
  congr 1
  have e : a / 2 ^ j = a / 2 ^ (24 * (j / 24)) / 2 ^ (j % 24) := by
    rw [Nat.div_div_eq_div_mul, ← Nat.pow_add, Nat.div_add_mod]
  rw [e]
  unfold dg
  generalize a / 2 ^ (24 * (j / 24)) = u
  have h3 : j % 24 < 24 := by omega
  have h4 : (16777216 : Nat) = 2 ^ (j % 24) * (2 * 2 ^ (23 - j % 24)) := by
    rw [← Nat.pow_succ', ← Nat.pow_add]
    have : j % 24 + (23 - j % 24).succ = 24 := by omega
    rw [this]
  rw [h4, Nat.mod_mul_right_div_self, Nat.mod_mul_right_mod]
theorem t_quotient {kd : Nat → Nat} {I : ek_St} {x k a b : Nat} (hx : MnK kd x) (hk : k < 32) (ha : Hm I x k a) (hb : Hm I x 35 b) (h0 : 0 < b) (hb2 : b < 2 ^ 575) :
    ∃ I', fMo_quotient kd I x (nI k) = some I' ∧ Hm I' x k (a / b) ∧ (∀ m v, m < 36 → m ≠ k → m ≠ 32 → m ≠ 33 → Hm I x m v → Hm I' x m v) ∧ ∀ z, z ≠ x + 16 → I' z = I z := by
  obtain ⟨I1, e1, h1, f1⟩ := t_be (I := I) (k := 32) (v := 0) hx (by decide) (by decide)
  obtain ⟨I2, e2, h2, f2⟩ := t_be (I := I1) (k := 33) (v := 0) hx (by decide) (by decide)
  have e1' : fMo_be kd I x (32 : Int32) (0 : Int64) = some I1 := e1
  have e2' : fMo_be kd I1 x (33 : Int32) (0 : Int64) = some I2 := e2
  simp only [fMo_quotient, fMo_quotient_0, ck_t hx.1]
  rw [e1', bv_s, e2', bv_s]
  have pw : (2 : Nat) ^ (24 * 24) = 2 * 2 ^ 575 := by rw [← Nat.pow_succ']
  refine lp_for (fun t q => ∃ I', q = (I', x, nI k, nI (576 - t) + (-1)) ∧ Hm I' x 32 (a / 2 ^ (576 - t) / b) ∧ Hm I' x 33 (a / 2 ^ (576 - t) % b) ∧ (∀ m v, m < 36 → m ≠ 32 → m ≠ 33 → Hm I x m v → Hm I' x m v) ∧ ∀ z, z ≠ x + 16 → I' z = I z) (fun I' => Hm I' x k (a / b) ∧ (∀ m v, m < 36 → m ≠ k → m ≠ 32 → m ≠ 33 → Hm I x m v → Hm I' x m v) ∧ ∀ z, z ≠ x + 16 → I' z = I z) 576 ⟨I2, rfl, ?_, ?_, fun m v hm h3 h4 h => Hr.fm (Hr.fm h f1 h3) f2 h4, fun z hz => (f2.ne hz).trans (f1.ne hz)⟩ ?_ ?_
  · rw [Nat.div_eq_of_lt (show a < 2 ^ (576 - 0) from ha.1), Nat.zero_div]
    exact Hr.fm h1 f2 (by decide)
  · rw [Nat.div_eq_of_lt (show a < 2 ^ (576 - 0) from ha.1), Nat.zero_mod]
    exact h2
  · rintro kk t q ht ⟨I3, rfl, hU, hV, hfr, hz⟩ hkk
    obtain ⟨j, hj⟩ : ∃ j, 576 - t = j + 1 := ⟨575 - t, by omega⟩
    have hj2 : 576 - (t + 1) = j := by omega
    rw [hj] at hU hV ⊢
    rw [hj2] at hkk
    have hneg : ¬ nI j < (0 : Int32) := nI_pos (by omega)
    have c3 : ¬ (24 : Int32) = 0 := by decide
    have hVlt : a / 2 ^ (j + 1) % b < b := Nat.mod_lt _ h0
    have hAj : a / 2 ^ j = 2 * (a / 2 ^ (j + 1)) + a / 2 ^ j % 2 := by
      rw [Nat.pow_succ, ← Nat.div_div_eq_div_mul]
      omega
    have hUle : a / 2 ^ (j + 1) / b ≤ a / 2 ^ (j + 1) := Nat.div_le_self _ _
    have hAjlt : a / 2 ^ j < 2 ^ (24 * 24) := Nat.lt_of_le_of_lt (Nat.div_le_self _ _) ha.1
    have hbit : a / 2 ^ j % 2 < 2 := Nat.mod_lt _ (by decide)
    generalize hbe : a / 2 ^ j % 2 = bt at *
    generalize hAe : a / 2 ^ (j + 1) = A at *
    have hdm := Nat.div_add_mod A b
    generalize hQe : A / b = Q at *
    generalize hRe : A % b = R at *
    -- V doubled
    obtain ⟨I4, e4, h4, f4⟩ := t_plus (I := I3) (k := 33) (m := 33) hx (by decide) (by decide) hV hV (by omega)
    have e4' : fMo_add3 kd I3 x (33 : Int32) (33 : Int32) (0 : Int32) = some I4 := e4
    rw [← Nat.two_mul] at h4
    have ha4 : Hm I4 x k a := Hr.fm (hfr k a (by omega) (by omega) (by omega) ha) f4 (by omega)
    have hb4 : Hm I4 x 35 b := Hr.fm (hfr 35 b (by decide) (by decide) (by decide) hb) f4 (by decide)
    have hU4 := Hr.fm hU f4 (by decide)
    have w33 := h4.2 0 (by decide)
    have w33' : I4 (x + 16) 792 = nI (dg (2 * R) 0) := w33
    have hb5 := Hm_bit (b := bt) h4 hbit (by omega)
    have ebit : nI (dg (2 * R) 0) ||| nI bt = nI (dg (2 * R) 0 ||| bt) := nI_or (Nat.lt_trans (dg_lt _ _) (by decide)) (by omega)
    have hrem : nI j - nI (j / 24) * (24 : Int32) = nI (j % 24) := by
      have := r24 (show j < 2 ^ 31 by omega)
      rwa [i24 (by omega)] at this
    have hbb := bit_at (a := a) (j := j)
    rw [hbe] at hbb
    have f5 : Fm I4 (ek_up I4 (x + 16) 792 (nI (dg (2 * R) 0 ||| bt))) x 33 := fun z' k' hz' => up_ne (by omega)
    generalize hI5 : ek_up I4 (x + 16) 792 (nI (dg (2 * R) 0 ||| bt)) = I5 at *
    have hb5' : Hm I5 x 33 (2 * R + bt) := hb5
    have hU5 := Hr.fm hU4 f5 (by decide)
    have hb55 := Hr.fm hb4 f5 (by decide)
    -- U doubled
    have hQR : 2 * Q ≤ a / 2 ^ j := by
      have : Q ≤ A := by omega
      omega
    obtain ⟨I6, e6, h6, f6⟩ := t_plus (I := I5) (k := 32) (m := 32) hx (by decide) (by decide) hU5 hU5 (by omega)
    have e6' : fMo_add3 kd I5 x (32 : Int32) (32 : Int32) (0 : Int32) = some I6 := e6
    rw [← Nat.two_mul] at h6
    have hV6 := Hr.fm hb5' f6 (by decide)
    have hb6 := Hr.fm hb55 f6 (by decide)
    have hcmp := t_compare (k := 33) (m := 35) hx (by decide) (by decide) hV6 hb6
    have hcmp' : fMo_compare kd I6 x (33 : Int32) (35 : Int32) = some (I6, sg (((2 * R + bt : Nat) : Int) - b)) := hcmp
    have hfr6 : ∀ m v, m < 36 → m ≠ 32 → m ≠ 33 → Hm I x m v → Hm I6 x m v := fun m v hm n1 n2 h => Hr.fm (Hr.fm (Hr.fm (hfr m v hm n1 n2 h) f4 n2) f5 n2) f6 n1
    have hz6 : ∀ z, z ≠ x + 16 → I6 z = I z := fun z hz' => ((f6.ne hz').trans (f5.ne hz')).trans ((f4.ne hz').trans (hz z hz'))
    have hin1 : ek_in (792 : Int32) 864 := ein (c := 792) (by decide) (by decide)
    have hin2 : ek_in (768 : Int32) 864 := ein (c := 768) (by decide) (by decide)
    have hcl1 : (792 : Int32).toNatClampNeg = 792 := rfl
    have hcl2 : (768 : Int32).toNatClampNeg = 768 := rfl
    simp only [fMo_quotient_18, pk_m1, if_neg hneg, ck_t hx.1, ck_t hx.2, e4', bv_s, ck_t hin1, ck_t c3, i24 (show j < 2 ^ 31 by omega), hrem, m24, ck_t (min (show k < 36 by omega) (show j / 24 < 24 by omega)), mcl (show k < 36 by omega) (show j / 24 < 24 by omega), hcl1, w33', ha4.2 (j / 24) (show j / 24 < 24 by omega), hbb, ebit, let_e, hI5, e6', hcmp', bi_s, ck_t hin2, hcl2]
    by_cases hge : b ≤ 2 * R + bt
    · rw [if_pos (Int32.not_lt.mp (mt (sg_neg _).mp (by omega)))]
      obtain ⟨I7, e7, h7, f7⟩ := t_minus (I := I6) (k := 33) (m := 35) hx (by decide) (by decide) hV6 hb6 hge
      have e7' : fMo_add3 kd I6 x (33 : Int32) (35 : Int32) (1 : Int32) = some I7 := e7
      have hU7 := Hr.fm h6 f7 (by decide)
      have w32 := hU7.2 0 (by decide)
      have w32' : I7 (x + 16) 768 = nI (dg (2 * Q) 0) := w32
      have ebit2 : nI (dg (2 * Q) 0) ||| (1 : Int32) = nI (dg (2 * Q) 0 ||| 1) := nI_or (b := 1) (Nat.lt_trans (dg_lt _ _) (by decide)) (by decide)
      have hdiv : a / 2 ^ j / b = 2 * Q + 1 ∧ a / 2 ^ j % b = 2 * R + bt - b := by
        have e : a / 2 ^ j = b * (2 * Q + 1) + (2 * R + bt - b) := by
          have hd2 : b * (2 * Q + 1) = 2 * (b * Q) + b := by grind
          omega
        constructor
        · rw [e, Nat.mul_add_div h0, Nat.div_eq_of_lt (by omega), Nat.add_zero]
        · rw [e, Nat.mul_add_mod, Nat.mod_eq_of_lt (by omega)]
      have hQ1 : 2 * Q + 1 ≤ a / 2 ^ j := by rw [← hdiv.1]; exact Nat.div_le_self _ _
      have hb8 := Hm_bit (b := 1) hU7 (by decide) (by omega)
      have f8 : Fm I7 (ek_up I7 (x + 16) 768 (nI (dg (2 * Q) 0 ||| 1))) x 32 := fun z' k' hz' => up_ne (by omega)
      rw [e7', bv_s]
      simp only [w32', ebit2, fMo_quotient_107, let_e]
      refine hkk _ ⟨ek_up I7 (x + 16) 768 (nI (dg (2 * Q) 0 ||| 1)), rfl, ?_, ?_, ?_, ?_⟩
      · rw [hdiv.1]
        exact hb8
      · rw [hdiv.2]
        exact Hr.fm h7 f8 (by decide)
      · exact fun m v hm n1 n2 h => Hr.fm (Hr.fm (hfr6 m v hm n1 n2 h) f7 n2) f8 n1
      · exact fun z hz' => (f8.ne hz').trans ((f7.ne hz').trans (hz6 z hz'))
    · rw [if_neg (fun h => absurd ((sg_neg _).mpr (show (((2 * R + bt : Nat) : Int) - b) < 0 by omega)) (Int32.not_lt.mpr h))]
      simp only [fMo_quotient_107, let_e]
      have hdiv : a / 2 ^ j / b = 2 * Q ∧ a / 2 ^ j % b = 2 * R + bt := by
        have e : a / 2 ^ j = b * (2 * Q) + (2 * R + bt) := by
          have hd2 : b * (2 * Q) = 2 * (b * Q) := by grind
          omega
        constructor
        · rw [e, Nat.mul_add_div h0, Nat.div_eq_of_lt (by omega), Nat.add_zero]
        · rw [e, Nat.mul_add_mod, Nat.mod_eq_of_lt (by omega)]
      refine hkk _ ⟨I6, rfl, ?_, ?_, hfr6, hz6⟩
      · rw [hdiv.1]
        exact h6
      · rw [hdiv.2]
        exact hV6
  · rintro kk q ⟨I3, rfl, hU, hV, hfr, hz⟩
    have hneg : nI (576 - 576) + (-1) < (0 : Int32) := by decide
    rw [Nat.sub_self, Nat.pow_zero, Nat.div_one] at hU
    obtain ⟨I4, e4, h4, f4⟩ := t_copy (I := I3) (k := k) (m := 32) hx (by omega) (by decide) (by omega) hU
    have e4' : fMo_copy kd I3 x (nI k) (32 : Int32) = some I4 := e4
    simp only [fMo_quotient_18, if_pos hneg, ck_t hx.1, e4', bv_s]
    exact ⟨I4, rfl, h4, fun m v hm n1 n2 n3 h => Hr.fm (hfr m v hm n2 n3 h) f4 n1, fun z hz' => (f4.ne hz').trans (hz z hz')⟩
