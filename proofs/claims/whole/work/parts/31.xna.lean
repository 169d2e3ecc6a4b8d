/-! THE CLASS'S Natural: what its functions answer -/
def Fr1 (I I' : ek_St) (c o n : Nat) : Prop := ∀ z k, ¬ (z = c ∧ o ≤ k ∧ k < o + n) → I' z k = I z k
theorem Hr.fr {I I' : ek_St} {w o' n' v c o n : Nat} (h : Hr I w o' n' v) (f : Fr1 I I' c o n) (d : w ≠ c ∨ o' + n' ≤ o ∨ o + n ≤ o') : Hr I' w o' n' v := h.keep (fun i hi => f _ _ (by omega))
theorem Fr1.refl (I : ek_St) (c o n : Nat) : Fr1 I I c o n := fun _ _ _ => rfl
theorem Fr1.trans {I I1 I2 : ek_St} {c o n : Nat} (h : Fr1 I I1 c o n) (h2 : Fr1 I1 I2 c o n) : Fr1 I I2 c o n := fun z k hz => (h2 z k hz).trans (h z k hz)
theorem Fr1.ne {I I' : ek_St} {c o n z : Nat} (h : Fr1 I I' c o n) (hz : z ≠ c) : I' z = I z := by
  funext k
  exact h z k (fun q => hz q.1)
/-- a region being written from its lowest word on -/
def Part (I I' : ek_St) (c o n i r : Nat) : Prop := Fr1 I I' c o n ∧ (∀ j, j < i → I' c (o + j) = nI (dg r j)) ∧ ∀ j, i ≤ j → j < n → I' c (o + j) = I c (o + j)
theorem Part.start (I : ek_St) (c o n r : Nat) : Part I I c o n 0 r := ⟨Fr1.refl _ _ _ _, fun j hj => absurd hj (by omega), fun _ _ _ => rfl⟩
theorem Part.step {I I' : ek_St} {c o n i r : Nat} (h : Part I I' c o n i r) (hi : i < n) : Part I (ek_up I' c (o + i) (nI (dg r i))) c o n (i + 1) r := by
  refine ⟨fun z k hz => ?_, fun j hj => ?_, fun j hj hn => ?_⟩
  · rw [up_ne (by omega)]
    exact h.1 z k hz
  · by_cases e : j = i
    · subst e
      exact up_same
    · rw [up_ne (by omega)]
      exact h.2.1 j (by omega)
  · rw [up_ne (by omega)]
    exact h.2.2 j (by omega) hn
theorem Part.done {I I' : ek_St} {c o n r : Nat} (h : Part I I' c o n n r) (hr : r < 2 ^ (24 * n)) : Hr I' c o n r ∧ Fr1 I I' c o n := ⟨⟨hr, fun j hj => h.2.1 j hj⟩, h.1⟩
def NatK (kd : Nat → Nat) (x : Nat) : Prop := kd x = 3 ∧ kd (x + 1) = 116
theorem dgj (v i : Nat) : (nI (dg v i)).toInt64 = jI (dg v i) := nI_j (Nat.lt_trans (dg_lt _ _) (by decide))
theorem Hr.at0 {I : ek_St} {w n v : Nat} (h : Hr I w 0 n v) {i : Nat} (hi : i < n) : I w i = nI (dg v i) := by
  have := h.2 i hi
  rwa [Nat.zero_add] at this
theorem h16 {i : Nat} (hi : i < 16) : ¬ (16 : Int32) ≤ nI i := nI_ge hi (by decide)
theorem s_weigh {kd : Nat → Nat} {I : ek_St} {x y a b r : Nat} {w v : Int} (hx : NatK kd x) (hy : NatK kd y) (ha : Hr I (x + 1) 0 16 a) (hb : Hr I (y + 1) 0 16 b) (hr : (r : Int) = a * w + b * v) (hr2 : r < 2 ^ (24 * 16)) (hm : (w.natAbs : Int) + v.natAbs ≤ 274877906944) :
    ∃ I', fNa_weigh kd I x (jI w) y (jI v) = some I' ∧ Hr I' (x + 1) 0 16 r ∧ Fr1 I I' (x + 1) 0 16 := by
  unfold fNa_weigh fNa_weigh_0
  refine lp_for (fun i q => ∃ I', q = (I', x, jI w, y, jI v, jI (cA a b w v i / ((2 ^ (24 * i) : Nat) : Int)), nI i) ∧ Part I I' (x + 1) 0 16 i r) (fun I' => Hr I' (x + 1) 0 16 r ∧ Fr1 I I' (x + 1) 0 16) 16 ⟨I, by rw [cA_0]; rfl, Part.start _ _ _ _ _⟩ ?_ ?_
  · rintro k i q hi ⟨I', rfl, hp⟩ hk
    have hc : (nI i).toNatClampNeg = i := nI_clamp (by omega)
    have hin : ek_in (nI i) 16 := ein hi (by decide)
    have ea : I' (x + 1) i = nI (dg a i) := by
      have := hp.2.2 i (Nat.le_refl i) hi
      rw [Nat.zero_add] at this
      rw [this, ha.at0 hi]
    have eb : I' (y + 1) i = nI (dg b i) := by
      by_cases hxy : y + 1 = x + 1
      · have := hp.2.2 i (Nat.le_refl i) hi
        rw [Nat.zero_add, ← hxy] at this
        rw [this, hb.at0 hi]
      · rw [hp.1.ne hxy, hb.at0 hi]
    have es : (dg a i : Int) * w + dg b i * v + cA a b w v i / ((2 ^ (24 * i) : Nat) : Int) = cA a b w v (i + 1) / ((2 ^ (24 * i) : Nat) : Int) := by rw [cA_div]; exact Int.add_comm _ _
    obtain ⟨b1, b2⟩ := cA_le a b w v (i + 1) hm
    rw [← cA_next] at b1 b2
    have hwd := cA_word hr i
    have hnx := cA_next a b w v i
    generalize hS : cA a b w v (i + 1) / ((2 ^ (24 * i) : Nat) : Int) = S at *
    simp only [fNa_weigh_6, if_neg (h16 hi), ck_t hx.1, ck_t hx.2, ck_t hy.1, ck_t hy.2, ck_t hin, let_e, hc, ea, eb, dgj, jI_mul, jI_add, es, jI_and, hwd, jI_iN, jI_shr (show (-9223372036854775808 : Int) ≤ S by omega) (show S < 9223372036854775808 by omega), hnx]
    refine hk _ ⟨_, ?_, hp.step hi⟩
    rw [Nat.zero_add, nI_succ]
  · rintro k q ⟨I', rfl, hp⟩
    simp only [fNa_weigh_6, if_pos (show (16 : Int32) ≤ nI 16 from nI_le (Nat.le_refl _) (by decide))]
    exact ⟨I', rfl, hp.done hr2⟩
theorem jI_0 : jI 0 = (0 : Int64) := rfl
theorem s_multiply {kd : Nat → Nat} {I : ek_St} {x a f : Nat} (hx : NatK kd x) (ha : Hr I (x + 1) 0 16 a) (hf : f < 2 ^ 31) (hr2 : a * f < 2 ^ (24 * 16)) :
    ∃ I', fNa_multiply kd I x (nI f) = some I' ∧ Hr I' (x + 1) 0 16 (a * f) ∧ Fr1 I I' (x + 1) 0 16 := by
  obtain ⟨I', e, h1, h2⟩ := s_weigh (w := f) (v := 0) hx hx ha ha (show ((a * f : Nat) : Int) = a * f + a * 0 by rw [Int.mul_zero, Int.add_zero]; exact Int.natCast_mul a f) hr2 (by simp; omega)
  refine ⟨I', ?_, h1, h2⟩
  simp only [fNa_multiply, fNa_multiply_0, ck_t hx.1, nI_j hf]
  rw [← jI_0, e]
  rfl
theorem s_set {kd : Nat → Nat} {I : ek_St} {x f : Nat} (hx : NatK kd x) (hf : f < 16777216) :
    ∃ I', fNa_set kd I x (nI f) = some I' ∧ Hr I' (x + 1) 0 16 f ∧ Fr1 I I' (x + 1) 0 16 := by
  unfold fNa_set fNa_set_0
  refine lp_for (fun i q => ∃ I', q = (I', x, nI f, nI i) ∧ Part I I' (x + 1) 0 16 i 0) (fun I' => Hr I' (x + 1) 0 16 f ∧ Fr1 I I' (x + 1) 0 16) 16 ⟨I, rfl, Part.start _ _ _ _ _⟩ ?_ ?_
  · rintro k i q hi ⟨I', rfl, hp⟩ hk
    have hc : (nI i).toNatClampNeg = i := nI_clamp (by omega)
    have hin : ek_in (nI i) 16 := ein hi (by decide)
    simp only [fNa_set_2, if_neg (h16 hi), ck_t hx.1, ck_t hx.2, ck_t hin, let_e, hc]
    have := hp.step hi
    rw [dg_0, Nat.zero_add] at this
    refine hk _ ⟨_, ?_, this⟩
    rw [nI_succ]
    rfl
  · rintro k q ⟨I', rfl, hp⟩
    have e0 : (0 : Int32).toNatClampNeg = 0 := rfl
    have hin : ek_in (0 : Int32) 16 := ein (c := 0) (by decide) (by decide)
    have em : nI f &&& (16777215 : Int32) = nI f := by
      rw [pk_andN (by omega) 24 (by decide), Nat.mod_eq_of_lt hf]
    simp only [fNa_set_2, if_pos (show (16 : Int32) ≤ nI 16 from nI_le (Nat.le_refl _) (by decide)), ck_t hx.1, ck_t hx.2, ck_t hin, let_e, e0, em]
    refine ⟨_, rfl, ⟨Nat.lt_of_lt_of_le hf (by decide), fun i hi => ?_⟩, fun z k hz => ?_⟩
    · rw [Nat.zero_add]
      by_cases h : i = 0
      · subst h
        rw [up_same]
        simp [dg, Nat.mod_eq_of_lt hf]
      · rw [up_ne (by omega)]
        have := hp.2.1 i hi
        rw [Nat.zero_add, dg_0] at this
        rw [this]
        have e1 : dg f i = 0 := by
          unfold dg
          rw [Nat.div_eq_of_lt (Nat.lt_of_lt_of_le hf (by
            have : 2 ^ 24 ≤ 2 ^ (24 * i) := Nat.pow_le_pow_right (by decide) (by omega)
            exact this))]
        rw [e1]
    · rw [up_ne (by omega)]
      exact hp.1 z k hz
theorem s_word {kd : Nat → Nat} {I : ek_St} {x a : Nat} (hx : NatK kd x) (ha : Hr I (x + 1) 0 16 a) (i : Int) (h1 : -2147483648 ≤ i) (h2 : i < 2147483648) : fNa_word kd I x (Int32.ofInt i) = some (I, nI (if i < 0 then 0 else dg a i.toNat)) := by
  have ei : (Int32.ofInt i).toInt = i := Int32.toInt_ofInt_of_le (by simpa using h1) (by simpa using h2)
  by_cases h : i < 0
  · have c1 : Int32.ofInt i < 0 := by rw [Int32.lt_iff_toInt_lt, ei]; exact h
    simp only [fNa_word, fNa_word_0, if_pos c1, fNa_word_19, if_pos h]
    rfl
  · obtain ⟨n, rfl⟩ : ∃ n : Nat, i = n := ⟨i.toNat, by omega⟩
    have e2 : Int32.ofInt (n : Int) = nI n := Int32.ofInt_eq_ofNat
    rw [e2, if_neg h]
    have c1 : ¬ nI n < 0 := nI_pos (by omega)
    by_cases h3 : n < 16
    · have hc : (nI n).toNatClampNeg = n := nI_clamp (by omega)
      have hin : ek_in (nI n) 16 := ein h3 (by decide)
      simp only [fNa_word, fNa_word_0, if_neg c1, if_neg (h16 h3), ck_t hx.1, ck_t hx.2, ck_t hin, hc, ha.at0 h3]
      rfl
    · have c2 : (16 : Int32) ≤ nI n := nI_le (a := 16) (by omega) (by omega)
      simp only [fNa_word, fNa_word_0, if_neg c1, if_pos c2, fNa_word_19]
      have e3 : dg a n = 0 := by
        unfold dg
        rw [Nat.div_eq_of_lt (Nat.lt_of_lt_of_le ha.1 (Nat.pow_le_pow_right (by decide) (by omega)))]
      show some (I, (0 : Int32)) = some (I, nI (dg a (Int.toNat n)))
      rw [Int.toNat_natCast, e3]
      rfl
theorem s_copy {kd : Nat → Nat} {I : ek_St} {x y a : Nat} (hx : NatK kd x) (hy : NatK kd y) (ha : Hr I (y + 1) 0 16 a) :
    ∃ I', fNa_copy kd I x y = some I' ∧ Hr I' (x + 1) 0 16 a ∧ Fr1 I I' (x + 1) 0 16 := by
  simp only [fNa_copy, fNa_copy_0, ck_t hx.1, ck_t hy.1, ck_t (show kd (y + 1) = 116 ∧ kd (x + 1) = 116 from ⟨hy.2, hx.2⟩), let_e]
  refine ⟨_, rfl, ⟨ha.1, fun i hi => ?_⟩, fun z k hz => ?_⟩
  · rw [Nat.zero_add]
    unfold ek_cp
    rw [if_pos ⟨rfl, hi⟩]
    exact ha.at0 hi
  · unfold ek_cp
    rw [if_neg (by omega)]
