/-! NUMBERS: longs as integers, words of 24 bits, loops -/
def jI (z : Int) : Int64 := Int64.ofInt z
theorem jI_add (a b : Int) : jI a + jI b = jI (a + b) := (Int64.ofInt_add a b).symm
theorem jI_sub (a b : Int) : jI a - jI b = jI (a - b) := (Int64.ofInt_sub a b).symm
theorem jI_mul (a b : Int) : jI a * jI b = jI (a * b) := (Int64.ofInt_mul a b).symm
theorem jI_toInt {z : Int} (h1 : -9223372036854775808 ≤ z) (h2 : z < 9223372036854775808) : (jI z).toInt = z := Int64.toInt_ofInt_of_le (by simpa using h1) (by simpa using h2)
theorem jI_of (x : Int64) : jI x.toInt = x := Int64.ofInt_toInt x
theorem nI_j {n : Nat} (h : n < 2 ^ 31) : (nI n).toInt64 = jI n := by
  rw [← Int64.ofInt_int32ToInt, nI_toInt h]
  rfl
theorem jI_iN (n : Nat) : (jI n).toInt32 = nI n := by
  show (Int64.ofInt (n : Int)).toInt32 = Int32.ofNat n
  rw [Int64.toInt32_ofInt]
  exact Int32.ofInt_eq_ofNat
theorem jI_shr {z : Int} (h1 : -9223372036854775808 ≤ z) (h2 : z < 9223372036854775808) : jI z >>> (Int32.toInt64 (24 : Int32) &&& 63) = jI (z / 16777216) := by
  apply Int64.toInt_inj.mp
  have e : (jI z >>> (Int32.toInt64 (24 : Int32) &&& 63)).toInt = (jI z).toInt >>> 24 := by
    show ((jI z).toBitVec.sshiftRight ((Int32.toInt64 (24 : Int32) &&& 63).toBitVec.smod 64).toNat).toInt = _
    rw [show ((Int32.toInt64 (24 : Int32) &&& 63).toBitVec.smod 64).toNat = 24 by decide, BitVec.toInt_sshiftRight]
    rfl
  rw [e, jI_toInt h1 h2, jI_toInt (by omega) (by omega), Int.shiftRight_eq_div_pow]
  rfl
theorem jI_and (z : Int) : jI z &&& (16777215 : Int64) = jI (z % 16777216) := by
  apply Int64.toBitVec_inj.mp
  apply BitVec.eq_of_toNat_eq
  have e1 : (16777215 : Int64).toBitVec.toNat = 2 ^ 24 - 1 := by decide
  rw [Int64.toBitVec_and, BitVec.toNat_and, e1, Nat.and_two_pow_sub_one_eq_mod]
  show (BitVec.ofInt 64 z).toNat % 2 ^ 24 = (BitVec.ofInt 64 (z % 16777216)).toNat
  rw [BitVec.toNat_ofInt, BitVec.toNat_ofInt]
  omega
def dg (v i : Nat) : Nat := v / 2 ^ (24 * i) % 16777216
theorem dg_lt (v i : Nat) : dg v i < 16777216 := Nat.mod_lt _ (by decide)
theorem p24 (i : Nat) : 2 ^ (24 * (i + 1)) = 2 ^ (24 * i) * 16777216 := by
  rw [Nat.mul_add, Nat.mul_one, Nat.pow_add]
theorem dg_split (a i : Nat) : a % 2 ^ (24 * (i + 1)) = a % 2 ^ (24 * i) + 2 ^ (24 * i) * dg a i := by
  rw [p24, Nat.mod_mul]
  rfl
theorem dg_0 (i : Nat) : dg 0 i = 0 := by simp [dg]
/-- a region of a cell holds a natural in n words -/
def Hr (I : ek_St) (w o n v : Nat) : Prop := v < 2 ^ (24 * n) ∧ ∀ i, i < n → I w (o + i) = nI (dg v i)
theorem Hr.keep {I I' : ek_St} {w o n v : Nat} (h : Hr I w o n v) (e : ∀ i, i < n → I' w (o + i) = I w (o + i)) : Hr I' w o n v := ⟨h.1, fun i hi => by rw [e i hi]; exact h.2 i hi⟩
theorem Hr.cell {I I' : ek_St} {w o n v : Nat} (h : Hr I w o n v) (e : I' w = I w) : Hr I' w o n v := h.keep (fun i _ => by rw [e])
theorem nI_inj {a b : Nat} (ha : a < 2 ^ 31) (hb : b < 2 ^ 31) (h : nI a = nI b) : a = b := (nI_eq ha hb).mp h
theorem dg_ext {a b n : Nat} (ha : a < 2 ^ (24 * n)) (hb : b < 2 ^ (24 * n)) (h : ∀ i, i < n → dg a i = dg b i) : a = b := by
  have key : ∀ m, m ≤ n → a % 2 ^ (24 * m) = b % 2 ^ (24 * m) := by
    intro m
    induction m with
    | zero => intro _; simp [Nat.mod_one]
    | succ m ih =>
      intro hm
      rw [dg_split, dg_split, ih (by omega), h m (by omega)]
  have := key n (Nat.le_refl n)
  rwa [Nat.mod_eq_of_lt ha, Nat.mod_eq_of_lt hb] at this
theorem Hr.uniq {I : ek_St} {w o n v v' : Nat} (h : Hr I w o n v) (h' : Hr I w o n v') : v = v' :=
  dg_ext h.1 h'.1 (fun i hi => nI_inj (Nat.lt_trans (dg_lt _ _) (by decide)) (Nat.lt_trans (dg_lt _ _) (by decide)) ((h.2 i hi).symm.trans (h'.2 i hi)))
/-- the loop rule: at most e more turns -/
theorem lp_inv {α β : Type} {F : (α → Option β) → α → Option β} (Inv : Nat → α → Prop) (Post : β → Prop) (e : Nat)
    (hs : ∀ (k : α → Option β) (i : Nat) (a : α), i < e → Inv i a → (∀ a', Inv (i + 1) a' → ∃ r, k a' = some r ∧ Post r) → ∃ r, F k a = some r ∧ Post r)
    (he : ∀ (k : α → Option β) (a : α), Inv e a → ∃ r, F k a = some r ∧ Post r) : ∀ (n i : Nat) (a : α), i ≤ e → e - i < n → Inv i a → ∃ r, ek_lp F n a = some r ∧ Post r := by
  intro n
  induction n with
  | zero => intro i a _ h; omega
  | succ n ih =>
    intro i a hi hn ha
    by_cases h : i = e
    · subst h
      exact he _ a ha
    · exact hs (ek_lp F n) i a (by omega) ha (fun a' ha' => ih (i + 1) a' (by omega) (by omega) ha')
theorem lp_for {α β : Type} {F : (α → Option β) → α → Option β} {a : α} (Inv : Nat → α → Prop) (Post : β → Prop) (e : Nat) (h0 : Inv 0 a)
    (hs : ∀ (k : α → Option β) (i : Nat) (a : α), i < e → Inv i a → (∀ a', Inv (i + 1) a' → ∃ r, k a' = some r ∧ Post r) → ∃ r, F k a = some r ∧ Post r)
    (he : ∀ (k : α → Option β) (a : α), Inv e a → ∃ r, F k a = some r ∧ Post r) (hN : e < 20000 := by decide) : ∃ r, ek_lp F ek_N a = some r ∧ Post r :=
  lp_inv Inv Post e hs he ek_N 0 a (Nat.zero_le _) (by show e - 0 < 20000; omega) h0
theorem ck_t {β : Type} {c : Prop} [Decidable c] {k : Option β} (h : c) : ek_ck c k = k := if_pos h
theorem let_e {α β : Type} (e : α) (k : α → Option β) : ek_let e k = k e := rfl
theorem bi_s {α β : Type} (I : ek_St) (v : α) (k : ek_St → α → Option β) : ek_bi (some (I, v)) k = k I v := rfl
theorem bv_s {β : Type} (I : ek_St) (k : ek_St → Option β) : ek_bv (some I) k = k I := rfl
theorem ein {c N : Nat} (h : c < N) (hN : N < 2 ^ 31) : ek_in (nI c) N := nI_in h hN
theorem up_same {I : ek_St} {x j : Nat} {v : Int32} : ek_up I x j v x j = v := by simp [ek_up]
theorem up_ne {I : ek_St} {x j y k : Nat} {v : Int32} (h : ¬ (y = x ∧ k = j)) : ek_up I x j v y k = I y k := by unfold ek_up; rw [if_neg h]
/-! two numbers times their weights -/
def cA (a b : Nat) (w v : Int) (i : Nat) : Int := ((a % 2 ^ (24 * i) : Nat) : Int) * w + ((b % 2 ^ (24 * i) : Nat) : Int) * v
theorem cA_0 (a b : Nat) (w v : Int) : cA a b w v 0 = 0 := by simp [cA, Nat.mod_one]
theorem cA_succ (a b : Nat) (w v : Int) (i : Nat) : cA a b w v (i + 1) = cA a b w v i + ((2 ^ (24 * i) : Nat) : Int) * ((dg a i : Int) * w + (dg b i : Int) * v) := by
  unfold cA
  rw [dg_split, dg_split]
  generalize 2 ^ (24 * i) = M
  push_cast
  grind
theorem cA_div (a b : Nat) (w v : Int) (i : Nat) : cA a b w v (i + 1) / ((2 ^ (24 * i) : Nat) : Int) = cA a b w v i / ((2 ^ (24 * i) : Nat) : Int) + ((dg a i : Int) * w + (dg b i : Int) * v) := by
  rw [cA_succ]
  exact Int.add_mul_ediv_left _ _ (by have := Nat.two_pow_pos (24 * i); omega)
theorem cA_next (a b : Nat) (w v : Int) (i : Nat) : cA a b w v (i + 1) / ((2 ^ (24 * i) : Nat) : Int) / 16777216 = cA a b w v (i + 1) / ((2 ^ (24 * (i + 1)) : Nat) : Int) := by
  have hM : (0 : Int) ≤ ((2 ^ (24 * i) : Nat) : Int) := Int.natCast_nonneg _
  rw [p24, Int.ediv_ediv_of_nonneg hM, Int.natCast_mul]
  rfl
theorem cA_word {a b r : Nat} {w v : Int} (hr : (r : Int) = a * w + b * v) (i : Nat) : cA a b w v (i + 1) / ((2 ^ (24 * i) : Nat) : Int) % 16777216 = (dg r i : Int) := by
  have h1 : (r : Int) = cA a b w v (i + 1) + ((2 ^ (24 * i) : Nat) : Int) * (16777216 * (((a / 2 ^ (24 * (i + 1)) : Nat) : Int) * w + ((b / 2 ^ (24 * (i + 1)) : Nat) : Int) * v)) := by
    rw [hr]
    have ha := Nat.div_add_mod a (2 ^ (24 * (i + 1)))
    have hb := Nat.div_add_mod b (2 ^ (24 * (i + 1)))
    unfold cA
    generalize a % 2 ^ (24 * (i + 1)) = a0 at *
    generalize b % 2 ^ (24 * (i + 1)) = b0 at *
    generalize a / 2 ^ (24 * (i + 1)) = a1 at *
    generalize b / 2 ^ (24 * (i + 1)) = b1 at *
    rw [← ha, ← hb, p24]
    generalize 2 ^ (24 * i) = M
    generalize hK : 16777216 = K
    have hK2 : (16777216 : Int) = (K : Int) := by rw [← hK]; rfl
    rw [hK2]
    simp only [Int.natCast_add, Int.natCast_mul]
    grind
  have h2 : (dg r i : Int) = (r : Int) / ((2 ^ (24 * i) : Nat) : Int) % 16777216 := by
    unfold dg
    rw [Int.natCast_emod, Int.natCast_ediv]
    rfl
  rw [h2, h1, Int.add_mul_ediv_left _ _ (by have := Nat.two_pow_pos (24 * i); omega), Int.add_mul_emod_self_left]
theorem cA_end {a b r n : Nat} {w v : Int} (ha : a < 2 ^ (24 * n)) (hb : b < 2 ^ (24 * n)) (hr : (r : Int) = a * w + b * v) : cA a b w v n = r := by
  unfold cA
  rw [Nat.mod_eq_of_lt ha, Nat.mod_eq_of_lt hb, hr]
theorem cA_le (a b : Nat) (w v : Int) (i : Nat) {m : Int} (hm : w.natAbs + v.natAbs ≤ m) : -m ≤ cA a b w v i / ((2 ^ (24 * i) : Nat) : Int) ∧ cA a b w v i / ((2 ^ (24 * i) : Nat) : Int) ≤ m := by
  have hM : (0 : Int) < ((2 ^ (24 * i) : Nat) : Int) := by have := Nat.two_pow_pos (24 * i); omega
  have h1 : (a % 2 ^ (24 * i) : Nat) < 2 ^ (24 * i) := Nat.mod_lt _ (Nat.two_pow_pos _)
  have h2 : (b % 2 ^ (24 * i) : Nat) < 2 ^ (24 * i) := Nat.mod_lt _ (Nat.two_pow_pos _)
  unfold cA
  generalize a % 2 ^ (24 * i) = x at *
  generalize b % 2 ^ (24 * i) = y at *
  generalize 2 ^ (24 * i) = M at *
  have key : ∀ (x : Nat) (w : Int), x < M → -(w.natAbs * (M : Int)) ≤ x * w ∧ x * w ≤ w.natAbs * (M : Int) := by
    intro x w hx
    have e1 : (x : Int) * w.natAbs ≤ M * w.natAbs := Int.mul_le_mul_of_nonneg_right (by omega) (by omega)
    rcases Int.natAbs_eq w with h | h <;> rw [h] <;> constructor <;> simp only [Int.natAbs_neg, Int.natAbs_natCast, Int.mul_neg] <;> generalize w.natAbs = z at * <;> have e2 := Int.mul_comm (z : Int) M <;> have e3 : (0 : Int) ≤ x * z := Int.mul_nonneg (by omega) (by omega) <;> have e4 : (0 : Int) ≤ M * z := Int.mul_nonneg (by omega) (by omega) <;> omega
  obtain ⟨k1, k2⟩ := key x w h1
  obtain ⟨k3, k4⟩ := key y v h2
  have k5 : ((w.natAbs : Int) + v.natAbs) * M ≤ m * M := Int.mul_le_mul_of_nonneg_right (by omega) (by omega)
  rw [Int.add_mul] at k5
  constructor
  · exact Int.le_ediv_of_mul_le hM (by rw [Int.neg_mul]; omega)
  · exact Int.ediv_le_of_le_mul hM (by omega)
