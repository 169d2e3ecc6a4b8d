/-! ONE STATE FOR BOTH: n tasks with fields F k j, loads L, their sum t, globals G -/
abbrev tn (x : Int32) : Nat := x.toNatClampNeg
abbrev cF (F : Nat → Nat → Int32) (k : Nat) : Nat := tn (F k 1)
abbrev sF (F : Nat → Nat → Int32) (k : Nat) : Nat := tn (F k 2)
abbrev lF (F : Nat → Nat → Int32) (k : Nat) : Nat := tn (F k 3)
abbrev fF (F : Nat → Nat → Int32) (k : Nat) : Nat := tn (F k 4)
abbrev pF (F : Nat → Nat → Int32) (k : Nat) : Int32 := F k 5
/-- the four numbers of a task -/
def TV (x : Nat → Int32) : Prop := (x 1 = nI (tn (x 1)) ∧ x 2 = nI (tn (x 2)) ∧ x 3 = nI (tn (x 3)) ∧ x 4 = nI (tn (x 4))) ∧ 1 ≤ tn (x 1) ∧ tn (x 1) ≤ tn (x 2) ∧ tn (x 2) ≤ tn (x 3) ∧ tn (x 3) ≤ 20000 ∧ 1 ≤ tn (x 4) ∧ tn (x 4) ≤ 1000
def TF (n : Nat) (F : Nat → Nat → Int32) : Prop := ∀ k, k < n → TV (F k)
def RX (I : ek_St) (π : Nat → Nat) (n : Nat) (F : Nat → Nat → Int32) (L : Nat → Rat) (t : Rat) (G : Nat → Int32) (E : Nat → Prop) : Prop :=
  XR I π n ∧ (∀ k j, k < n → j < 13 → j ≠ 7 → I (tk (π k)) j = F k j) ∧ (∀ k, k < n → ¬ E k → F k 5 ≠ 2 → I (tk (π k)) 7 = F k 7 ∧ FrQ I (tk (π k) + 1) (L k)) ∧ FrQ I 77 t ∧ ∀ j, j < 6 → I 1 (2 + j) = G j
def RM (I : ek_St) (n : Nat) (F : Nat → Nat → Int32) (L : Nat → Rat) (t : Rat) (G : Nat → Int32) (E : Nat → Prop) : Prop :=
  (n ≤ 12 ∧ I 1 7 = nI n) ∧ (∀ k j, k < n → j < 13 → j ≠ 7 → I (2 + j) k = F k j) ∧ (∀ k, k < n → I 15 k = F k 8) ∧ (∀ k, k < n → ¬ E k → F k 5 ≠ 2 → I 9 k = F k 7 ∧ I 16 k = bI (decide (sF F k ≠ lF F k ∧ L k = lo' (cF F) (lF F) k)) ∧ MV I (2 * k) (L k)) ∧ MV I 24 t ∧ WV I ∧ (∀ k, k < 12 → I 16 k = 0 ∨ I 16 k = 1) ∧ ∀ j, j < 6 → I 1 (1 + j) = G j
theorem TF.tt {n : Nat} {F : Nat → Nat → Int32} (h : TF n F) : TT n (cF F) (sF F) (lF F) (fF F) := fun k hk => (h k hk).2
theorem RX.xd {I : ek_St} {π : Nat → Nat} {n : Nat} {F : Nat → Nat → Int32} {L : Nat → Rat} {t : Rat} {G : Nat → Int32} {E : Nat → Prop} (h : RX I π n F L t G E) (hT : TF n F) : XD I π n (cF F) (sF F) (lF F) (fF F) (pF F) := by
  intro k hk
  have h1 := (hT k hk).1
  refine ⟨⟨?_, ?_, ?_, ?_, ?_⟩, (hT k hk).2⟩
  · rw [h.2.1 k 1 hk (by decide) (by decide)]; exact h1.1
  · rw [h.2.1 k 2 hk (by decide) (by decide)]; exact h1.2.1
  · rw [h.2.1 k 3 hk (by decide) (by decide)]; exact h1.2.2.1
  · rw [h.2.1 k 4 hk (by decide) (by decide)]; exact h1.2.2.2
  · exact h.2.1 k 5 hk (by decide) (by decide)
theorem RM.md {I : ek_St} {n : Nat} {F : Nat → Nat → Int32} {L : Nat → Rat} {t : Rat} {G : Nat → Int32} {E : Nat → Prop} (h : RM I n F L t G E) (hT : TF n F) : MD I n (cF F) (sF F) (lF F) (fF F) (pF F) := by
  refine ⟨h.1, fun k hk => ?_⟩
  have h1 := (hT k hk).1
  refine ⟨⟨?_, ?_, ?_, ?_, ?_⟩, (hT k hk).2⟩
  · exact (h.2.1 k 1 hk (by decide) (by decide)).trans h1.1
  · exact (h.2.1 k 2 hk (by decide) (by decide)).trans h1.2.1
  · exact (h.2.1 k 3 hk (by decide) (by decide)).trans h1.2.2.1
  · exact (h.2.1 k 4 hk (by decide) (by decide)).trans h1.2.2.2
  · exact h.2.1 k 5 hk (by decide) (by decide)
/-- who has the id: the place, or n -/
def FD (ids : Nat → Int32) (i : Int32) (n r : Nat) : Prop := r ≤ n ∧ (∀ j, j < r → ids j ≠ i) ∧ (r < n → ids r = i)
theorem FD.uniq {ids : Nat → Int32} {i : Int32} {n r r' : Nat} (h : FD ids i n r) (h' : FD ids i n r') : r = r' := by
  obtain ⟨a, b, c⟩ := h
  obtain ⟨a', b', c'⟩ := h'
  rcases Nat.lt_trichotomy r r' with q | q | q
  · exact absurd (c (by omega)) (b' r q)
  · exact q
  · exact absurd (c' (by omega)) (b r' q)
theorem s_find {I : ek_St} {π : Nat → Nat} {n : Nat} {ids : Nat → Int32} (hR : XR I π n) (hid : ∀ k, k < n → I (tk (π k)) 0 = ids k) (i : Int32) : ∃ r, FD ids i n r ∧ fRo_find kX I 2 i = some (I, if r < n then tk (π r) else 0) := by
  have hn := hR.1
  have goal : ∃ q, fRo_find kX I 2 i = some q ∧ ∃ r, FD ids i n r ∧ q = (I, if r < n then tk (π r) else 0) := by
    unfold fRo_find fRo_find_0
    refine lp_for (fun t q => q = (I, 2, i, nI t) ∧ ∀ j, j < t → ids j ≠ i) _ n ⟨rfl, fun j hj => absurd hj (by omega)⟩ ?_ ?_ (by omega)
    · rintro kk t q ht ⟨rfl, q1⟩ hkk
      have ht12 : t < 12 := by omega
      have hπ := (hR.2.2.1 t ht12).1
      simp only [fRo_find_2, ck_t k2, if_neg (hR.ge ht), ck_t k3, ck_t (in12 ht12), cl12 ht12]
      rw [hR.row ht12]
      simp only [ck_t (kX_tk _ hπ).1, hid t ht, let_e]
      by_cases e : ids t = i
      · rw [if_pos e]
        exact ⟨_, rfl, t, ⟨by omega, q1, fun _ => e⟩, by rw [if_pos ht]⟩
      · rw [if_neg e]
        refine hkk _ ⟨by rw [nI_succ], fun j hj => ?_⟩
        by_cases q : j = t
        · rw [q]; exact e
        · exact q1 j (by omega)
    · rintro kk q ⟨rfl, q1⟩
      simp only [fRo_find_2, ck_t k2, if_pos hR.le]
      exact ⟨_, rfl, n, ⟨Nat.le_refl _, q1, fun h => absurd h (by omega)⟩, by rw [if_neg (by omega)]⟩
  obtain ⟨q, e, r, h1, rfl⟩ := goal
  exact ⟨r, h1, e⟩
theorem t_find {kd : Nat → Nat} {I : ek_St} {n : Nat} {ids : Nat → Int32} (hM : MK kd) (hn : n ≤ 12) (h7 : I 1 7 = nI n) (hid : ∀ k, k < n → I 2 k = ids k) (i : Int32) : ∃ r, FD ids i n r ∧ fMo_find kd I 1 i = some (I, if r < n then nI r else -1) := by
  have goal : ∃ q, fMo_find kd I 1 i = some q ∧ ∃ r, FD ids i n r ∧ q = (I, if r < n then nI r else -1) := by
    unfold fMo_find fMo_find_0
    refine lp_for (fun t q => q = (I, 1, i, nI t) ∧ ∀ j, j < t → ids j ≠ i) _ n ⟨rfl, fun j hj => absurd hj (by omega)⟩ ?_ ?_ (by omega)
    · rintro kk t q ht ⟨rfl, q1⟩ hkk
      have ht12 : t < 12 := by omega
      have r1 : I (1 + 1) t = ids t := hid t ht
      have hge : ¬ nI n ≤ nI t := nI_ge ht (by omega)
      simp only [fMo_find_2, ck_t hM.m1, h7, if_neg hge, ck_t hM.a1, ck_t (in12 ht12), cl12 ht12, r1, let_e]
      by_cases e : ids t = i
      · rw [if_pos e]
        exact ⟨_, rfl, t, ⟨by omega, q1, fun _ => e⟩, by rw [if_pos ht]⟩
      · rw [if_neg e]
        refine hkk _ ⟨by rw [nI_succ], fun j hj => ?_⟩
        by_cases q : j = t
        · rw [q]; exact e
        · exact q1 j (by omega)
    · rintro kk q ⟨rfl, q1⟩
      simp only [fMo_find_2, ck_t hM.m1, h7, if_pos (nI_le (Nat.le_refl n) (show n < 2 ^ 31 by omega))]
      exact ⟨_, rfl, n, ⟨Nat.le_refl _, q1, fun h => absurd h (by omega)⟩, by rw [if_neg (by omega)]⟩
  obtain ⟨q, e, r, h1, rfl⟩ := goal
  exact ⟨r, h1, e⟩
/-- one is taken out, one is put in -/
def del {α : Type} (p : Nat) (F : Nat → α) (k : Nat) : α := if k < p then F k else F (k + 1)
def ins {α : Type} (p : Nat) (x : α) (F : Nat → α) (k : Nat) : α := if k < p then F k else if k = p then x else F (k - 1)
theorem del_ins {α : Type} (p : Nat) (x : α) (F : Nat → α) : del p (ins p x F) = F := by
  funext k
  unfold del ins
  by_cases h : k < p
  · rw [if_pos h, if_pos h]
  · rw [if_neg h, if_neg (by omega), if_neg (by omega)]
    rfl
/-- the order of the objects behind a drop of the p-th of n, behind an entry at p -/
def πd (p n : Nat) (π : Nat → Nat) (k : Nat) : Nat := if k < p then π k else if k + 1 < n then π (k + 1) else if k + 1 = n then π p else π k
def πi (p n : Nat) (π : Nat → Nat) (k : Nat) : Nat := if k < p then π k else if k = p then π n else if k ≤ n then π (k - 1) else π k
theorem πd_del {p n k : Nat} (π : Nat → Nat) (hk : k + 1 < n) : πd p n π k = π (if k < p then k else k + 1) := by
  unfold πd
  by_cases h : k < p
  · rw [if_pos h, if_pos h]
  · rw [if_neg h, if_pos hk, if_neg h]
theorem tk_inj {a b : Nat} (h : tk a = tk b) : a = b := by
  have h1 : tk a = 4 + 6 * a := rfl
  have h2 : tk b = 4 + 6 * b := rfl
  omega
theorem s_drop {I : ek_St} {π : Nat → Nat} {n p : Nat} (hR : XR I π n) (hp : p < n) : ∃ I', fRo_drop kX I 2 (tk (π p)) = some I' ∧ XR I' (πd p n π) (n - 1) ∧ ∀ z, z ≠ 2 → z ≠ 3 → I' z = I z := by
  have hn := hR.1
  have hπ : ∀ j, j < 12 → π j < 12 := fun j hj => (hR.2.2.1 j hj).1
  have hinj := hR.2.2.2
  unfold fRo_drop fRo_drop_0
  refine lp_for (fun t q => ∃ I', q = (I', 2, tk (π p), nI (if t ≤ p then t else t - 1), nI t) ∧ (∀ z, z ≠ 3 → I' z = I z) ∧ ∀ j, j < 12 → I' 3 j = nI (tk (if p ≤ j ∧ j + 1 < t then π (j + 1) else π j))) _ n ⟨I, by rw [if_pos (Nat.zero_le p)]; rfl, fun _ _ => rfl, fun j hj => by rw [if_neg (by omega)]; exact (hR.2.2.1 j hj).2⟩ ?_ ?_ (by omega)
  · rintro kk t q ht ⟨I2, rfl, q1, q2⟩ hkk
    have ht12 : t < 12 := by omega
    have e21 : I2 2 1 = nI n := by rw [q1 2 (by decide)]; exact hR.2.1
    have er : (I2 (2 + 1) t).toNatClampNeg = tk (π t) := by
      show (I2 3 t).toNatClampNeg = _
      rw [q2 t ht12, if_neg (by omega), nI_clamp (by have := hπ t ht12; have e : tk (π t) = 4 + 6 * π t := rfl; omega)]
    have hge : ¬ nI n ≤ nI t := nI_ge ht (by omega)
    simp only [fRo_drop_4, ck_t k2, e21, if_neg hge, ck_t k3, ck_t (in12 ht12), cl12 ht12, er, fRo_drop_37, let_e]
    by_cases e : t = p
    · subst e
      rw [if_pos rfl]
      refine hkk _ ⟨I2, ?_, q1, fun j hj => ?_⟩
      · rw [nI_succ, if_pos (Nat.le_refl _), if_neg (by omega), Nat.add_sub_cancel]
      · rw [q2 j hj]
        congr 2
        by_cases z : t ≤ j ∧ j + 1 < t
        · omega
        · rw [if_neg z, if_neg (by omega)]
    · have hne : ¬ tk (π t) = tk (π p) := fun q => e (hinj t p ht12 (by omega) (tk_inj q))
      rw [if_neg hne]
      have hκ : (if t ≤ p then t else t - 1) < 12 := by split <;> omega
      have hkt : kX (tk (π t)) = 6 := (kX_tk _ (hπ t ht12)).1
      have hlt : tk (π t) < 2147483648 := by have := hπ t ht12; have e : tk (π t) = 4 + 6 * π t := rfl; omega
      simp only [ck_t (in12 hκ), cl12 hκ, ck_t (show kX (tk (π t)) = 6 ∧ tk (π t) < 2147483648 from ⟨hkt, hlt⟩)]
      refine hkk _ ⟨ek_up I2 (2 + 1) (if t ≤ p then t else t - 1) (nI (tk (π t))), ?_, fun z hz => ?_, fun j hj => ?_⟩
      · rw [nI_succ]
        by_cases h : t < p
        · rw [if_pos (by omega), if_pos (by omega), nI_succ]
        · rw [if_neg (by omega), if_neg (by omega), Nat.add_sub_cancel, ← nI_succ, Nat.sub_add_cancel (by omega)]
      · rw [ek_up_ne hz]
        exact q1 z hz
      · by_cases hj2 : j = (if t ≤ p then t else t - 1)
        · rw [hj2]
          have : ek_up I2 (2 + 1) (if t ≤ p then t else t - 1) (nI (tk (π t))) 3 (if t ≤ p then t else t - 1) = nI (tk (π t)) := up_same
          rw [this]
          congr 2
          by_cases h : t < p
          · rw [if_pos (show t ≤ p by omega), if_neg (by omega)]
          · rw [if_neg (show ¬ t ≤ p by omega), if_pos (by omega), Nat.sub_add_cancel (by omega)]
        · rw [up_ne (fun q => hj2 q.2), q2 j hj]
          congr 2
          by_cases h : t < p
          · rw [if_pos (show t ≤ p by omega)] at hj2
            rw [if_neg (by omega), if_neg (by omega)]
          · rw [if_neg (show ¬ t ≤ p by omega)] at hj2
            by_cases z : p ≤ j ∧ j + 1 < t
            · rw [if_pos z, if_pos (by omega)]
            · rw [if_neg z, if_neg (by omega)]
  · rintro kk q ⟨I2, rfl, q1, q2⟩
    have e21 : I2 2 1 = nI n := by rw [q1 2 (by decide)]; exact hR.2.1
    rw [if_neg (show ¬ n ≤ p by omega)]
    have hπp : π p < 12 := hπ p (by omega)
    have hlt : tk (π p) < 2147483648 := by have e : tk (π p) = 4 + 6 * π p := rfl; omega
    have hκ : n - 1 < 12 := by omega
    simp only [fRo_drop_4, ck_t k2, e21, if_pos (nI_le (Nat.le_refl n) (show n < 2 ^ 31 by omega)), if_neg (nI_ge (show n - 1 < n by omega) (show n < 2 ^ 31 by omega)), ck_t k3, ck_t (in12 hκ), cl12 hκ, ck_t (show kX (tk (π p)) = 6 ∧ tk (π p) < 2147483648 from ⟨(kX_tk _ hπp).1, hlt⟩), let_e]
    refine ⟨_, rfl, ⟨by omega, up_same, fun j hj => ⟨?_, ?_⟩, fun i j hi hj e => ?_⟩, fun z z2 z3 => ?_⟩
    · unfold πd
      split
      · exact hπ j hj
      · split
        · exact hπ _ (by omega)
        · split
          · exact hπp
          · exact hπ j hj
    · rw [ek_up_ne (by decide)]
      by_cases h : j = n - 1
      · subst h
        have : ek_up I2 (2 + 1) (n - 1) (nI (tk (π p))) 3 (n - 1) = nI (tk (π p)) := up_same
        rw [this]
        unfold πd
        rw [if_neg (by omega), if_neg (by omega), if_pos (by omega)]
      · rw [up_ne (fun q => h q.2), q2 j hj]
        unfold πd
        congr 2
        by_cases z : j < p
        · rw [if_pos z, if_neg (by omega)]
        · rw [if_neg z]
          by_cases z2 : j + 1 < n
          · rw [if_pos z2, if_pos (by omega)]
          · rw [if_neg z2, if_neg (by omega), if_neg (by omega)]
    · have hcan : ∀ k, k < 12 → ∃ k', k' < 12 ∧ πd p n π k = π k' ∧ k' = (if k < p then k else if k + 1 < n then k + 1 else if k + 1 = n then p else k) := by
        intro k hk
        refine ⟨_, ?_, ?_, rfl⟩
        · split
          · exact hk
          · split
            · omega
            · split <;> omega
        · unfold πd
          split
          · rfl
          · split
            · rfl
            · split <;> rfl
      obtain ⟨i', h1, h2, h3⟩ := hcan i hi
      obtain ⟨j', h4, h5, h6⟩ := hcan j hj
      have := hinj i' j' h1 h4 (by rw [← h2, ← h5]; exact e)
      rw [h3, h6] at this
      split at this <;> split at this <;> (try split at this) <;> (try split at this) <;> (try split at this) <;> (try split at this) <;> omega
    · rw [ek_up_ne z2, ek_up_ne z3]
      exact q1 z z3
