/-! SOLVING: the loads are unique; ranks -/
abbrev lf (c s l f : Nat → Nat) (v : Rat) (k : Nat) : Rat := if rr' c s l f k < v then lo' c l k else hi' c s k - v * sf' f k
def TT (n : Nat) (c s l f : Nat → Nat) : Prop := ∀ k, k < n → 1 ≤ c k ∧ c k ≤ s k ∧ s k ≤ l k ∧ l k ≤ 20000 ∧ 1 ≤ f k ∧ f k ≤ 1000
theorem TT.sf {n : Nat} {c s l f : Nat → Nat} (h : TT n c s l f) {k : Nat} (hk : k < n) : 0 < sf' f k := mk_pos (by decide) (by have := h k hk; omega)
theorem TT.rr {n : Nat} {c s l f : Nat → Nat} (h : TT n c s l f) {k : Nat} (hk : k < n) : rr' c s l f k * sf' f k = hi' c s k - lo' c l k := rr_eq (by have := h k hk; omega) (by have := h k hk; omega) (by have := h k hk; omega)
theorem TT.lohi {n : Nat} {c s l f : Nat → Nat} (h : TT n c s l f) {k : Nat} (hk : k < n) : lo' c l k ≤ hi' c s k := by
  have := h k hk
  exact (mk_le_iff (by omega) (by omega)).mpr (Nat.mul_le_mul_left _ (by omega))
theorem TT.le_rr {n : Nat} {c s l f : Nat → Nat} (h : TT n c s l f) {k : Nat} (hk : k < n) {v : Rat} (hv : v ≤ rr' c s l f k) : lo' c l k ≤ hi' c s k - v * sf' f k := by
  have h1 := h.rr hk
  have h2 := Rat.mul_le_mul_of_nonneg_right hv (Rat.le_of_lt (h.sf hk))
  grind
theorem lf_anti {n : Nat} {c s l f : Nat → Nat} (h : TT n c s l f) {k : Nat} (hk : k < n) {v v' : Rat} (hv : v ≤ v') : lf c s l f v' k ≤ lf c s l f v k := by
  unfold lf
  by_cases h1 : rr' c s l f k < v
  · rw [if_pos h1, if_pos (by grind)]
    exact Rat.le_refl
  · rw [if_neg h1]
    have h2 := h.le_rr hk (Rat.not_lt.mp h1)
    split
    · exact h2
    · have h3 := Rat.mul_le_mul_of_nonneg_right hv (Rat.le_of_lt (h.sf hk))
      grind
theorem lf_lo {n : Nat} {c s l f : Nat → Nat} (h : TT n c s l f) {k : Nat} (hk : k < n) (v : Rat) : lo' c l k ≤ lf c s l f v k := by
  unfold lf
  split
  · exact Rat.le_refl
  · rename_i h1
    exact h.le_rr hk (Rat.not_lt.mp h1)
theorem lf_hi {n : Nat} {c s l f : Nat → Nat} (h : TT n c s l f) {k : Nat} (hk : k < n) {v : Rat} (hv : 0 ≤ v) : lf c s l f v k ≤ hi' c s k := by
  unfold lf
  split
  · exact h.lohi hk
  · have h3 := Rat.mul_nonneg hv (Rat.le_of_lt (h.sf hk))
    grind
theorem lf_uniq0 {n : Nat} {c s l f : Nat → Nat} {ph : Nat → Int32} (h : TT n c s l f) {v v' : Rat} (hv : v ≤ v') (he : rs (fun k => if cnt ph k then lf c s l f v k else 0) n = rs (fun k => if cnt ph k then lf c s l f v' k else 0) n) : ∀ k, k < n → cnt ph k → lf c s l f v k = lf c s l f v' k := by
  intro k hk hc
  have hle := lf_anti h hk hv
  rcases Rat.le_iff_lt_or_eq.mp hle with q | q
  · exfalso
    have := rs_lt (g := fun k => if cnt ph k then lf c s l f v' k else 0) (h := fun k => if cnt ph k then lf c s l f v k else 0) n (fun j hj => by
      show (if cnt ph j then _ else _) ≤ (if cnt ph j then _ else _)
      split
      · exact lf_anti h hj hv
      · exact Rat.le_refl) ⟨k, hk, by show (if cnt ph k then _ else _) < (if cnt ph k then _ else _); rw [if_pos hc, if_pos hc]; exact q⟩
    rw [he] at this
    exact Rat.lt_irrefl this
  · exact q.symm
theorem lf_uniq {n : Nat} {c s l f : Nat → Nat} {ph : Nat → Int32} (h : TT n c s l f) {v v' : Rat} (he : rs (fun k => if cnt ph k then lf c s l f v k else 0) n = rs (fun k => if cnt ph k then lf c s l f v' k else 0) n) : ∀ k, k < n → cnt ph k → lf c s l f v k = lf c s l f v' k := by
  rcases Rat.le_total (a := v) (b := v') with q | q
  · exact lf_uniq0 h q he
  · intro k hk hc
    exact (lf_uniq0 h q he.symm k hk hc).symm
/-- what a solve finds: the loads and their sum -/
def SP (n : Nat) (c s l f : Nat → Nat) (ph : Nat → Int32) (A : Rat) (L : Nat → Rat) (t : Rat) : Prop :=
  (¬ A < rs (fun k => if cnt ph k then hi' c s k else 0) n ∧ (∀ k, k < n → cnt ph k → L k = hi' c s k) ∧ t = rs (fun k => if cnt ph k then hi' c s k else 0) n) ∨
  (A < rs (fun k => if cnt ph k then hi' c s k else 0) n ∧ t = A ∧ ∃ v, 0 ≤ v ∧ (∀ k, k < n → cnt ph k → L k = lf c s l f v k) ∧ rs (fun k => if cnt ph k then lf c s l f v k else 0) n = A)
theorem SP.uniq {n : Nat} {c s l f : Nat → Nat} {ph : Nat → Int32} {A : Rat} {L L' : Nat → Rat} {t t' : Rat} (h : TT n c s l f) (h1 : SP n c s l f ph A L t) (h2 : SP n c s l f ph A L' t') : t = t' ∧ ∀ k, k < n → cnt ph k → L k = L' k := by
  rcases h1 with ⟨a1, a2, a3⟩ | ⟨a1, a2, v, a3, a4, a5⟩ <;> rcases h2 with ⟨b1, b2, b3⟩ | ⟨b1, b2, v', b3, b4, b5⟩
  · exact ⟨a3.trans b3.symm, fun k hk hc => (a2 k hk hc).trans (b2 k hk hc).symm⟩
  · exact absurd b1 a1
  · exact absurd a1 b1
  · exact ⟨a2.trans b2.symm, fun k hk hc => by rw [a4 k hk hc, b4 k hk hc]; exact lf_uniq h (a5.trans b5.symm) k hk hc⟩
theorem SP.lo {n : Nat} {c s l f : Nat → Nat} {ph : Nat → Int32} {A : Rat} {L : Nat → Rat} {t : Rat} (h : TT n c s l f) (h1 : SP n c s l f ph A L t) {k : Nat} (hk : k < n) (hc : cnt ph k) : lo' c l k ≤ L k ∧ L k ≤ hi' c s k := by
  rcases h1 with ⟨a1, a2, a3⟩ | ⟨a1, a2, v, a3, a4, a5⟩
  · rw [a2 k hk hc]
    exact ⟨h.lohi hk, Rat.le_refl⟩
  · rw [a4 k hk hc]
    exact ⟨lf_lo h hk v, lf_hi h hk a3⟩
theorem LD.toLf {n : Nat} {c s l f : Nat → Nat} {ph : Nat → Int32} {A v : Rat} {p : Nat → Bool} (h1 : LD n c s l f ph A v p) {k : Nat} (hk : k < n) (hc : cnt ph k) : (if p k then lo' c l k else hi' c s k - v * sf' f k) = lf c s l f v k := by
  unfold lf
  cases hp : p k with
  | true => rw [if_pos rfl, if_pos (h1.2.1 k hk hc hp)]
  | false => rw [if_neg (by decide), if_neg (h1.2.2.1 k hk hc hp)]
theorem LD.sum {n : Nat} {c s l f : Nat → Nat} {ph : Nat → Int32} {A v : Rat} {p : Nat → Bool} (h1 : LD n c s l f ph A v p) : rs (fun k => if cnt ph k then lf c s l f v k else 0) n = A := by
  rw [← h1.2.2.2]
  refine rs_congr n (fun k hk => ?_)
  by_cases hc : cnt ph k
  · rw [if_pos hc, if_pos hc]
    exact (h1.toLf hk hc).symm
  · rw [if_neg hc, if_neg hc]
theorem cn_mono {P Q : Nat → Bool} : ∀ n, (∀ j, j < n → P j = true → Q j = true) → cn P n ≤ cn Q n
  | 0, _ => Nat.le_refl _
  | n + 1, h => by
    have h1 := cn_mono n (fun j hj => h j (by omega))
    have h2 := h n (by omega)
    show cn P n + (if P n then 1 else 0) ≤ cn Q n + (if Q n then 1 else 0)
    cases hP : P n with
    | true => rw [h2 hP]; simpa using h1
    | false =>
      rw [if_neg (by decide)]
      exact Nat.le_trans h1 (Nat.le_add_right _ _)
theorem cn_lt {P Q : Nat → Bool} : ∀ n, (∀ j, j < n → P j = true → Q j = true) → (∃ k, k < n ∧ P k = false ∧ Q k = true) → cn P n < cn Q n
  | 0, _, e => by obtain ⟨k, hk, -⟩ := e; omega
  | n + 1, h, e => by
    obtain ⟨k, hk, hP, hQ⟩ := e
    show cn P n + (if P n then 1 else 0) < cn Q n + (if Q n then 1 else 0)
    by_cases q : k = n
    · subst q
      have h1 := cn_mono k (fun j hj => h j (by omega))
      rw [hP, hQ, if_neg (by decide), if_pos rfl]
      omega
    · have h1 := cn_lt n (fun j hj => h j (by omega)) ⟨k, by omega, hP, hQ⟩
      have h2 := h n (by omega)
      cases hPn : P n with
      | true => rw [h2 hPn]; simpa using h1
      | false =>
        rw [if_neg (by decide)]
        exact Nat.lt_of_lt_of_le h1 (Nat.le_add_right _ _)
theorem cn_but {P : Nat → Bool} (k : Nat) : ∀ n, cn P n ≤ cn (fun j => decide (j ≠ k ∧ P j = true)) n + (if k < n then 1 else 0)
  | 0 => Nat.le_refl _
  | n + 1 => by
    have h1 := cn_but (P := P) k n
    show cn P n + (if P n then 1 else 0) ≤ cn (fun j => decide (j ≠ k ∧ P j = true)) n + (if decide (n ≠ k ∧ P n = true) = true then 1 else 0) + (if k < n + 1 then 1 else 0)
    by_cases q : n = k
    · subst q
      rw [if_neg (Nat.lt_irrefl n)] at h1
      rw [if_pos (Nat.lt_succ_self n)]
      split <;> omega
    · have e : decide (n ≠ k ∧ P n = true) = P n := by
        cases hP : P n with
        | true => exact decide_eq_true ⟨q, rfl⟩
        | false => exact decide_eq_false (fun z => absurd z.2 (by decide))
      rw [e]
      by_cases z : k < n
      · rw [if_pos z] at h1
        rw [if_pos (show k < n + 1 by omega)]
        omega
      · rw [if_neg z] at h1
        rw [if_neg (show ¬ k < n + 1 by omega)]
        omega
abbrev nC (ph : Nat → Int32) (n : Nat) : Nat := cn (fun j => decide (cnt ph j)) n
theorem top_one {c s l f : Nat → Nat} {ph : Nat → Int32} : ∀ n, 0 < nC ph n → ∃ k, k < n ∧ cnt ph k ∧ ∀ j, j < n → cnt ph j → j ≠ k → sof c s l f j k
  | 0, h => absurd h (Nat.lt_irrefl 0)
  | n + 1, h => by
    by_cases hc : cnt ph n
    · by_cases h0 : 0 < nC ph n
      · obtain ⟨k, hk, hck, hmax⟩ := top_one (c := c) (s := s) (l := l) (f := f) n h0
        by_cases hrr : rr' c s l f n < rr' c s l f k
        · refine ⟨k, by omega, hck, fun j hj hcj hne => ?_⟩
          by_cases e : j = n
          · subst e
            exact Or.inl hrr
          · exact hmax j (by omega) hcj hne
        · refine ⟨n, by omega, hc, fun j hj hcj hne => ?_⟩
          have hjn : j < n := by omega
          have hle : rr' c s l f j ≤ rr' c s l f n := by
            have h1 := Rat.not_lt.mp hrr
            by_cases e : j = k
            · rw [e]; exact h1
            · rcases hmax j hjn hcj e with q | q
              · grind
              · rw [q.1]; exact h1
          rcases Rat.le_iff_lt_or_eq.mp hle with q | q
          · exact Or.inl q
          · exact Or.inr ⟨q, hjn⟩
      · refine ⟨n, by omega, hc, fun j hj hcj hne => ?_⟩
        exfalso
        have hjn : j < n := by omega
        have := cn_lt (P := fun _ => false) (Q := fun j => decide (cnt ph j)) n (fun _ _ q => absurd q (by decide)) ⟨j, hjn, rfl, decide_eq_true hcj⟩
        exact h0 (by show 0 < cn _ n; omega)
    · have e : nC ph (n + 1) = nC ph n := by
        show cn _ n + (if decide (cnt ph n) = true then 1 else 0) = cn _ n
        rw [decide_eq_false hc]
        rfl
      rw [e] at h
      obtain ⟨k, hk, hck, hmax⟩ := top_one (c := c) (s := s) (l := l) (f := f) n h
      refine ⟨k, by omega, hck, fun j hj hcj hne => ?_⟩
      by_cases q : j = n
      · subst q
        exact absurd hcj hc
      · exact hmax j (by omega) hcj hne
/-- below the number of those that count there is always one that isn't pressed flat -/
theorem rank_top {c s l f : Nat → Nat} {ph : Nat → Int32} {n m : Nat} (h : m < nC ph n) : ∃ k, k < n ∧ cnt ph k ∧ ¬ rkN c s l f ph n k < m := by
  obtain ⟨k, hk, hc, hmax⟩ := top_one (c := c) (s := s) (l := l) (f := f) n (Nat.lt_of_le_of_lt (Nat.zero_le m) h)
  refine ⟨k, hk, hc, ?_⟩
  have h1 := cn_but (P := fun j => decide (cnt ph j)) k n
  rw [if_pos hk] at h1
  have h2 : cn (fun j => decide (j ≠ k ∧ decide (cnt ph j) = true)) n ≤ rkN c s l f ph n k := by
    refine cn_mono n (fun j hj q => ?_)
    have q2 := of_decide_eq_true q
    have q3 : cnt ph j := of_decide_eq_true q2.2
    exact decide_eq_true ⟨q2.1, q3, hmax j hj q3 q2.1⟩
  have h3 : nC ph n = cn (fun j => decide (cnt ph j)) n := rfl
  have h4 : cn (fun j => decide (cnt ph j)) n ≤ cn (fun j => decide (j ≠ k ∧ decide (cnt ph j) = true)) n + 1 := h1
  omega
theorem rank_lt {c s l f : Nat → Nat} {ph : Nat → Int32} {n k : Nat} (hk : k < n) (hc : cnt ph k) : rkN c s l f ph n k < nC ph n := by
  refine cn_lt n (fun j hj q => ?_) ⟨k, hk, decide_eq_false (fun q => q.1 rfl), decide_eq_true hc⟩
  exact decide_eq_true (of_decide_eq_true q).2.1
theorem rank_v {c s l f : Nat → Nat} {ph : Nat → Int32} {n k : Nat} {v : Rat} (hk : k < n) (hc : cnt ph k) : rkN c s l f ph n k < cn (fun j => decide (cnt ph j ∧ rr' c s l f j < v)) n ↔ rr' c s l f k < v := by
  constructor
  · intro h
    apply Decidable.byContradiction
    intro q
    have : cn (fun j => decide (cnt ph j ∧ rr' c s l f j < v)) n ≤ rkN c s l f ph n k := by
      refine cn_mono n (fun j hj z => ?_)
      have z2 := of_decide_eq_true z
      refine decide_eq_true ⟨fun e => ?_, z2.1, Or.inl ?_⟩
      · subst e
        exact q z2.2
      · have := z2.2
        grind
    omega
  · intro h
    refine cn_lt n (fun j hj z => ?_) ⟨k, hk, decide_eq_false (fun q => q.1 rfl), decide_eq_true ⟨hc, h⟩⟩
    have z2 := of_decide_eq_true z
    refine decide_eq_true ⟨z2.2.1, ?_⟩
    rcases z2.2.2 with q | q
    · grind
    · rw [q.1]; exact h
theorem gS_gW {n : Nat} {c s l f : Nat → Nat} {ph : Nat → Int32} (p : Nat → Bool) (v : Rat) : rs (gS c s l ph p) n - v * rs (gW f ph p) n = rs (fun k => if cnt ph k then (if p k then lo' c l k else hi' c s k - v * sf' f k) else 0) n := by
  rw [rs_lin]
  refine rs_congr n (fun k hk => ?_)
  by_cases hc : cnt ph k
  · cases hpk : p k with
    | true => simp [gS, gW, hc, hpk, lo']; grind
    | false => simp [gS, gW, hc, hpk, hi']
  · simp [gS, gW, hc]; grind
theorem gW_pos {n : Nat} {c s l f : Nat → Nat} {ph : Nat → Int32} {p : Nat → Bool} (h : TT n c s l f) (hex : ∃ k, k < n ∧ cnt ph k ∧ p k = false) : 0 < rs (gW f ph p) n := by
  have h1 := rs_lt (g := fun _ => 0) (h := gW f ph p) n (fun k hk => by
    show (0 : Rat) ≤ (if cnt ph k ∧ p k = false then sf' f k else 0)
    split
    · exact Rat.le_of_lt (h.sf hk)
    · exact Rat.le_refl) (by
    obtain ⟨k, hk, hc, hp⟩ := hex
    exact ⟨k, hk, by show (0 : Rat) < (if cnt ph k ∧ p k = false then sf' f k else 0); rw [if_pos ⟨hc, hp⟩]; exact h.sf hk⟩)
  have h2 : ∀ n, rs (fun _ => 0) n = 0 := by
    intro n
    induction n with
    | zero => rfl
    | succ n ih => rw [rs, ih, Rat.add_zero]
  rw [h2] at h1
  exact h1
theorem Fit.toLf {n : Nat} {c s l f : Nat → Nat} {ph : Nat → Int32} {p : Nat → Bool} {v : Rat} (h : TT n c s l f) (hF : Fit n c s l f ph p v) {k : Nat} (hk : k < n) (hc : cnt ph k) : (if p k then lo' c l k else hi' c s k - v * sf' f k) = lf c s l f v k := by
  have h1 := hF k hk hc
  unfold lf
  cases hp : p k with
  | true =>
    rw [if_pos rfl]
    rcases Rat.le_iff_lt_or_eq.mp (h1.1 hp) with q | q
    · rw [if_pos q]
    · rw [if_neg (by rw [q]; exact Rat.lt_irrefl)]
      have := h.rr hk
      rw [← q]
      grind
  | false =>
    rw [if_neg (by decide), if_neg (Rat.not_lt.mpr (h1.2 hp))]
