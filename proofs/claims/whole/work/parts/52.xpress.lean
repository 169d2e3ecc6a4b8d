/-! the springs: pressing, the mathematics -/
theorem room_le {c s l : Nat} (h1 : c ≤ s) (h2 : s ≤ l) (h3 : l ≤ 20000) : c * (l - s) ≤ 100000000 := by
  have e1 : c * (l - s) ≤ s * (l - s) := Nat.mul_le_mul_right _ h1
  have e2 : ∀ a e : Nat, 2 * a + e ≤ 20000 → a * (a + e) ≤ 100000000 := by
    intro a e h
    have h4 : (2 * a + e) * (2 * a + e) ≤ 20000 * 20000 := Nat.mul_le_mul h h
    have h5 : (2 * a + e) * (2 * a + e) = 4 * (a * (a + e)) + e * e := by grind
    omega
  have e3 : s * (l - s) ≤ 100000000 := by
    rcases Nat.le_total s (l - s) with h | h
    · have := e2 s (l - s - s) (by omega)
      rwa [show s + (l - s - s) = l - s by omega] at this
    · have := e2 (l - s) (s - (l - s)) (by omega)
      rw [show l - s + (s - (l - s)) = s by omega] at this
      rw [Nat.mul_comm]
      exact this
  omega
theorem rs_lin (g1 g2 : Nat → Rat) (u : Rat) : ∀ n, rs g1 n - u * rs g2 n = rs (fun k => g1 k - u * g2 k) n
  | 0 => by simp only [rs]; grind
  | n + 1 => by
    have := rs_lin g1 g2 u n
    simp only [rs]
    rw [← this]
    grind
theorem rs_lt {g h : Nat → Rat} : ∀ n, (∀ k, k < n → g k ≤ h k) → (∃ k, k < n ∧ g k < h k) → rs g n < rs h n
  | 0, _, e => by obtain ⟨k, hk, -⟩ := e; omega
  | n + 1, e, ex => by
    have h2 := e n (by omega)
    obtain ⟨k, hk, hlt⟩ := ex
    rw [rs, rs]
    by_cases hkn : k = n
    · subst hkn
      have h1 := rs_le k (fun j hj => e j (by omega))
      grind
    · have h1 := rs_lt n (fun j hj => e j (by omega)) ⟨k, by omega, hlt⟩
      grind
theorem rs_zero {g : Nat → Rat} : ∀ n, (∀ k, k < n → 0 ≤ g k) → rs g n ≤ 0 → ∀ k, k < n → g k = 0
  | 0, _, _, k, hk => by omega
  | n + 1, e, h, k, hk => by
    have h1 := rs_nn n (fun j hj => e j (by omega))
    have h2 := e n (by omega)
    rw [rs] at h
    by_cases hkn : k = n
    · subst hkn
      grind
    · exact rs_zero n (fun j hj => e j (by omega)) (by grind) k (by omega)
theorem mk_pos {a b : Nat} (ha : 0 < a) (hb : 0 < b) : 0 < mkRat a b := by
  rw [Rat.mkRat_eq_div, Rat.lt_div_iff (by exact_mod_cast hb), Rat.zero_mul]
  exact_mod_cast ha
/-- full load, least load, softness, how much push presses it flat -/
abbrev hi' (c s : Nat → Nat) (k : Nat) : Rat := mkRat (c k) (s k)
abbrev lo' (c l : Nat → Nat) (k : Nat) : Rat := mkRat (c k) (l k)
abbrev sf' (f : Nat → Nat) (k : Nat) : Rat := mkRat (1 : Nat) (f k)
abbrev rr' (c s l f : Nat → Nat) (k : Nat) : Rat := mkRat (c k * (l k - s k) * f k : Nat) (s k * l k)
theorem mk_mul (a b c d : Nat) : mkRat a b * mkRat c d = mkRat (a * c : Nat) (b * d) := by
  rw [Rat.mkRat_mul_mkRat, Int.natCast_mul]
theorem rr_eq {c s l f : Nat → Nat} {k : Nat} (hs : 0 < s k) (hl : s k ≤ l k) (hf : 0 < f k) : rr' c s l f k * sf' f k = hi' c s k - lo' c l k := by
  rw [mk_mul]
  have e1 : mkRat ((c k : Nat) : Int) (s k) - mkRat ((c k : Nat) : Int) (l k) = mkRat ((c k : Int) * l k - (c k : Int) * s k) (s k * l k) := by
    rw [Rat.sub_eq_add_neg, Rat.neg_mkRat, Rat.mkRat_add_mkRat _ _ (by omega) (by omega)]
    congr 1
    rw [Int.neg_mul, ← Int.sub_eq_add_neg]
  show _ = mkRat ((c k : Nat) : Int) (s k) - mkRat ((c k : Nat) : Int) (l k)
  rw [e1, Nat.mul_one]
  have e2 : ((c k * (l k - s k) * f k : Nat) : Int) = ((c k : Int) * l k - (c k : Int) * s k) * (f k : Int) := by
    rw [Int.natCast_mul, Int.natCast_mul, Int.natCast_sub hl, Int.mul_sub]
  rw [e2, Rat.mkRat_mul_right (by omega)]
/-- the loads that a solve finds, with the push v and the pins p -/
def LD (n : Nat) (c s l f : Nat → Nat) (ph : Nat → Int32) (A v : Rat) (p : Nat → Bool) : Prop :=
  0 ≤ v ∧ (∀ k, k < n → cnt ph k → p k = true → rr' c s l f k < v) ∧ (∀ k, k < n → cnt ph k → p k = false → ¬ rr' c s l f k < v) ∧ rs (fun k => if cnt ph k then (if p k then lo' c l k else hi' c s k - v * sf' f k) else 0) n = A
def unp (ph : Nat → Int32) (p : Nat → Bool) : Nat → Nat
  | 0 => 0
  | n + 1 => unp ph p n + (if cnt ph n ∧ p n = false then 1 else 0)
theorem unp_le (ph : Nat → Int32) (p : Nat → Bool) : ∀ n, unp ph p n ≤ n
  | 0 => Nat.le_refl _
  | n + 1 => by
    have := unp_le ph p n
    unfold unp
    split <;> omega
theorem unp_mono {ph : Nat → Int32} {p p' : Nat → Bool} : ∀ n, (∀ k, k < n → p k = true → p' k = true) → unp ph p' n ≤ unp ph p n
  | 0, _ => Nat.le_refl _
  | n + 1, h => by
    have h1 := unp_mono (ph := ph) n (fun k hk => h k (by omega))
    have h2 := h n (by omega)
    unfold unp
    by_cases e : cnt ph n ∧ p' n = false
    · have e2 : cnt ph n ∧ p n = false := ⟨e.1, by cases hp : p n with
        | false => rfl
        | true => rw [h2 hp] at e; exact absurd e.2 (by decide)⟩
      rw [if_pos e, if_pos e2]
      omega
    · rw [if_neg e]
      split <;> omega
theorem unp_lt {ph : Nat → Int32} {p p' : Nat → Bool} : ∀ n, (∀ k, k < n → p k = true → p' k = true) → (∃ k, k < n ∧ cnt ph k ∧ p k = false ∧ p' k = true) → unp ph p' n < unp ph p n
  | 0, _, e => by obtain ⟨k, hk, -⟩ := e; omega
  | n + 1, h, ex => by
    obtain ⟨k, hk, h1, h2, h3⟩ := ex
    by_cases e : k = n
    · subst e
      have h4 := unp_mono (ph := ph) k (fun j hj => h j (by omega))
      unfold unp
      rw [if_pos (show cnt ph k ∧ p k = false from ⟨h1, h2⟩), if_neg (show ¬ (cnt ph k ∧ p' k = false) by rw [h3]; intro q; exact absurd q.2 (by decide))]
      omega
    · have h4 := unp_lt n (fun j hj => h j (by omega)) ⟨k, by omega, h1, h2, h3⟩
      have h5 := unp_mono (ph := ph) (p := p) (p' := p') (n + 1) h
      have h6 : (if cnt ph n ∧ p' n = false then 1 else 0) ≤ (if cnt ph n ∧ p n = false then 1 else 0) := by
        by_cases e : cnt ph n ∧ p' n = false
        · have e2 : cnt ph n ∧ p n = false := ⟨e.1, by cases hp : p n with
            | false => rfl
            | true => rw [h n (by omega) hp] at e; exact absurd e.2 (by decide)⟩
          rw [if_pos e, if_pos e2]
          exact Nat.le_refl _
        · rw [if_neg e]
          exact Nat.zero_le _
      unfold unp
      omega
/-- a round of pressing: from pins p that lie below u to the push v; either it fits, or there are more pins -/
theorem press_round {n : Nat} {c s l f : Nat → Nat} {ph : Nat → Int32} {A u : Rat} {p : Nat → Bool} (hT : ∀ k, k < n → 1 ≤ c k ∧ c k ≤ s k ∧ s k ≤ l k ∧ 1 ≤ f k) (hu : 0 ≤ u) (hp : ∀ k, k < n → cnt ph k → (p k = true ↔ rr' c s l f k < u))
    (hA : A < rs (fun k => if cnt ph k then mkRat (c k) (if p k then l k else s k) else 0) n - u * rs (fun k => if cnt ph k ∧ p k = false then sf' f k else 0) n) (hlo : rs (fun k => if cnt ph k then lo' c l k else 0) n ≤ A) :
    0 < rs (fun k => if cnt ph k ∧ p k = false then sf' f k else 0) n ∧ A < rs (fun k => if cnt ph k then mkRat (c k) (if p k then l k else s k) else 0) n ∧
    ∀ v, v * rs (fun k => if cnt ph k ∧ p k = false then sf' f k else 0) n = rs (fun k => if cnt ph k then mkRat (c k) (if p k then l k else s k) else 0) n - A → u ≤ v ∧
      ((∀ k, k < n → cnt ph k → p k = false → ¬ rr' c s l f k < v) → LD n c s l f ph A v p) ∧
      ∀ p' : Nat → Bool, (∀ k, k < n → (p' k = true ↔ (p k = true ∨ (cnt ph k ∧ rr' c s l f k < v)))) → (∃ k, k < n ∧ cnt ph k ∧ p k = false ∧ p' k = true) →
        (∀ k, k < n → cnt ph k → (p' k = true ↔ rr' c s l f k < v)) ∧ A < rs (fun k => if cnt ph k then mkRat (c k) (if p' k then l k else s k) else 0) n - v * rs (fun k => if cnt ph k ∧ p' k = false then sf' f k else 0) n := by
  have hsf : ∀ k, k < n → 0 < sf' f k := fun k hk => mk_pos (by decide) (by have := hT k hk; omega)
  have hWnn : ∀ (p : Nat → Bool) k, k < n → 0 ≤ (fun k => if cnt ph k ∧ p k = false then sf' f k else 0) k := by
    intro p k hk
    show 0 ≤ (if cnt ph k ∧ p k = false then sf' f k else 0)
    split
    · exact Rat.le_of_lt (hsf k hk)
    · exact Rat.le_refl
  have hW0 := rs_nn n (hWnn p)
  generalize hS : rs (fun k => if cnt ph k then mkRat (c k) (if p k then l k else s k) else 0) n = S at *
  have hWpos : 0 < rs (fun k => if cnt ph k ∧ p k = false then sf' f k else 0) n := by
    rcases Rat.le_iff_lt_or_eq.mp hW0 with h | h
    · exact h
    · exfalso
      have hz := rs_zero n (hWnn p) (by rw [← h]; exact Rat.le_refl)
      have : S = rs (fun k => if cnt ph k then lo' c l k else 0) n := by
        rw [← hS]
        refine rs_congr n (fun k hk => ?_)
        have h1 := hz k hk
        by_cases hc : cnt ph k
        · rw [if_pos hc, if_pos hc]
          cases hpk : p k with
          | true => rfl
          | false =>
            rw [if_pos ⟨hc, hpk⟩] at h1
            have := hsf k hk
            rw [h1] at this
            exact absurd this Rat.lt_irrefl
        · rw [if_neg hc, if_neg hc]
      rw [← h] at hA
      grind
  generalize hW : rs (fun k => if cnt ph k ∧ p k = false then sf' f k else 0) n = W at *
  have huW : 0 ≤ u * W := Rat.mul_nonneg hu hW0
  refine ⟨hWpos, by grind, fun v hv => ?_⟩
  have huv : u ≤ v := by
    have h1 : u * W < v * W := by grind
    exact Rat.le_of_lt (Rat.lt_of_mul_lt_mul_right h1 hW0)
  have hform : ∀ (p : Nat → Bool) (w : Rat), rs (fun k => if cnt ph k then mkRat (c k) (if p k then l k else s k) else 0) n - w * rs (fun k => if cnt ph k ∧ p k = false then sf' f k else 0) n = rs (fun k => if cnt ph k then (if p k then lo' c l k else hi' c s k - w * sf' f k) else 0) n := by
    intro p w
    rw [rs_lin]
    refine rs_congr n (fun k hk => ?_)
    by_cases hc : cnt ph k
    · cases hpk : p k with
      | true => simp [hc, hpk, lo']; grind
      | false => simp [hc, hpk, hi']
    · simp [hc]; grind
  have hfv : rs (fun k => if cnt ph k then (if p k then lo' c l k else hi' c s k - v * sf' f k) else 0) n = A := by
    rw [← hform, hS, hW, hv]
    grind
  refine ⟨huv, fun hn => ⟨Rat.le_trans hu huv, fun k hk hc hpk => ?_, hn, hfv⟩, fun p' hp' hex => ⟨fun k hk hc => ?_, ?_⟩⟩
  · have := (hp k hk hc).mp hpk
    grind
  · rw [hp' k hk]
    constructor
    · rintro (h | h)
      · have := (hp k hk hc).mp h
        grind
      · exact h.2
    · intro h
      exact Or.inr ⟨hc, h⟩
  · rw [hform p' v, ← hfv]
    have term : ∀ k, k < n → cnt ph k → p k = false → rr' c s l f k < v → hi' c s k - v * sf' f k < lo' c l k := by
      intro k hk hc hpk hr
      have ht := hT k hk
      have e := rr_eq (c := c) (s := s) (l := l) (f := f) (k := k) (by omega) (by omega) (by omega)
      have h1 := Rat.mul_lt_mul_of_pos_right hr (hsf k hk)
      rw [e] at h1
      grind
    refine rs_lt n (fun k hk => ?_) ?_
    · by_cases hc : cnt ph k
      · simp only [if_pos hc]
        cases hpk : p k with
        | true =>
          have : p' k = true := (hp' k hk).mpr (Or.inl hpk)
          rw [this]
          exact Rat.le_refl
        | false =>
          cases hpk' : p' k with
          | false => exact Rat.le_refl
          | true =>
            have h1 := (hp' k hk).mp hpk'
            rcases h1 with h1 | h1
            · rw [hpk] at h1
              exact absurd h1 (by decide)
            · have := term k hk hc hpk h1.2
              exact Rat.le_of_lt (by simpa using this)
      · simp only [if_neg hc]
        exact Rat.le_refl
    · obtain ⟨k, hk, hc, hpk, hpk'⟩ := hex
      refine ⟨k, hk, ?_⟩
      have h1 := (hp' k hk).mp hpk'
      rcases h1 with h1 | h1
      · rw [hpk] at h1
        exact absurd h1 (by decide)
      · have := term k hk hc hpk h1.2
        simp only [if_pos hc, hpk, hpk']
        simpa using this
