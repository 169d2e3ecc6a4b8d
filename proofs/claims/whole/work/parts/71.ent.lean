/-! THE CLASS: who enters; RX behind changes -/
def IP (ids : Nat → Int32) (x : Int32) (n p : Nat) : Prop := p ≤ n ∧ (∀ j, j < p → ids j < x) ∧ ∀ j, p ≤ j → j < n → x < ids j
theorem IP.uniq {ids : Nat → Int32} {x : Int32} {n p p' : Nat} (h : IP ids x n p) (h' : IP ids x n p') : p = p' := by
  obtain ⟨a, b, c⟩ := h
  obtain ⟨a', b', c'⟩ := h'
  rcases Nat.lt_trichotomy p p' with q | q | q
  · exact absurd (Int32.lt_trans (b' p q) (c p (Nat.le_refl _) (by omega))) (Int32.lt_irrefl)
  · exact q
  · exact absurd (Int32.lt_trans (b p' q) (c' p' (Nat.le_refl _) (by omega))) (Int32.lt_irrefl)
theorem s_enter_no {I : ek_St} {π : Nat → Nat} {n r : Nat} {ids : Nat → Int32} (hR : XR I π n) (hid : ∀ k, k < n → I (tk (π k)) 0 = ids k) (x : Int32) (hF : FD ids x n r) (h : n = 12 ∨ r < n) : fRo_enter kX I 2 x = some (I, 0) := by
  have hn := hR.1
  simp only [fRo_enter, fRo_enter_0, ck_t k2, hR.2.1, fRo_enter_17]
  by_cases h12 : n = 12
  · rw [if_pos (by rw [h12]; decide)]
  · have hlt : n < 12 := by omega
    rw [if_neg (show ¬ (12 : Int32) ≤ nI n from nI_ge (b := 12) hlt (by decide))]
    obtain ⟨r', h1, h2⟩ := s_find hR hid x
    have e := h1.uniq hF
    subst e
    have hr : r' < n := by omega
    rw [if_pos hr] at h2
    rw [h2, bi_s, if_neg (by have e : tk (π r') = 4 + 6 * π r' := rfl; omega)]
theorem s_enter {I : ek_St} {π : Nat → Nat} {n : Nat} {ids : Nat → Int32} (hR : XR I π n) (hid : ∀ k, k < n → I (tk (π k)) 0 = ids k) (hs : ∀ i j, i < j → j < n → ids i < ids j) (hn : n < 12) (x : Int32) (hF : FD ids x n n) :
    ∃ I' p, IP ids x n p ∧ fRo_enter kX I 2 x = some (I', tk (π n)) ∧ XR I' (πi p n π) (n + 1) ∧ I' (tk (π n)) 0 = x ∧ (∀ j, j ≠ 0 → I' (tk (π n)) j = I (tk (π n)) j) ∧ ∀ z, z ≠ 2 → z ≠ 3 → z ≠ tk (π n) → I' z = I z := by
  have hπ : ∀ j, j < 12 → π j < 12 := fun j hj => (hR.2.2.1 j hj).1
  have hinj := hR.2.2.2
  have hπn := hπ n hn
  have en : tk (π n) = 4 + 6 * π n := rfl
  have ebound : ∀ j, j < 12 → tk (π j) < 2147483648 := fun j hj => by have := hπ j hj; have e : tk (π j) = 4 + 6 * π j := rfl; omega
  obtain ⟨r', h1, h2⟩ := s_find hR hid x
  have e := h1.uniq hF
  subst e
  rw [if_neg (Nat.lt_irrefl _)] at h2
  have goal : ∃ q, fRo_enter kX I 2 x = some q ∧ ∃ I' p, q = (I', tk (π r')) ∧ IP ids x r' p ∧ XR I' (πi p r' π) (r' + 1) ∧ I' (tk (π r')) 0 = x ∧ (∀ j, j ≠ 0 → I' (tk (π r')) j = I (tk (π r')) j) ∧ ∀ z, z ≠ 2 → z ≠ 3 → z ≠ tk (π r') → I' z = I z := by
    simp only [fRo_enter, fRo_enter_0, ck_t k2, hR.2.1, if_neg (show ¬ (12 : Int32) ≤ nI r' from nI_ge (b := 12) hn (by decide)), h2, bi_s, if_pos, ck_t k3, ck_t (in12 hn), cl12 hn, let_e]
    rw [hR.row hn]
    -- the end
    have fin : ∀ (I2 : ek_St) (p : Nat), p ≤ r' → (∀ z, z ≠ 3 → I2 z = I z) → (∀ j, j < 12 → I2 3 j = nI (tk (if p < j ∧ j ≤ r' then π (j - 1) else π j))) → IP ids x r' p → ∃ q, fRo_enter_73 kX I2 2 x (tk (π r')) (nI p) = some q ∧ ∃ I' p, q = (I', tk (π r')) ∧ IP ids x r' p ∧ XR I' (πi p r' π) (r' + 1) ∧ I' (tk (π r')) 0 = x ∧ (∀ j, j ≠ 0 → I' (tk (π r')) j = I (tk (π r')) j) ∧ ∀ z, z ≠ 2 → z ≠ 3 → z ≠ tk (π r') → I' z = I z := by
      intro I2 p hp q1 q2 hip
      have hp12 : p < 12 := by omega
      have hk6 := (kX_tk _ hπn).1
      simp only [fRo_enter_73, ck_t k2, ck_t k3, ck_t (in12 hp12), cl12 hp12, ck_t (show kX (tk (π r')) = 6 ∧ tk (π r') < 2147483648 from ⟨hk6, ebound _ hn⟩), ck_t hk6, let_e]
      refine ⟨_, rfl, _, p, rfl, hip, ⟨by omega, ?_, fun j hj => ⟨?_, ?_⟩, fun i j hi hj e => ?_⟩, ?_, fun j hj => ?_, fun z z2 z3 z4 => ?_⟩
      · have e1 : ek_up (ek_up I2 (2 + 1) p (nI (tk (π r')))) (tk (π r')) 0 x 2 1 = nI r' := by
          rw [ek_up_ne (by omega), ek_up_ne (by decide), q1 2 (by decide)]
          exact hR.2.1
        rw [e1]
        rw [up_same, nI_succ]
      · unfold πi
        split
        · exact hπ j hj
        · split
          · exact hπn
          · split
            · exact hπ _ (by omega)
            · exact hπ j hj
      · rw [ek_up_ne (by decide), ek_up_ne (by omega)]
        by_cases h : j = p
        · subst h
          have : ek_up I2 (2 + 1) j (nI (tk (π r'))) 3 j = nI (tk (π r')) := up_same
          rw [this]
          unfold πi
          rw [if_neg (by omega), if_pos rfl]
        · rw [up_ne (fun q => h q.2), q2 j hj]
          unfold πi
          congr 2
          by_cases z : j < p
          · rw [if_pos z, if_neg (by omega)]
          · rw [if_neg z, if_neg h]
            by_cases z2 : j ≤ r'
            · rw [if_pos z2, if_pos (by omega)]
            · rw [if_neg z2, if_neg (by omega)]
      · have hcan : ∀ k, k < 12 → ∃ k', k' < 12 ∧ πi p r' π k = π k' ∧ k' = (if k < p then k else if k = p then r' else if k ≤ r' then k - 1 else k) := by
          intro k hk
          refine ⟨_, ?_, ?_, rfl⟩
          · split
            · exact hk
            · split
              · omega
              · split <;> omega
          · unfold πi
            split
            · rfl
            · split
              · rfl
              · split <;> rfl
        obtain ⟨i', h1, h2, h3⟩ := hcan i hi
        obtain ⟨j', h4, h5, h6⟩ := hcan j hj
        have := hinj i' j' h1 h4 (by rw [← h2, ← h5]; exact e)
        rw [h3, h6] at this
        split at this <;> split at this <;> (try split at this) <;> (try split at this) <;> (try split at this) <;> (try split at this) <;> omega
      · rw [ek_up_ne (by omega)]
        exact up_same
      · rw [ek_up_ne (by omega), up_ne (fun q => hj q.2), ek_up_ne (by omega), q1 _ (by omega)]
      · rw [ek_up_ne z2, ek_up_ne z4, ek_up_ne z3]
        exact q1 z z3
    refine lp_for (fun t q => ∃ I', q = (I', 2, x, tk (π r'), nI (r' - t)) ∧ t ≤ r' ∧ (∀ z, z ≠ 3 → I' z = I z) ∧ (∀ j, j < 12 → I' 3 j = nI (tk (if r' - t < j ∧ j ≤ r' then π (j - 1) else π j))) ∧ ∀ j, r' - t ≤ j → j < r' → x < ids j) _ r' ⟨I, rfl, Nat.zero_le _, fun _ _ => rfl, fun j hj => by rw [if_neg (by omega)]; exact (hR.2.2.1 j hj).2, fun j h1 h2 => absurd h2 (by omega)⟩ ?_ ?_ (by omega)
    · rintro kk t q ht ⟨I2, rfl, -, q1, q2, q3⟩ hkk
      have hpos : ¬ nI (r' - t) ≤ (0 : Int32) := nI_nle (by omega) (by omega)
      have epred : nI (r' - t) - (1 : Int32) = nI (r' - t - 1) := by
        have := nI_pred (r' - t - 1)
        rw [show r' - t - 1 + 1 = r' - t by omega] at this
        exact this
      have hi12 : r' - t - 1 < 12 := by omega
      have hp12 : r' - t < 12 := by omega
      have er : (I2 (2 + 1) (r' - t - 1)).toNatClampNeg = tk (π (r' - t - 1)) := by
        show (I2 3 (r' - t - 1)).toNatClampNeg = _
        rw [q2 _ hi12, if_neg (by omega), nI_clamp (ebound _ hi12)]
      have hk6 := (kX_tk _ (hπ _ hi12)).1
      have eid : I2 (tk (π (r' - t - 1))) 0 = ids (r' - t - 1) := by
        rw [q1 _ (by have e : tk (π (r' - t - 1)) = 4 + 6 * π (r' - t - 1) := rfl; omega)]
        exact hid _ (by omega)
      simp only [fRo_enter_34, if_neg hpos, ck_t k2, ck_t k3, epred, ck_t (in12 hi12), cl12 hi12, er, ck_t hk6, eid]
      by_cases hle : ids (r' - t - 1) ≤ x
      · rw [if_pos hle]
        refine fin I2 (r' - t) (by omega) q1 q2 ⟨by omega, fun j hj => ?_, q3⟩
        have hne : ids j ≠ x := hF.2.1 j (by omega)
        have hle2 : ids j ≤ x := by
          by_cases ej : j = r' - t - 1
          · rw [ej]; exact hle
          · exact Int32.le_trans (Int32.le_of_lt (hs j (r' - t - 1) (by omega) (by omega))) hle
        rcases Int32.lt_or_eq_of_le hle2 with z | z
        · exact z
        · exact absurd z hne
      · rw [if_neg hle]
        simp only [ck_t (in12 hp12), cl12 hp12, ck_t (show kX (tk (π (r' - t - 1))) = 6 ∧ tk (π (r' - t - 1)) < 2147483648 from ⟨hk6, ebound _ hi12⟩), let_e]
        refine hkk _ ⟨ek_up I2 (2 + 1) (r' - t) (nI (tk (π (r' - t - 1)))), ?_, by omega, fun z hz => ?_, fun j hj => ?_, fun j h1 h2 => ?_⟩
        · have : nI (r' - t) + (-1 : Int32) = nI (r' - (t + 1)) := by
            have h5 : nI (r' - t) + (-1 : Int32) = nI (r' - t) - 1 := by rw [Int32.sub_eq_add_neg]
            rw [h5, epred]
            congr 1
          rw [this]
        · rw [ek_up_ne hz]
          exact q1 z hz
        · by_cases h : j = r' - t
          · subst h
            have : ek_up I2 (2 + 1) (r' - t) (nI (tk (π (r' - t - 1)))) 3 (r' - t) = nI (tk (π (r' - t - 1))) := up_same
            rw [this, if_pos (by omega)]
          · rw [up_ne (fun q => h q.2), q2 j hj]
            congr 2
            by_cases z : r' - t < j ∧ j ≤ r'
            · rw [if_pos z, if_pos (by omega)]
            · rw [if_neg z, if_neg (by omega)]
        · by_cases ej : j = r' - t - 1
          · rw [ej]; exact Int32.not_le.mp hle
          · exact q3 j (by omega) h2
    · rintro kk q ⟨I2, rfl, -, q1, q2, q3⟩
      have hz : nI (r' - r') ≤ (0 : Int32) := by rw [Nat.sub_self]; decide
      simp only [fRo_enter_34, if_pos hz]
      exact fin I2 (r' - r') (by omega) q1 q2 ⟨by omega, fun j hj => absurd hj (by omega), q3⟩
  obtain ⟨q, e, I', p, rfl, a1, a2⟩ := goal
  exact ⟨I', p, a1, e, a2⟩
/-- a new task's fields -/
def nwF (i c s l f : Int32) (j : Nat) : Int32 := if j = 0 then i else if j = 1 then c else if j = 2 then s else if j = 3 then l else if j = 4 then f else if j = 10 then -1 else 0
theorem s_announce {I : ek_St} {t : Nat} {c s l f : Int32} (hk : kX t = 6) : ∃ I', fTa_announce kX I t c s l f = some I' ∧ (∀ j, j < 13 → j ≠ 7 → I' t j = nwF (I t 0) c s l f j) ∧ ∀ z, z ≠ t → I' z = I z := by
  simp only [fTa_announce, fTa_announce_0, ck_t hk, let_e]
  refine ⟨_, rfl, fun j h1 h2 => ?_, fun z hz => ?_⟩
  · have : j = 0 ∨ j = 1 ∨ j = 2 ∨ j = 3 ∨ j = 4 ∨ j = 5 ∨ j = 6 ∨ j = 8 ∨ j = 9 ∨ j = 10 ∨ j = 11 ∨ j = 12 := by omega
    rcases this with rfl | rfl | rfl | rfl | rfl | rfl | rfl | rfl | rfl | rfl | rfl | rfl <;> simp [ek_up, nwF]
  · simp only [ek_up_ne hz]
/-- RX, where one is dropped -/
theorem RX.drop {I I' : ek_St} {π : Nat → Nat} {n p : Nat} {F : Nat → Nat → Int32} {L : Nat → Rat} {t : Rat} {G : Nat → Int32} {E : Nat → Prop} (h : RX I π n F L t G E) (hp : p < n) (hR : XR I' (πd p n π) (n - 1)) (hz : ∀ z, z ≠ 2 → z ≠ 3 → I' z = I z) : RX I' (πd p n π) (n - 1) (del p F) (del p L) t G (del p E) := by
  have key : ∀ k, k < n - 1 → πd p n π k = π (if k < p then k else k + 1) := fun k hk => πd_del π (by omega)
  have e2 : ∀ i, ¬ tk i = 2 := fun i q => by have e : tk i = 4 + 6 * i := rfl; omega
  have e3 : ∀ i, ¬ tk i = 3 := fun i q => by have e : tk i = 4 + 6 * i := rfl; omega
  refine ⟨hR, fun k j hk hj h7 => ?_, fun k hk hE h5 => ?_, h.2.2.2.1.keep (hz _ (by decide) (by decide)) (hz _ (by decide) (by decide)), fun j hj => ?_⟩
  · rw [hz _ (e2 _) (e3 _), key k hk]
    unfold del
    by_cases q : k < p
    · rw [if_pos q, if_pos q]
      exact h.2.1 k j (by omega) hj h7
    · rw [if_neg q, if_neg q]
      exact h.2.1 (k + 1) j (by omega) hj h7
  · rw [hz _ (e2 _) (e3 _), key k hk]
    unfold del at hE h5 ⊢
    have fin : ∀ i, i < n → ¬ E i → F i 5 ≠ 2 → I (tk (π i)) 7 = F i 7 ∧ FrQ I' (tk (π i) + 1) (L i) := by
      intro i hi h1 h2
      obtain ⟨a, b⟩ := h.2.2.1 i hi h1 h2
      have e : tk (π i) = 4 + 6 * π i := rfl
      exact ⟨a, b.keep (hz _ (by omega) (by omega)) (hz _ (by omega) (by omega))⟩
    by_cases q : k < p
    · rw [if_pos q] at hE h5 ⊢
      rw [if_pos q, if_pos q]
      exact fin k (by omega) hE h5
    · rw [if_neg q] at hE h5 ⊢
      rw [if_neg q, if_neg q]
      exact fin (k + 1) (by omega) hE h5
  · rw [hz 1 (by decide) (by decide)]
    exact h.2.2.2.2 j hj
theorem πi_ins {p n k : Nat} (π : Nat → Nat) (hk : k ≤ n) : πi p n π k = if k < p then π k else if k = p then π n else π (k - 1) := by
  unfold πi
  by_cases h : k < p
  · rw [if_pos h, if_pos h]
  · rw [if_neg h, if_neg h]
    by_cases h2 : k = p
    · rw [if_pos h2, if_pos h2]
    · rw [if_neg h2, if_neg h2, if_pos hk]
/-- RX, where one is entered and announced -/
theorem RX.enter {I I' : ek_St} {π : Nat → Nat} {n p : Nat} {F : Nat → Nat → Int32} {L : Nat → Rat} {t : Rat} {G : Nat → Int32} (h : RX I π n F L t G (fun _ => False)) (hn : n < 12) (hp : p ≤ n) (x : Nat → Int32) (hR : XR I' (πi p n π) (n + 1)) (hx : ∀ j, j < 13 → j ≠ 7 → I' (tk (π n)) j = x j) (hz : ∀ z, z ≠ 2 → z ≠ 3 → z ≠ tk (π n) → I' z = I z) : RX I' (πi p n π) (n + 1) (ins p x F) (ins p 0 L) t G (fun k => k = p) := by
  have hπ : ∀ j, j < 12 → π j < 12 := fun j hj => (h.1.2.2.1 j hj).1
  have en : tk (π n) = 4 + 6 * π n := rfl
  have hne : ∀ k, k < n → tk (π k) ≠ tk (π n) := fun k hk q => by have := h.1.2.2.2 k n (by omega) hn (tk_inj q); omega
  have fin : ∀ i, i < n → (∀ j, j < 13 → j ≠ 7 → I' (tk (π i)) j = F i j) ∧ (F i 5 ≠ 2 → I' (tk (π i)) 7 = F i 7 ∧ FrQ I' (tk (π i) + 1) (L i)) := by
    intro i hi
    have e : tk (π i) = 4 + 6 * π i := rfl
    have hq := hne i hi
    have e0 := hz (tk (π i)) (by omega) (by omega) hq
    refine ⟨fun j hj h7 => by rw [e0]; exact h.2.1 i j hi hj h7, fun h5 => ?_⟩
    obtain ⟨a, b⟩ := h.2.2.1 i hi (fun q => q) h5
    exact ⟨by rw [e0]; exact a, b.keep (hz _ (by omega) (by omega) (by omega)) (hz _ (by omega) (by omega) (by omega))⟩
  refine ⟨hR, fun k j hk hj h7 => ?_, fun k hk hE h5 => ?_, h.2.2.2.1.keep (hz _ (by decide) (by decide) (by have := hπ n hn; omega)) (hz _ (by decide) (by decide) (by have := hπ n hn; omega)), fun j hj => ?_⟩
  · rw [πi_ins π (by omega)]
    unfold ins
    by_cases q : k < p
    · rw [if_pos q, if_pos q]
      exact (fin k (by omega)).1 j hj h7
    · rw [if_neg q, if_neg q]
      by_cases q2 : k = p
      · rw [if_pos q2, if_pos q2]
        exact hx j hj h7
      · rw [if_neg q2, if_neg q2]
        exact (fin (k - 1) (by omega)).1 j hj h7
  · rw [πi_ins π (by omega)]
    unfold ins at h5 ⊢
    by_cases q : k < p
    · rw [if_pos q] at h5 ⊢
      rw [if_pos q, if_pos q]
      exact (fin k (by omega)).2 h5
    · rw [if_neg q, if_neg hE] at h5 ⊢
      rw [if_neg q, if_neg hE, if_neg q, if_neg hE]
      exact (fin (k - 1) (by omega)).2 h5
  · rw [hz 1 (by decide) (by decide) (by omega)]
    exact h.2.2.2.2 j hj
