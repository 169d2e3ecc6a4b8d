/-! THE REFERENCE: rows are moved -/
/-- row k of the one state is row σ k of the other -/
def RW (I I' : ek_St) (σ : Nat → Nat) : Prop := (∀ k, k < 12 → σ k < 12) ∧ (∀ z k, 2 ≤ z → z ≤ 16 → k < 12 → I' z k = I z (σ k)) ∧ (∀ k v, k < 12 → Hm I 1 (2 * σ k) v → Hm I' 1 (2 * k) v) ∧ (∀ k v, k < 12 → Hm I 1 (2 * σ k + 1) v → Hm I' 1 (2 * k + 1) v) ∧ (∀ m v, 24 ≤ m → m < 36 → Hm I 1 m v → Hm I' 1 m v) ∧ I' 1 = I 1
theorem RW.refl (I : ek_St) : RW I I (fun k => k) := ⟨fun _ h => h, fun _ _ _ _ _ => rfl, fun _ _ _ h => h, fun _ _ _ h => h, fun _ _ _ _ h => h, rfl⟩
theorem RW.trans {I I1 I2 : ek_St} {σ τ : Nat → Nat} (h : RW I I1 σ) (h2 : RW I1 I2 τ) : RW I I2 (fun k => σ (τ k)) := ⟨fun k hk => h.1 _ (h2.1 k hk), fun z k a b c => (h2.2.1 z k a b c).trans (h.2.1 z (τ k) a b (h2.1 k c)), fun k v hk hv => h2.2.2.1 k v hk (h.2.2.1 (τ k) v (h2.1 k hk) hv), fun k v hk hv => h2.2.2.2.1 k v hk (h.2.2.2.1 (τ k) v (h2.1 k hk) hv), fun m v a b c => h2.2.2.2.2.1 m v a b (h.2.2.2.2.1 m v a b c), h2.2.2.2.2.2.trans h.2.2.2.2.2⟩
theorem RW.congr {I I' : ek_St} {σ τ : Nat → Nat} (h : RW I I' σ) (e : ∀ k, k < 12 → σ k = τ k) : RW I I' τ := ⟨fun k hk => by rw [← e k hk]; exact h.1 k hk, fun z k a b c => by rw [← e k c]; exact h.2.1 z k a b c, fun k v hk => by rw [← e k hk]; exact h.2.2.1 k v hk, fun k v hk => by rw [← e k hk]; exact h.2.2.2.1 k v hk, h.2.2.2.2⟩
theorem WV.rw {I I' : ek_St} {σ : Nat → Nat} (h : WV I) (r : RW I I' σ) : WV I' := by
  intro m hm
  have hk : m / 2 < 12 := by omega
  rcases Nat.mod_two_eq_zero_or_one m with q | q
  · obtain ⟨v, hv⟩ := h (2 * σ (m / 2)) (by have := r.1 _ hk; omega)
    have := r.2.2.1 (m / 2) v hk hv
    rw [show 2 * (m / 2) = m by omega] at this
    exact ⟨v, this⟩
  · obtain ⟨v, hv⟩ := h (2 * σ (m / 2) + 1) (by have := r.1 _ hk; omega)
    have := r.2.2.2.1 (m / 2) v hk hv
    rw [show 2 * (m / 2) + 1 = m by omega] at this
    exact ⟨v, this⟩
theorem BV.rw {I I' : ek_St} {σ : Nat → Nat} (h : ∀ k, k < 12 → I 16 k = 0 ∨ I 16 k = 1) (r : RW I I' σ) : ∀ k, k < 12 → I' 16 k = 0 ∨ I' 16 k = 1 := fun k hk => by
  rw [r.2.1 16 k (by decide) (by decide) hk]
  exact h _ (r.1 k hk)
/-- the first cells are moved -/
def stg (I : ek_St) (a b s : Nat) : ek_St := fun z i => if 2 ≤ z ∧ z < s ∧ i = a then I z b else I z i
theorem stg_up {I : ek_St} {a b s : Nat} (h : 2 ≤ s) : ek_up (stg I a b s) s a (stg I a b s s b) = stg I a b (s + 1) := by
  funext z i
  unfold ek_up stg
  by_cases h1 : z = s ∧ i = a
  · rw [if_pos h1, if_neg (by omega), if_pos (by omega), h1.1]
  · rw [if_neg h1]
    by_cases h2 : 2 ≤ z ∧ z < s ∧ i = a
    · rw [if_pos h2, if_pos (by omega)]
    · rw [if_neg h2, if_neg (by omega)]
theorem stg0 (I : ek_St) (a b : Nat) : stg I a b 2 = I := by
  funext z i
  unfold stg
  rw [if_neg (by omega)]
theorem t_move {kd : Nat → Nat} {I : ek_St} {a b : Nat} (hM : MK kd) (ha : a < 12) (hb : b < 12) (hab : a ≠ b) (hW : WV I) (hB : ∀ k, k < 12 → I 16 k = 0 ∨ I 16 k = 1) :
    ∃ I', fMo_move kd I 1 (nI a) (nI b) = some I' ∧ RW I I' (fun k => if k = a then b else k) := by
  have z1 : ek_up I (1 + 1) a (I (1 + 1) b) = stg I a b 3 := by
    have := stg_up (I := I) (a := a) (b := b) (s := 2) (Nat.le_refl _)
    rw [stg0] at this
    exact this
  have z2 : ek_up (stg I a b 3) (1 + 2) a (stg I a b 3 (1 + 2) b) = stg I a b 4 := stg_up (by decide)
  have z3 : ek_up (stg I a b 4) (1 + 3) a (stg I a b 4 (1 + 3) b) = stg I a b 5 := stg_up (by decide)
  have z4 : ek_up (stg I a b 5) (1 + 4) a (stg I a b 5 (1 + 4) b) = stg I a b 6 := stg_up (by decide)
  have z5 : ek_up (stg I a b 6) (1 + 5) a (stg I a b 6 (1 + 5) b) = stg I a b 7 := stg_up (by decide)
  have z6 : ek_up (stg I a b 7) (1 + 6) a (stg I a b 7 (1 + 6) b) = stg I a b 8 := stg_up (by decide)
  have z7 : ek_up (stg I a b 8) (1 + 7) a (stg I a b 8 (1 + 7) b) = stg I a b 9 := stg_up (by decide)
  have z8 : ek_up (stg I a b 9) (1 + 8) a (stg I a b 9 (1 + 8) b) = stg I a b 10 := stg_up (by decide)
  have z9 : ek_up (stg I a b 10) (1 + 9) a (stg I a b 10 (1 + 9) b) = stg I a b 11 := stg_up (by decide)
  have z10 : ek_up (stg I a b 11) (1 + 10) a (stg I a b 11 (1 + 10) b) = stg I a b 12 := stg_up (by decide)
  have z11 : ek_up (stg I a b 12) (1 + 11) a (stg I a b 12 (1 + 11) b) = stg I a b 13 := stg_up (by decide)
  have z12 : ek_up (stg I a b 13) (1 + 12) a (stg I a b 13 (1 + 12) b) = stg I a b 14 := stg_up (by decide)
  have z13 : ek_up (stg I a b 14) (1 + 13) a (stg I a b 14 (1 + 13) b) = stg I a b 15 := stg_up (by decide)
  have z14 : ek_up (stg I a b 15) (1 + 14) a (stg I a b 15 (1 + 14) b) = stg I a b 16 := stg_up (by decide)
  have z15 : ek_up (stg I a b 16) (1 + 15) a (stg I a b 16 (1 + 15) b) = stg I a b 17 := stg_up (by decide)
  have hb16 : stg I a b 16 (1 + 15) b = 0 ∨ stg I a b 16 (1 + 15) b = 1 := by
    show stg I a b 16 16 b = 0 ∨ stg I a b 16 16 b = 1
    unfold stg
    rw [if_neg (by omega)]
    exact hB b hb
  have e17 : stg I a b 17 17 = I 17 := by
    funext i
    unfold stg
    rw [if_neg (by omega)]
  have c17 : ∀ {m v}, Hm I 1 m v → Hm (stg I a b 17) 1 m v := fun h => Hr.cell h e17
  obtain ⟨v1, hv1⟩ := hW (2 * b) (by omega)
  obtain ⟨v2, hv2⟩ := hW (2 * b + 1) (by omega)
  obtain ⟨I1, e1, h1, f1⟩ := t_copy (I := stg I a b 17) (k := 2 * a) hM.mn (by omega) (by omega) (by omega) (c17 hv1)
  have hv2' := Hr.fm (c17 hv2) f1 (by omega)
  obtain ⟨I2, e2, h2, f2⟩ := t_copy (I := I1) (k := 2 * a + 1) hM.mn (by omega) (by omega) (by omega) hv2'
  refine ⟨I2, ?_, fun k hk => ?_, fun z k hz1 hz2 hk => ?_, fun k v hk hv => ?_, fun k v hk hv => ?_, fun m v hm1 hm2 hv => ?_, ?_⟩
  · simp only [fMo_move, fMo_move_0, ck_t hM.m1, ck_t hM.a1, ck_t hM.a2, ck_t hM.a3, ck_t hM.a4, ck_t hM.a5, ck_t hM.a6, ck_t hM.a7, ck_t hM.a8, ck_t hM.a9, ck_t hM.a10, ck_t hM.a11, ck_t hM.a12, ck_t hM.a13, ck_t hM.a14, ck_t hM.a15, ck_t hM.a16, ck_t hM.a17, ck_t (in12 ha), ck_t (in12 hb), cl12 ha, cl12 hb, let_e, z1, z2, z3, z4, z5, z6, z7, z8, z9, z10, z11, z12, z13, z14, z15, ck_t hb16, m2k, m2k1, e1, bv_s, e2]
  · show (if k = a then b else k) < 12
    split <;> omega
  · rw [f2.ne (by show z ≠ 17; omega), f1.ne (by show z ≠ 17; omega)]
    show _ = I z (if k = a then b else k)
    unfold stg
    by_cases q : k = a
    · rw [if_pos ⟨hz1, by omega, q⟩, if_pos q]
    · rw [if_neg (fun z => q z.2.2), if_neg q]
  · have hv : Hm I 1 (2 * (if k = a then b else k)) v := hv
    by_cases q : k = a
    · subst q
      rw [if_pos rfl] at hv
      have := hv.uniq hv1
      subst this
      exact Hr.fm h1 f2 (by omega)
    · rw [if_neg q] at hv
      exact Hr.fm (Hr.fm (c17 hv) f1 (by omega)) f2 (by omega)
  · have hv : Hm I 1 (2 * (if k = a then b else k) + 1) v := hv
    by_cases q : k = a
    · subst q
      rw [if_pos rfl] at hv
      have := hv.uniq hv2
      subst this
      exact h2
    · rw [if_neg q] at hv
      exact Hr.fm (Hr.fm (c17 hv) f1 (by omega)) f2 (by omega)
  · exact Hr.fm (Hr.fm (c17 hv) f1 (by omega)) f2 (by omega)
  · rw [f2.ne (by decide), f1.ne (by decide)]
    funext i
    unfold stg
    rw [if_neg (by omega)]
theorem t_remove {kd : Nat → Nat} {I : ek_St} {n p : Nat} (hM : MK kd) (hn : n ≤ 12) (h7 : I 1 7 = nI n) (hp : p < n) (hW : WV I) (hB : ∀ k, k < 12 → I 16 k = 0 ∨ I 16 k = 1) :
    ∃ I' I1, fMo_remove kd I 1 (nI p) = some I' ∧ RW I I1 (fun k => if p ≤ k ∧ k + 1 < n then k + 1 else k) ∧ I' = ek_up I1 1 7 (nI (n - 1)) := by
  have goal : ∃ q, fMo_remove kd I 1 (nI p) = some q ∧ ∃ I1, RW I I1 (fun k => if p ≤ k ∧ k + 1 < n then k + 1 else k) ∧ q = ek_up I1 1 7 (nI (n - 1)) := by
    unfold fMo_remove fMo_remove_0
    refine lp_for (fun t q => ∃ I', q = (I', 1, nI (p + t)) ∧ RW I I' (fun k => if p ≤ k ∧ k < p + t then k + 1 else k)) _ (n - 1 - p) ⟨I, rfl, (RW.refl I).congr (fun k hk => by rw [if_neg (by omega)])⟩ ?_ ?_ (by omega)
    · rintro kk t q ht ⟨I2, rfl, q1⟩ hkk
      have r7 : I2 1 7 = nI n := by rw [q1.2.2.2.2.2]; exact h7
      have es : nI (p + t) + (1 : Int32) = nI (p + t + 1) := (nI_succ _).symm
      obtain ⟨I3, e3, h3⟩ := t_move (I := I2) (a := p + t) (b := p + t + 1) hM (by omega) (by omega) (by omega) (hW.rw q1) (BV.rw hB q1)
      simp only [fMo_remove_2, ck_t hM.m1, r7, es, if_neg (nI_ge (show p + t + 1 < n by omega) (show n < 2 ^ 31 by omega)), e3, bv_s, let_e]
      refine hkk _ ⟨I3, rfl, (q1.trans h3).congr (fun k hk => ?_)⟩
      show (if p ≤ (if k = p + t then p + t + 1 else k) ∧ (if k = p + t then p + t + 1 else k) < p + t then (if k = p + t then p + t + 1 else k) + 1 else (if k = p + t then p + t + 1 else k)) = if p ≤ k ∧ k < p + (t + 1) then k + 1 else k
      by_cases q : k = p + t
      · rw [if_pos q, if_neg (by omega), if_pos (by omega), q]
      · rw [if_neg q]
        by_cases z : p ≤ k ∧ k < p + t
        · rw [if_pos z, if_pos (by omega)]
        · rw [if_neg z, if_neg (by omega)]
    · rintro kk q ⟨I2, rfl, q1⟩
      have r7 : I2 1 7 = nI n := by rw [q1.2.2.2.2.2]; exact h7
      have es : nI (p + (n - 1 - p)) + (1 : Int32) = nI n := by
        rw [← nI_succ]
        congr 1
        omega
      have ep : nI n - (1 : Int32) = nI (n - 1) := by
        have := nI_pred (n - 1)
        rw [show n - 1 + 1 = n by omega] at this
        exact this
      simp only [fMo_remove_2, ck_t hM.m1, r7, es, if_pos (nI_le (Nat.le_refl n) (show n < 2 ^ 31 by omega)), ep, let_e]
      refine ⟨_, rfl, I2, q1.congr (fun k hk => ?_), rfl⟩
      by_cases z : p ≤ k ∧ k < p + (n - 1 - p)
      · rw [if_pos z, if_pos (by omega)]
      · rw [if_neg z, if_neg (by omega)]
  obtain ⟨q, e, I1, h1, h2⟩ := goal
  exact ⟨q, I1, e, h1, h2⟩
/-- RM behind a removal -/
theorem RM.remove {kd : Nat → Nat} {I : ek_St} {n p : Nat} {F : Nat → Nat → Int32} {L : Nat → Rat} {t : Rat} {G : Nat → Int32} {E : Nat → Prop} (hM : MK kd) (h : RM I n F L t G E) (hp : p < n) : ∃ I', fMo_remove kd I 1 (nI p) = some I' ∧ RM I' (n - 1) (del p F) (del p L) t G (del p E) ∧ I' 1 0 = I 1 0 := by
  obtain ⟨h1, h2, h3, h4, h5, h6, h7, h8⟩ := h
  obtain ⟨I', I1, e, r, rfl⟩ := t_remove hM h1.1 h1.2 hp h6 h7
  have e1 : ∀ z, z ≠ 1 → ek_up I1 1 7 (nI (n - 1)) z = I1 z := fun z hz => ek_up_ne hz
  have c17 : ∀ {m v}, Hm I1 1 m v → Hm (ek_up I1 1 7 (nI (n - 1))) 1 m v := fun h => Hr.cell h (e1 17 (by decide))
  have σk : ∀ k, k < n - 1 → (if p ≤ k ∧ k + 1 < n then k + 1 else k) = if k < p then k else k + 1 := by
    intro k hk
    by_cases q : k < p
    · rw [if_pos q, if_neg (by omega)]
    · rw [if_neg q, if_pos (by omega)]
  have hn := h1.1
  have row : ∀ z k, 2 ≤ z → z ≤ 16 → k < n - 1 → ek_up I1 1 7 (nI (n - 1)) z k = I z (if k < p then k else k + 1) := by
    intro z k hz1 hz2 hk
    have r2 : I1 z k = I z (if p ≤ k ∧ k + 1 < n then k + 1 else k) := r.2.1 z k hz1 hz2 (by omega)
    rw [e1 z (by omega), r2, σk k hk]
  have dl : ∀ {α : Type} (X : Nat → α) k, del p X k = X (if k < p then k else k + 1) := by
    intro α X k
    unfold del
    by_cases q : k < p
    · rw [if_pos q, if_pos q]
    · rw [if_neg q, if_neg q]
  have lt : ∀ k, k < n - 1 → (if k < p then k else k + 1) < n := by
    intro k hk
    split <;> omega
  refine ⟨_, e, ⟨⟨by omega, up_same⟩, fun k j hk hj hj7 => ?_, fun k hk => ?_, fun k hk hE hc => ?_, ?_, ?_, ?_, fun j hj => ?_⟩, ?_⟩
  · rw [row _ k (by omega) (by omega) hk, dl F k]
    exact h2 _ j (lt k hk) hj hj7
  · rw [row _ k (by decide) (by decide) hk, dl F k]
    exact h3 _ (lt k hk)
  · rw [row _ k (by decide) (by decide) hk, row _ k (by decide) (by decide) hk]
    rw [dl E k] at hE
    rw [dl F k] at hc
    show _ ∧ I 16 _ = bI (decide (tn (del p F k 2) ≠ tn (del p F k 3) ∧ del p L k = mkRat (tn (del p F k 1)) (tn (del p F k 3)))) ∧ _
    rw [dl F k, dl L k]
    obtain ⟨a1, a2, a3⟩ := h4 _ (lt k hk) hE hc
    refine ⟨a1, a2, ?_⟩
    obtain ⟨N, D, b1, b2, b3⟩ := a3
    refine ⟨N, D, c17 (r.2.2.1 k N (by omega) ?_), c17 (r.2.2.2.1 k D (by omega) ?_), b3⟩
    · show Hm I 1 (2 * (if p ≤ k ∧ k + 1 < n then k + 1 else k)) N
      rw [σk k hk]
      exact b1
    · show Hm I 1 (2 * (if p ≤ k ∧ k + 1 < n then k + 1 else k) + 1) D
      rw [σk k hk]
      exact b2
  · obtain ⟨N, D, b1, b2, b3⟩ := h5
    exact ⟨N, D, c17 (r.2.2.2.2.1 _ _ (by decide) (by decide) b1), c17 (r.2.2.2.2.1 _ _ (by decide) (by decide) b2), b3⟩
  · intro m hm
    obtain ⟨v, hv⟩ := h6.rw r m hm
    exact ⟨v, c17 hv⟩
  · intro k hk
    rw [e1 16 (by decide)]
    exact BV.rw h7 r k hk
  · rw [up_ne (by omega), r.2.2.2.2.2]
    exact h8 j hj
  · rw [up_ne (by decide), r.2.2.2.2.2]
