/-! THE REFERENCE: the whole of a solve -/
theorem WV.mf {I I' : ek_St} {S : List Nat} (h : WV I) (m : MF I I' 1 S) (hS : ∀ z, z ∈ S → 24 ≤ z) : WV I' := fun k hk => by
  obtain ⟨v, hv⟩ := h k hk
  exact ⟨v, m.1 k v (by omega) (fun q => by have := hS k q; omega) hv⟩
/-- the loads are laid -/
theorem t_solve4 {kd : Nat → Nat} {I : ek_St} {n low : Nat} {c s l f rk : Nat → Nat} {ph : Nat → Int32} {v t : Rat} (hM : MK kd) (hD : MD I n c s l f ph) (hW : WV I) (hr : ∀ k, k < n → I 18 k = nI (rk k) ∧ rk k ≤ 12) (hlow : low ≤ 12) (ht : MV I 24 t) (hv0 : 0 ≤ v)
    (hv : ∀ k, k < n → cnt ph k → ¬ rk k < low → (∃ Nv Dv, Hm I 1 26 Nv ∧ Hm I 1 27 Dv ∧ 0 < Dv ∧ Nv ≤ PB ∧ Dv ≤ PB ∧ v = mkRat Nv Dv) ∧ v ≤ rr' c s l f k) :
    ∃ I', fMo_solve_190 kd I 1 0 (nI low) = some I' ∧ PS I I' n c s l f ph (fun k => if rk k < low then lo' c l k else hi' c s k - v * sf' f k) t := by
  have hn := hD.1.1
  have hT : TT n c s l f := fun k hk => by have := hD.2 k hk; exact this.2
  generalize hLe : (fun k => if rk k < low then lo' c l k else hi' c s k - v * sf' f k) = L
  have hL : ∀ k, k < n → cnt ph k → lo' c l k ≤ L k ∧ L k ≤ hi' c s k := by
    intro k hk hc
    rw [← hLe]
    by_cases q : rk k < low
    · simp only [if_pos q]
      exact ⟨Rat.le_refl, hT.lohi hk⟩
    · simp only [if_neg q]
      refine ⟨hT.le_rr hk (hv k hk hc q).2, ?_⟩
      have := Rat.mul_nonneg hv0 (Rat.le_of_lt (hT.sf hk))
      grind
  unfold fMo_solve_190
  refine lp_for (fun i q => ∃ I', q = (I', 1, (0 : Int32), nI low, nI i) ∧ WV I' ∧ (∀ z, z ≠ 17 → I' z = I z) ∧ (∀ k, k < i → k < n → cnt ph k → MV I' (2 * k) (L k)) ∧ MV I' 24 t ∧ (∀ m w, m = 26 ∨ m = 27 → Hm I 1 m w → Hm I' 1 m w)) _ n ⟨I, rfl, hW, fun _ _ => rfl, fun k hk => absurd hk (by omega), ht, fun _ _ _ h => h⟩ ?_ ?_ (by omega)
  · rintro kk i q hi ⟨I2, rfl, w1, w2, w3, w4, w5⟩ hkk
    have hi12 : i < 12 := by omega
    have hD2 : MD I2 n c s l f ph := hD.keep (by rw [w2 1 (by decide)]) (fun z _ _ => w2 z (by omega))
    have di := hD2.2 i hi
    have hcount := t_counts (I := I2) hM hi12
    rw [show I2 7 i = ph i from di.1.2.2.2.2] at hcount
    simp only [fMo_solve_193, ck_t hM.m1, if_neg (hD2.ge hi), hcount, bi_s]
    by_cases hc : ph i = 2
    · rw [hc, if_pos (by decide)]
      simp only [fMo_solve_218, let_e]
      refine hkk _ ⟨I2, by rw [nI_succ], w1, w2, fun k hk hkn hck => ?_, w4, w5⟩
      by_cases e : k = i
      · subst e
        exact absurd hc hck
      · exact w3 k (by omega) hkn hck
    · have hbb : bI (decide (ph i ≠ 2)) = 1 := by simp [bI, hc]
      rw [hbb, if_neg (by decide)]
      obtain ⟨I3, e3, h3, m3⟩ := t_press (I := I2) (k := i) (low := low) (rk := rk) (v := v) hM hD2 hi (by rw [w2 18 (by decide)]; exact (hr i hi).1) (hr i hi).2 hlow (fun q => by
        obtain ⟨⟨Nv, Dv, x1, x2, x3⟩, x4⟩ := hv i hi hc q
        exact ⟨⟨Nv, Dv, w5 _ _ (Or.inl rfl) x1, w5 _ _ (Or.inr rfl) x2, x3⟩, x4⟩)
      simp only [e3, bv_s, fMo_solve_218, let_e]
      have h3' : MV I3 (2 * i) (L i) := by rw [← hLe]; exact h3
      refine hkk _ ⟨I3, by rw [nI_succ], fun m hm => ?_, fun z hz => (m3.2 z hz).trans (w2 z hz), fun k hk hkn hck => ?_, w4.mf m3 (by decide) (by simp; omega) (by simp; omega), fun m w hm hw => m3.1 m w (by omega) (by simp; omega) (w5 m w hm hw)⟩
      · by_cases em : m = 2 * i
        · subst em
          obtain ⟨N, D, a, b, -⟩ := h3'
          exact ⟨N, a⟩
        · by_cases em2 : m = 2 * i + 1
          · subst em2
            obtain ⟨N, D, a, b, -⟩ := h3'
            exact ⟨D, b⟩
          · obtain ⟨x, hx⟩ := w1 m hm
            exact ⟨x, m3.1 m x (by omega) (by simp; omega) hx⟩
      · by_cases e : k = i
        · subst e
          exact h3'
        · exact (w3 k (by omega) hkn hck).mf m3 (by omega) (by simp; omega) (by simp; omega)
  · rintro kk q ⟨I2, rfl, w1, w2, w3, w4, w5⟩
    have hD2 : MD I2 n c s l f ph := hD.keep (by rw [w2 1 (by decide)]) (fun z _ _ => w2 z (by omega))
    simp only [fMo_solve_193, ck_t hM.m1, if_pos hD2.le]
    obtain ⟨I3, e3, h3⟩ := t_solve5 (t := t) false hM hD2 w1 hL w4 (fun h => absurd h (by decide)) (fun _ k hk hc => w3 k hk hk hc)
    exact ⟨I3, e3, h3.base (fun z h1 _ => w2 z h1)⟩
/-- how many are pressed flat is sought -/
theorem t_solve3 {kd : Nat → Nat} {I : ek_St} {n th : Nat} {c s l f rk : Nat → Nat} {ph : Nat → Int32} {t : Rat} (hM : MK kd) (hD : MD I n c s l f ph) (hW : WV I) (hr : ∀ k, k < n → I 18 k = nI (rk k) ∧ rk k ≤ 12) (hrk : ∀ k, k < n → cnt ph k → rk k = rkN c s l f ph n k) (ht : MV I 24 t) (hth : I 1 2 = nI th) (hth2 : th ≤ 1000)
    (hex : ∃ v p, LD n c s l f ph (mkRat th 1000) v p) :
    ∃ r, ek_lp (fun (k : (ek_St × Nat × Int32 × Int32 × Int32) → Option (ek_St)) (q : (ek_St × Nat × Int32 × Int32 × Int32)) => fMo_solve_160 kd k q.1 q.2.1 q.2.2.1 q.2.2.2.1 q.2.2.2.2) ek_N (I, 1, nI (nC ph n), (0 : Int32), (0 : Int32)) = some r ∧
      ∃ L v, 0 ≤ v ∧ (∀ k, k < n → cnt ph k → L k = lf c s l f v k) ∧ rs (fun k => if cnt ph k then lf c s l f v k else 0) n = mkRat th 1000 ∧ PS I r n c s l f ph L t := by
  have hn := hD.1.1
  have hT : TT n c s l f := fun k hk => by have := hD.2 k hk; exact this.2
  have hnC : nC ph n ≤ n := cn_le _ n
  obtain ⟨v0, p0, hLD⟩ := hex
  generalize hA : mkRat ((th : Nat) : Int) 1000 = A at *
  refine lp_for (fun i q => ∃ I', q = (I', 1, nI (nC ph n), (0 : Int32), nI i) ∧ MF I I' 1 [26, 27, 28, 29, 30, 31] ∧ ∀ m, m < i → ¬ (¬ rs (gS c s l ph (fun k => decide (rk k < m))) n < A ∧ ∀ v, v * rs (gW f ph (fun k => decide (rk k < m))) n = rs (gS c s l ph (fun k => decide (rk k < m))) n - A → Fit n c s l f ph (fun k => decide (rk k < m)) v)) _ (nC ph n) ⟨I, rfl, MF.refl _ _ _, fun m hm => absurd hm (by omega)⟩ ?_ ?_ (by omega)
  · rintro kk i q hi ⟨I2, rfl, m2, q2⟩ hkk
    have hD2 := hD.mf m2
    have hr2 : ∀ k, k < n → I2 18 k = nI (rk k) ∧ rk k ≤ 12 := fun k hk => by rw [m2.2 18 (by decide)]; exact hr k hk
    obtain ⟨I3, r, e3, m3, -, h3⟩ := t_tryLeast (I := I2) (m := i) hM hD2 (by omega) hr2 (by rw [m2.2 1 (by decide)]; exact hth) hth2 (fun k => decide (rk k < i)) (fun _ => rfl)
    obtain ⟨kt, hkt, hct, hnt⟩ := rank_top (c := c) (s := s) (l := l) (f := f) hi
    rw [← hrk kt hkt hct] at hnt
    have hexu : ∃ k, k < n ∧ cnt ph k ∧ (fun k => decide (rk k < i)) k = false := ⟨kt, hkt, hct, decide_eq_false hnt⟩
    obtain ⟨h31, h32⟩ := h3 hexu
    rw [hA] at h31 h32
    simp only [fMo_solve_160, if_neg (nI_ge hi (show nC ph n < 2 ^ 31 by omega)), ck_t hM.m1, e3, bi_s]
    cases r with
    | false =>
      rw [if_pos (show bI false = (0 : Int32) from rfl)]
      simp only [let_e]
      refine hkk _ ⟨I3, by rw [nI_succ], m2.trans m3, fun m hm => ?_⟩
      by_cases e : m = i
      · subst e
        exact fun q => absurd (h31.mpr q) (by decide)
      · exact q2 m (by omega)
    | true =>
      rw [if_neg (show ¬ bI true = (0 : Int32) by decide)]
      obtain ⟨Nv, Dv, y1, y2, y3, y4, y5, y6⟩ := h32 rfl
      have hFit := (h31.mp rfl).2 _ y6
      have m3' := m2.trans m3
      have hD3 := hD.mf m3'
      have hne : ¬ nI i = nI (nC ph n) := fun q => by have := nI_inj (by omega) (by omega) q; omega
      simp only [fMo_solve_179, if_neg hne]
      have hv0 : (0 : Rat) ≤ mkRat (Nv : Nat) Dv := mk_nn _ _
      obtain ⟨I4, e4, h4⟩ := t_solve4 (I := I3) (low := i) (rk := rk) (v := mkRat (Nv : Nat) Dv) (t := t) hM hD3 (hW.mf m3' (by decide)) (fun k hk => by rw [m3'.2 18 (by decide)]; exact hr k hk) (by omega) (ht.mf m3' (by decide) (by decide) (by decide)) hv0 (fun k hk hc hl => ⟨⟨Nv, Dv, y1, y2, y3, y4, y5, rfl⟩, (hFit k hk hc).2 (decide_eq_false hl)⟩)
      refine ⟨I4, e4, _, mkRat (Nv : Nat) Dv, hv0, fun k hk hc => ?_, ?_, h4.base (fun z h1 _ => m3'.2 z h1)⟩
      · have := hFit.toLf hT hk hc
        rw [← this]
        by_cases q : rk k < i
        · simp [q]
        · simp [q]
      · have e5 := gS_gW (n := n) (c := c) (s := s) (l := l) (f := f) (ph := ph) (fun k => decide (rk k < i)) (mkRat (Nv : Nat) Dv)
        rw [y6] at e5
        have e6 : rs (fun k => if cnt ph k then lf c s l f (mkRat (Nv : Nat) Dv) k else 0) n = rs (fun k => if cnt ph k then (if (fun k => decide (rk k < i)) k then lo' c l k else hi' c s k - mkRat (Nv : Nat) Dv * sf' f k) else 0) n := by
          refine rs_congr n (fun k hk => ?_)
          by_cases hc : cnt ph k
          · rw [if_pos hc, if_pos hc]
            exact (hFit.toLf hT hk hc).symm
          · rw [if_neg hc, if_neg hc]
        rw [e6, ← e5]
        grind
  · rintro kk q ⟨I2, rfl, m2, q2⟩
    have hD2 := hD.mf m2
    have hr2 : ∀ k, k < n → I2 18 k = nI (rk k) ∧ rk k ≤ 12 := fun k hk => by rw [m2.2 18 (by decide)]; exact hr k hk
    obtain ⟨I3, r, e3, m3, -⟩ := t_tryLeast (I := I2) (m := nC ph n) hM hD2 (by omega) hr2 (by rw [m2.2 1 (by decide)]; exact hth) hth2 (fun k => decide (rk k < nC ph n)) (fun _ => rfl)
    simp only [fMo_solve_160, if_pos (nI_le (Nat.le_refl (nC ph n)) (show nC ph n < 2 ^ 31 by omega)), fMo_solve_179, ck_t hM.m1, e3, bi_s]
    have m3' := m2.trans m3
    have hD3 := hD.mf m3'
    -- all that count are pressed flat
    have hall : ∀ k, k < n → cnt ph k → rr' c s l f k < v0 := by
      generalize hmm : cn (fun j => decide (cnt ph j ∧ rr' c s l f j < v0)) n = mm
      have hmmle : mm ≤ nC ph n := by
        rw [← hmm]
        exact cn_mono n (fun j hj q => decide_eq_true (of_decide_eq_true q).1)
      have hp : ∀ k, k < n → cnt ph k → (rk k < mm ↔ rr' c s l f k < v0) := by
        intro k hk hc
        rw [hrk k hk hc, ← hmm]
        exact rank_v hk hc
      rcases Nat.lt_or_ge mm (nC ph n) with hlt | hge
      · exfalso
        obtain ⟨kt, hkt, hct, hnt⟩ := rank_top (c := c) (s := s) (l := l) (f := f) hlt
        rw [← hrk kt hkt hct] at hnt
        have hexu : ∃ k, k < n ∧ cnt ph k ∧ (fun k => decide (rk k < mm)) k = false := ⟨kt, hkt, hct, decide_eq_false hnt⟩
        have hWpos := gW_pos (f := f) hT hexu
        have e5 := gS_gW (n := n) (c := c) (s := s) (l := l) (f := f) (ph := ph) (fun k => decide (rk k < mm)) v0
        have e6 : rs (fun k => if cnt ph k then (if (fun k => decide (rk k < mm)) k then lo' c l k else hi' c s k - v0 * sf' f k) else 0) n = A := by
          rw [← hLD.sum]
          refine rs_congr n (fun k hk => ?_)
          by_cases hc : cnt ph k
          · rw [if_pos hc, if_pos hc]
            unfold lf
            by_cases q : rr' c s l f k < v0
            · rw [if_pos q, if_pos (decide_eq_true ((hp k hk hc).mpr q))]
            · rw [if_neg q, if_neg (fun z => q ((hp k hk hc).mp (of_decide_eq_true z)))]
          · rw [if_neg hc, if_neg hc]
        rw [e6] at e5
        have hvW : 0 ≤ v0 * rs (gW f ph (fun k => decide (rk k < mm))) n := Rat.mul_nonneg hLD.1 (Rat.le_of_lt hWpos)
        refine q2 mm hlt ⟨by rw [Rat.not_lt]; grind, fun v hv => ?_⟩
        have hveq : v = v0 := by
          have h5 : v * rs (gW f ph (fun k => decide (rk k < mm))) n = v0 * rs (gW f ph (fun k => decide (rk k < mm))) n := by rw [hv]; grind
          have h6 : rs (gW f ph (fun k => decide (rk k < mm))) n ≠ 0 := Rat.ne_of_gt hWpos
          have h7 : v * rs (gW f ph (fun k => decide (rk k < mm))) n * (rs (gW f ph (fun k => decide (rk k < mm))) n)⁻¹ = v0 * rs (gW f ph (fun k => decide (rk k < mm))) n * (rs (gW f ph (fun k => decide (rk k < mm))) n)⁻¹ := by rw [h5]
          rwa [Rat.mul_assoc, Rat.mul_assoc, Rat.mul_inv_cancel _ h6, Rat.mul_one, Rat.mul_one] at h7
        rw [hveq]
        intro k hk hc
        refine ⟨fun q => ?_, fun q => ?_⟩
        · exact Rat.le_of_lt ((hp k hk hc).mp (of_decide_eq_true q))
        · exact Rat.not_lt.mp (fun z => absurd ((hp k hk hc).mpr z) (of_decide_eq_false q))
      · intro k hk hc
        exact (hp k hk hc).mp (by rw [hrk k hk hc]; exact Nat.lt_of_lt_of_le (rank_lt hk hc) hge)
    obtain ⟨I4, e4, h4⟩ := t_solve4 (I := I3) (low := nC ph n) (rk := rk) (v := 0) (t := t) hM hD3 (hW.mf m3' (by decide)) (fun k hk => by rw [m3'.2 18 (by decide)]; exact hr k hk) (by omega) (ht.mf m3' (by decide) (by decide) (by decide)) Rat.le_refl (fun k hk hc hl => absurd (by rw [hrk k hk hc]; exact rank_lt hk hc) hl)
    refine ⟨I4, e4, _, v0, hLD.1, fun k hk hc => ?_, hLD.sum, h4.base (fun z h1 _ => m3'.2 z h1)⟩
    have hl : rk k < nC ph n := by rw [hrk k hk hc]; exact rank_lt hk hc
    simp only [if_pos hl, lf, if_pos (hall k hk hc)]
