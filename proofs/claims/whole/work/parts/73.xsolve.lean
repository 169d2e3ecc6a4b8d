/-! THE CLASS: the whole of a solve -/
theorem k1 : kX 1 = 7 := by decide
theorem k75 : kX (1 + 75) = 5 := by decide
theorem k11 : kX (1 + 1) = 4 := by decide
theorem k111 : kX (1 + 1 + 1) = 60 := by decide
theorem s_holds {I : ek_St} {t : Nat} (hk : kX t = 6) : fTa_holdsUpChange kX I t = some (I, bI (decide (I t 5 = 2 ∨ (I t 5 = 1 ∧ I t 6 < I t 7)))) := by
  simp only [fTa_holdsUpChange, fTa_holdsUpChange_0, ck_t hk, fTa_holdsUpChange_27, fTa_holdsUpChange_31, ck0, ck1]
  by_cases h2 : I t 5 = 2
  · rw [if_pos h2, decide_eq_true (Or.inl h2)]
    rfl
  · rw [if_neg h2]
    by_cases h1 : I t 5 = 1
    · rw [if_pos h1]
      by_cases hle : I t 7 ≤ I t 6
      · rw [if_pos hle, decide_eq_false (fun q => q.elim h2 (fun z => Int32.not_lt.mpr hle z.2))]
        rfl
      · rw [if_neg hle, decide_eq_true (Or.inr ⟨h1, Int32.not_le.mp hle⟩)]
        rfl
    · rw [if_neg h1, decide_eq_false (fun q => q.elim h2 (fun z => h1 z.1))]
      rfl
theorem s_solve53 {I : ek_St} {π : Nat → Nat} {n : Nat} {c s l f : Nat → Nat} {ph : Nat → Int32} {p : Nat → Bool} {v : Rat} (hR : XR I π n) (hD : XD I π n c s l f ph) (hp : ∀ k, k < n → I (tk (π k)) 13 = bI (p k)) (hv : FrQ I 92 v) (hvd : v.den ≤ PB) (L : Nat → Rat) (hL : ∀ k, L k = if p k then lo' c l k else hi' c s k - v * sf' f k) (hlo : ∀ k, k < n → cnt ph k → p k = false → lo' c l k ≤ hi' c s k - v * sf' f k) (S : Nat → Int32) (hS : ∀ k, k < n → S k = if cnt ph k then nI (perN (c k) (L k)) else I (tk (π k)) 7) :
    ∃ I', fKe_solve_53 kX I 1 = some I' ∧ (I' 2 = I 2 ∧ I' 3 = I 3 ∧ I' 79 = I 79 ∧ I' 81 = I 81) ∧ (∀ k j, k < n → j ≠ 7 → I' (tk (π k)) j = I (tk (π k)) j) ∧ (∀ k, k < n → I' (tk (π k)) 7 = S k) ∧ (∀ k, k < n → cnt ph k → FrQ I' (tk (π k) + 1) (L k)) ∧ (∀ j, j ≠ 6 → I' 1 j = I 1 j) ∧ I' 1 6 = inst ph (fun k => I (tk (π k)) 6) S (fun k => I (tk (π k)) 8) (mx (I 1 6) (I 1 2)) n := by
  have hn := hR.1
  have hπ : ∀ j, j < 12 → π j < 12 := fun j hj => (hR.2.2.1 j hj).1
  have hinj := hR.2.2.2
  have etk : ∀ i, tk i = 4 + 6 * i := fun _ => rfl
  generalize hx : mx (I 1 6) (I 1 2) = x
  simp only [fKe_solve_53, ck_t k1, let_e]
  have hx' : (if I 1 6 < I 1 2 then I 1 2 else I 1 6) = x := hx
  rw [hx']
  generalize hPer : (fun k => I (tk (π k)) 6) = per
  generalize hEn : (fun k => I (tk (π k)) 8) = en
  refine lp_for (fun i q => ∃ I', q = (I', 1, nI i) ∧ (I' 2 = I 2 ∧ I' 3 = I 3 ∧ I' 79 = I 79 ∧ I' 81 = I 81 ∧ I' 94 = I 94 ∧ I' 96 = I 96) ∧ (∀ k j, k < n → j ≠ 7 → I' (tk (π k)) j = I (tk (π k)) j) ∧ (∀ k, k < i → I' (tk (π k)) 7 = S k) ∧ (∀ k, i ≤ k → k < n → I' (tk (π k)) 7 = I (tk (π k)) 7) ∧ (∀ k, k < i → cnt ph k → FrQ I' (tk (π k) + 1) (L k)) ∧ (∀ j, j ≠ 6 → I' 1 j = I 1 j) ∧ I' 1 6 = inst ph per S en x i) _ n ⟨ek_up I 1 6 x, rfl, ⟨ek_up_ne (by decide), ek_up_ne (by decide), ek_up_ne (by decide), ek_up_ne (by decide), ek_up_ne (by decide), ek_up_ne (by decide)⟩, fun k j _ _ => by rw [ek_up_ne (by have := etk (π k); omega)], fun k hk => absurd hk (by omega), fun k _ _ => by rw [ek_up_ne (by have := etk (π k); omega)], fun k hk => absurd hk (by omega), fun j hj => up_ne (fun q => hj q.2), up_same⟩ ?_ ?_ (by omega)
  · rintro kk i q hi ⟨I2, rfl, ⟨w1, w2, w3, w4, w5, w6⟩, q1, q2, q3, q4, q5, q6⟩ hkk
    have hi12 : i < 12 := by omega
    have hR2 : XR I2 π n := hR.keep w1 w2
    have hπi := hπ i hi12
    have hk6 := (kX_tk _ hπi).1
    have hd := hD i hi
    have hph : I2 (tk (π i)) 5 = ph i := by rw [q1 i 5 hi (by decide)]; exact hd.1.2.2.2.2
    have hsol := s_isSolved (I := I2) (t := tk (π i)) (p := ph i) hk6 hph
    -- the second half of a turn
    have half : ∀ I3 : ek_St, (I3 2 = I 2 ∧ I3 3 = I 3 ∧ I3 79 = I 79 ∧ I3 81 = I 81 ∧ I3 94 = I 94 ∧ I3 96 = I 96) → (∀ k j, k < n → j ≠ 7 → I3 (tk (π k)) j = I (tk (π k)) j) → (∀ k, k < i + 1 → I3 (tk (π k)) 7 = S k) → (∀ k, i + 1 ≤ k → k < n → I3 (tk (π k)) 7 = I (tk (π k)) 7) → (∀ k, k < i + 1 → cnt ph k → FrQ I3 (tk (π k) + 1) (L k)) → I3 1 = I2 1 →
        ∃ r, fKe_solve_106 kX kk I3 1 (nI i) (tk (π i)) = some r ∧ (r 2 = I 2 ∧ r 3 = I 3 ∧ r 79 = I 79 ∧ r 81 = I 81) ∧ (∀ k j, k < n → j ≠ 7 → r (tk (π k)) j = I (tk (π k)) j) ∧ (∀ k, k < n → r (tk (π k)) 7 = S k) ∧ (∀ k, k < n → cnt ph k → FrQ r (tk (π k) + 1) (L k)) ∧ (∀ j, j ≠ 6 → r 1 j = I 1 j) ∧ r 1 6 = inst ph per S en x n := by
      intro I3 v1 v2 v3 v4 v5 v6
      have e5 : I3 (tk (π i)) 5 = ph i := by rw [v2 i 5 hi (by decide)]; exact hd.1.2.2.2.2
      have e6 : I3 (tk (π i)) 6 = per i := by rw [v2 i 6 hi (by decide), ← hPer]
      have e7 : I3 (tk (π i)) 7 = S i := v3 i (by omega)
      have e8 : I3 (tk (π i)) 8 = en i := by rw [v2 i 8 hi (by decide), ← hEn]
      have hh := s_holds (I := I3) hk6
      rw [e5, e6, e7] at hh
      have e16 : I3 1 6 = inst ph per S en x i := by rw [v6]; exact q6
      have estep : inst ph per S en x (i + 1) = if ph i = 2 ∨ (ph i = 1 ∧ per i < S i) then mx (inst ph per S en x i) (en i) else inst ph per S en x i := rfl
      simp only [fKe_solve_106, ck_t hk6, hh, bi_s, fKe_solve_128, let_e, ck_t k1, e16, e8]
      by_cases hc : ph i = 2 ∨ (ph i = 1 ∧ per i < S i)
      · rw [decide_eq_true hc, if_neg (by decide)]
        have emx : (if inst ph per S en x i < en i then en i else inst ph per S en x i) = inst ph per S en x (i + 1) := by rw [estep, if_pos hc]; rfl
        rw [emx]
        refine hkk _ ⟨ek_up I3 1 6 (inst ph per S en x (i + 1)), by rw [nI_succ], ⟨?_, ?_, ?_, ?_, ?_, ?_⟩, fun k j hk hj => ?_, fun k hk => ?_, fun k h1 h2 => ?_, fun k hk hck => ?_, fun j hj => ?_, up_same⟩
        · rw [ek_up_ne (by decide)]; exact v1.1
        · rw [ek_up_ne (by decide)]; exact v1.2.1
        · rw [ek_up_ne (by decide)]; exact v1.2.2.1
        · rw [ek_up_ne (by decide)]; exact v1.2.2.2.1
        · rw [ek_up_ne (by decide)]; exact v1.2.2.2.2.1
        · rw [ek_up_ne (by decide)]; exact v1.2.2.2.2.2
        · rw [ek_up_ne (by have := etk (π k); omega)]; exact v2 k j hk hj
        · rw [ek_up_ne (by have := etk (π k); omega)]; exact v3 k hk
        · rw [ek_up_ne (by have := etk (π k); omega)]; exact v4 k h1 h2
        · exact (v5 k hk hck).keep (ek_up_ne (by have := etk (π k); omega)) (ek_up_ne (by have := etk (π k); omega))
        · rw [up_ne (fun q => hj q.2), v6]; exact q5 j hj
      · rw [decide_eq_false hc, if_pos (by decide)]
        refine hkk _ ⟨I3, by rw [nI_succ], v1, v2, v3, v4, v5, fun j hj => by rw [v6]; exact q5 j hj, ?_⟩
        rw [estep, if_neg hc]
        exact e16
    have hge : ¬ I2 (1 + 1) 1 ≤ nI i := hR2.ge hi
    have hrow : (I2 (1 + 1 + 1) i).toNatClampNeg = tk (π i) := hR2.row hi12
    simp only [fKe_solve_70, ck_t k1, ck_t k11, if_neg hge, ck_t k111, ck_t (in12 hi12), cl12 hi12, hrow, let_e, ck_t hk6, hsol, bi_s]
    by_cases hc : ph i = 2
    · rw [hc, if_pos (by decide)]
      refine half I2 ⟨w1, w2, w3, w4, w5, w6⟩ q1 (fun k hk => ?_) (fun k h1 h2 => q3 k (by omega) h2) (fun k hk hck => ?_) rfl
      · by_cases e : k = i
        · subst e
          rw [q3 k (Nat.le_refl _) hi, hS k hi, if_neg (fun q => q hc)]
        · exact q2 k (by omega)
      · by_cases e : k = i
        · subst e
          exact absurd hc hck
        · exact q4 k (by omega) hck
    · have hbb : bI (decide (ph i ≠ 2)) = 1 := by simp [bI, hc]
      rw [hbb, if_neg (by decide)]
      have r1 : I2 (tk (π i)) 1 = nI (c i) := by rw [q1 i 1 hi (by decide)]; exact hd.1.1
      have r2 : I2 (tk (π i)) 2 = nI (s i) := by rw [q1 i 2 hi (by decide)]; exact hd.1.2.1
      have r3 : I2 (tk (π i)) 3 = nI (l i) := by rw [q1 i 3 hi (by decide)]; exact hd.1.2.2.1
      have r4 : I2 (tk (π i)) 4 = nI (f i) := by rw [q1 i 4 hi (by decide)]; exact hd.1.2.2.2.1
      have r13 : I2 (tk (π i)) 13 = bI (p i) := by rw [q1 i 13 hi (by decide)]; exact hp i hi
      have hv2 : FrQ I2 92 v := hv.keep w5 w6
      obtain ⟨I3, e3, g1, g2, g3, g4⟩ := s_setLoad (I := I2) (t := π i) (c := c i) (s := s i) (l := l i) (f := f i) (v := v) (p := p i) hπi r1 r2 r3 r4 r13 hd.2.1 hd.2.2.1 hd.2.2.2.1 hd.2.2.2.2.1 hd.2.2.2.2.2.1 hd.2.2.2.2.2.2 hv2 hvd (fun h => hlo i hi hc h)
      have eL : (if p i then mkRat ((c i : Nat) : Int) (l i) else mkRat (c i) (s i) - v * mkRat (1 : Nat) (f i)) = L i := (hL i).symm
      rw [eL] at g1 g2
      have e3' : fSp_setLoad kX I2 (1 + 75) (tk (π i)) = some I3 := e3
      simp only [ck_t k75, e3', bv_s]
      have ne : ∀ k, k < n → k ≠ i → π k ≠ π i := fun k hk hne q => hne (hinj k i (by omega) hi12 q)
      have far : ∀ z, z = 2 ∨ z = 3 ∨ z = 79 ∨ z = 81 ∨ z = 94 ∨ z = 96 ∨ z = 1 → I3 z = I2 z := by
        intro z hz
        refine g4 z ?_ ?_ ?_ ?_
        · have := etk (π i); omega
        · have := etk (π i); omega
        · have := etk (π i); omega
        · simp; omega
      have far2 : ∀ k, k < n → k ≠ i → I3 (tk (π k)) = I2 (tk (π k)) ∧ I3 (tk (π k) + 1 + 1 + 1) = I2 (tk (π k) + 1 + 1 + 1) ∧ I3 (tk (π k) + 1 + 3 + 1) = I2 (tk (π k) + 1 + 3 + 1) := by
        intro k hk hne
        have h1 := ne k hk hne
        have h2 := hπ k (by omega)
        have h3 := etk (π k)
        have h4 := etk (π i)
        refine ⟨g4 _ (by omega) (by omega) (by omega) (by simp; omega), g4 _ (by omega) (by omega) (by omega) (by simp; omega), g4 _ (by omega) (by omega) (by omega) (by simp; omega)⟩
      refine half I3 ⟨?_, ?_, ?_, ?_, ?_, ?_⟩ (fun k j hk hj => ?_) (fun k hk => ?_) (fun k h1 h2 => ?_) (fun k hk hck => ?_) (far 1 (by decide))
      · rw [far 2 (by decide)]; exact w1
      · rw [far 3 (by decide)]; exact w2
      · rw [far 79 (by decide)]; exact w3
      · rw [far 81 (by decide)]; exact w4
      · rw [far 94 (by decide)]; exact w5
      · rw [far 96 (by decide)]; exact w6
      · by_cases e : k = i
        · subst e
          rw [g3 j hj]
          exact q1 k j hk hj
        · rw [(far2 k hk e).1]
          exact q1 k j hk hj
      · by_cases e : k = i
        · subst e
          rw [g2, hS k hi, if_pos hc]
        · rw [(far2 k (by omega) e).1]
          exact q2 k (by omega)
      · rw [(far2 k h2 (by omega)).1]
        exact q3 k (by omega) h2
      · by_cases e : k = i
        · subst e
          exact g1
        · exact (q4 k (by omega) hck).keep (far2 k (by omega) e).2.1 (far2 k (by omega) e).2.2
  · rintro kk q ⟨I2, rfl, ⟨w1, w2, w3, w4, w5, w6⟩, q1, q2, q3, q4, q5, q6⟩
    have hR2 : XR I2 π n := hR.keep w1 w2
    have hle : I2 (1 + 1) 1 ≤ nI n := hR2.le
    simp only [fKe_solve_70, ck_t k1, ck_t k11, if_pos hle]
    exact ⟨I2, rfl, ⟨w1, w2, w3, w4⟩, q1, fun k hk => q2 k hk, fun k hk hc => q4 k hk hc, q5, q6⟩
