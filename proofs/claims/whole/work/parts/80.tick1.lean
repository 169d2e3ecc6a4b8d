/-! TICK: the one state's steps -/
abbrev AS : Type := Nat × (Nat → Nat → Int32) × (Nat → Rat) × (Nat → Int32)
abbrev RXA (I : ek_St) (π : Nat → Nat) (q : AS) (t : Rat) : Prop := RX I π q.1 q.2.1 q.2.2.1 t q.2.2.2 (fun _ => False)
abbrev RMA (I : ek_St) (q : AS) (t : Rat) : Prop := RM I q.1 q.2.1 q.2.2.1 t q.2.2.2 (fun _ => False)
def lateG (G : Nat → Int32) (x : Int32) : Nat → Int32 := gset G 2 (G 2 + (if x ≤ 0 then 0 else 1))
def rset (F : Nat → Nat → Int32) (p : Nat) (x : Nat → Int32) (k : Nat) : Nat → Int32 := if k = p then x else F k
def dm1 (k : Nat) (q : AS) : AS := if q.2.1 k 5 = 2 ∧ q.2.1 k 8 = q.2.2.2 0 then (q.1 - 1, del k q.2.1, del k q.2.2.1, lateG q.2.2.2 (q.2.1 k 9)) else q
def dm : Nat → AS → AS
  | 0, q => q
  | i + 1, q => dm i (dm1 i q)
def perR (x : Nat → Int32) (cl it : Int32) : Int32 := if cl < it ∧ x 7 ≤ x 6 then x 6 else x 7
def ndR (x : Nat → Int32) : Int32 := if x 10 = -1 then x 1 else x 10
def relR (x : Nat → Int32) (cl it : Int32) (j : Nat) : Int32 := if j = 5 then 1 else if j = 6 then perR x cl it else if j = 8 then cl + perR x cl it else if j = 9 then ndR x else if j = 10 then -1 else if j = 11 then (if ndR x = 0 then x 11 + 1 else x 11) else if j = 12 then (if ndR x = 0 then cl else x 12) else x j
def rl1 (k : Nat) (q : AS) : AS := if (q.2.1 k 5 = 0 ∧ ¬ q.2.2.2 0 < q.2.2.2 4) ∨ (q.2.1 k 5 = 1 ∧ q.2.1 k 8 = q.2.2.2 0) then (q.1, rset q.2.1 k (relR (q.2.1 k) (q.2.2.2 0) (q.2.2.2 4)), q.2.2.1, lateG q.2.2.2 (q.2.1 k 9)) else q
def rl : Nat → Nat → AS → AS
  | 0, _, q => q
  | m + 1, k, q => rl m (k + 1) (rl1 k q)
def bg (q : AS) : AS := rl (dm q.1 q).1 0 (dm q.1 q)
def bst (F : Nat → Nat → Int32) : Nat → Option Nat
  | 0 => none
  | k + 1 => if F k 9 ≤ 0 then bst F k else match bst F k with
    | none => some k
    | some b => if F b 8 ≤ F k 8 then some b else some k
def wkR (x : Nat → Int32) (m cl : Int32) (j : Nat) : Int32 := if j = 9 then x 9 - m else if j = 11 then (if x 9 - m = 0 then x 11 + 1 else x 11) else if j = 12 then (if x 9 - m = 0 then cl else x 12) else x j
/-- m ticks of the one that runs -/
def run (m : Int32) (q : AS) : AS := match bst q.2.1 q.1 with
  | none => (q.1, q.2.1, q.2.2.1, gset q.2.2.2 0 (q.2.2.2 0 + m))
  | some b => (q.1, rset q.2.1 b (wkR (q.2.1 b) m (q.2.2.2 0 + m)), q.2.2.1, gset q.2.2.2 0 (q.2.2.2 0 + m))
def ansR (q : AS) : Int32 := match bst q.2.1 q.1 with
  | none => 0
  | some b => q.2.1 b 0
theorem bst_lt {F : Nat → Nat → Int32} : ∀ n b, bst F n = some b → b < n ∧ ¬ F b 9 ≤ 0
  | 0, b, h => by cases h
  | n + 1, b, h => by
    unfold bst at h
    by_cases q : F n 9 ≤ 0
    · rw [if_pos q] at h
      have := bst_lt n b h
      exact ⟨by omega, this.2⟩
    · rw [if_neg q] at h
      cases hb : bst F n with
      | none =>
        rw [hb] at h
        cases h
        exact ⟨by omega, q⟩
      | some a =>
        rw [hb] at h
        simp only at h
        by_cases q2 : F a 8 ≤ F n 8
        · rw [if_pos q2] at h
          cases h
          have := bst_lt n b hb
          exact ⟨by omega, this.2⟩
        · rw [if_neg q2] at h
          cases h
          exact ⟨by omega, q⟩
/-! the class's parts -/
theorem RX.row {I I' : ek_St} {π : Nat → Nat} {n p : Nat} {F : Nat → Nat → Int32} {L : Nat → Rat} {t : Rat} {G : Nat → Int32} {E : Nat → Prop} (h : RX I π n F L t G E) (hp : p < n) (x : Nat → Int32) (hx : ∀ j, j < 13 → j ≠ 7 → I' (tk (π p)) j = x j) (h7 : I' (tk (π p)) 7 = I (tk (π p)) 7) (hx7 : x 7 = F p 7) (h5 : x 5 = 2 ∨ F p 5 ≠ 2) (hz : ∀ z, z ≠ tk (π p) → I' z = I z) : RX I' π n (rset F p x) L t G E := by
  have hn := h.1.1
  have etk : ∀ i, tk i = 4 + 6 * i := fun _ => rfl
  have hπ : ∀ k, k < n → π k < 12 := fun k hk => (h.1.2.2.1 k (by omega)).1
  have far : ∀ k, k < n → k ≠ p → I' (tk (π k)) = I (tk (π k)) := fun k hk hne => hz _ (fun q => hne (h.1.2.2.2 k p (by omega) (by omega) (tk_inj q)))
  refine ⟨h.1.keep (hz 2 (by have := etk (π p); omega)) (hz 3 (by have := etk (π p); omega)), fun k j hk hj hj7 => ?_, fun k hk hE hc => ?_, h.2.2.2.1.keep (hz _ (by have := etk (π p); have := hπ p hp; omega)) (hz _ (by have := etk (π p); have := hπ p hp; omega)), fun i hi => by rw [hz 1 (by have := etk (π p); omega)]; exact h.2.2.2.2 i hi⟩
  · unfold rset
    by_cases q : k = p
    · rw [if_pos q, q]
      exact hx j hj hj7
    · rw [if_neg q, far k hk q]
      exact h.2.1 k j hk hj hj7
  · have hc' : F k 5 ≠ 2 := by
      unfold rset at hc
      by_cases q : k = p
      · rw [if_pos q] at hc
        rw [q]
        rcases h5 with z | z
        · exact absurd z hc
        · exact z
      · rw [if_neg q] at hc
        exact hc
    obtain ⟨a, b⟩ := h.2.2.1 k hk hE hc'
    refine ⟨?_, b.keep (hz _ (by have := etk (π p); have := etk (π k); omega)) (hz _ (by have := etk (π p); have := etk (π k); omega))⟩
    unfold rset
    by_cases q : k = p
    · rw [if_pos q, q, h7, hx7, ← q]
      exact a
    · rw [if_neg q, far k hk q]
      exact a
theorem gset_same {G : Nat → Int32} {j : Nat} : gset G j (G j) = G := by
  funext i
  unfold gset
  split
  · rename_i h; rw [h]
  · rfl
theorem s_late {I : ek_St} {π : Nat → Nat} {n p : Nat} {F : Nat → Nat → Int32} {L : Nat → Rat} {t : Rat} {G : Nat → Int32} {E : Nat → Prop} (h : RX I π n F L t G E) (hp : p < n) : ∃ I', fKe_countIfLate kX I 1 (tk (π p)) = some I' ∧ RX I' π n F L t (lateG G (F p 9)) E := by
  have hn := h.1.1
  have hk6 := (kX_tk _ (h.1.2.2.1 p (by omega)).1).1
  have e9 : I (tk (π p)) 9 = F p 9 := h.2.1 p 9 hp (by decide) (by decide)
  have e4 : I 1 4 = G 2 := h.2.2.2.2 2 (by decide)
  simp only [fKe_countIfLate, fKe_countIfLate_0, ck_t hk6, e9, ck_t k1, let_e, e4]
  unfold lateG
  by_cases q : F p 9 ≤ 0
  · rw [if_pos q, if_pos q, Int32.add_zero, gset_same]
    exact ⟨I, rfl, h⟩
  · rw [if_neg q, if_neg q]
    exact ⟨_, rfl, h.g 2 _⟩
theorem s_finish {I : ek_St} {t : Nat} {now : Int32} (hk : kX t = 6) : fTa_finish kX I t now = some (ek_up (ek_up I t 11 (I t 11 + 1)) t 12 now) := by
  simp only [fTa_finish, fTa_finish_0, ck_t hk, let_e]
theorem s_release {I : ek_St} {t : Nat} {cl it : Int32} (hk : kX t = 6) : ∃ I', fTa_release kX I t cl (if cl < it then 0 else 1) = some I' ∧ (∀ j, I' t j = relR (I t) cl it j) ∧ ∀ z, z ≠ t → I' z = I z := by
  have last : ∀ (I1 : ek_St), I1 t 6 = perR (I t) cl it → (∀ j, j ≠ 6 → I1 t j = I t j) → (∀ z, z ≠ t → I1 z = I z) → ∃ I', fTa_release_23 kX I1 t cl = some I' ∧ (∀ j, I' t j = relR (I t) cl it j) ∧ ∀ z, z ≠ t → I' z = I z := by
    intro I1 h6 hj hz
    generalize hI2 : ek_up I1 t 5 1 = I2
    have i2 : ∀ j, I2 t j = if j = 5 then 1 else I1 t j := fun j => by
      rw [← hI2]
      by_cases q : j = 5
      · rw [if_pos q, q]; exact up_same
      · rw [if_neg q, up_ne (fun z => q z.2)]
    have e26 : I2 t 6 = perR (I t) cl it := by rw [i2, if_neg (by decide)]; exact h6
    simp only [fTa_release_23, ck_t hk, let_e, hI2, e26]
    generalize hI3 : ek_up I2 t 8 (cl + perR (I t) cl it) = I3
    have i3 : ∀ j, I3 t j = if j = 8 then cl + perR (I t) cl it else I2 t j := fun j => by
      rw [← hI3]
      by_cases q : j = 8
      · rw [if_pos q, q]; exact up_same
      · rw [if_neg q, up_ne (fun z => q z.2)]
    have e10 : I3 t 10 = I t 10 := by rw [i3, if_neg (by decide), i2, if_neg (by decide)]; exact hj 10 (by decide)
    have e1 : I3 t 1 = I t 1 := by rw [i3, if_neg (by decide), i2, if_neg (by decide)]; exact hj 1 (by decide)
    have tail : ∀ nd, nd = ndR (I t) → ∃ I', fTa_release_58 kX I3 t cl t nd = some I' ∧ (∀ j, I' t j = relR (I t) cl it j) ∧ ∀ z, z ≠ t → I' z = I z := by
      intro nd hnd
      generalize hI5 : ek_up (ek_up I3 t 9 nd) t 10 (-1) = I5
      have i5 : ∀ j, I5 t j = if j = 10 then -1 else if j = 9 then nd else I3 t j := fun j => by
        rw [← hI5]
        by_cases q : j = 10
        · rw [if_pos q, q]; exact up_same
        · rw [if_neg q, up_ne (fun z => q z.2)]
          by_cases q2 : j = 9
          · rw [if_pos q2, q2]; exact up_same
          · rw [if_neg q2, up_ne (fun z => q2 z.2)]
      have z5 : ∀ z, z ≠ t → I5 z = I z := fun z hz' => by rw [← hI5, ek_up_ne hz', ek_up_ne hz', ← hI3, ek_up_ne hz', ← hI2, ek_up_ne hz']; exact hz z hz'
      have e9 : I5 t 9 = nd := by rw [i5, if_neg (by decide), if_pos rfl]
      have base : ∀ j, I5 t j = if j = 5 then 1 else if j = 6 then perR (I t) cl it else if j = 8 then cl + perR (I t) cl it else if j = 9 then ndR (I t) else if j = 10 then -1 else I t j := by
        intro j
        rw [i5, i3, i2, ← hnd]
        by_cases q5 : j = 5
        · subst q5; rfl
        · by_cases q6 : j = 6
          · subst q6; exact h6
          · by_cases q8 : j = 8
            · subst q8; rfl
            · by_cases q9 : j = 9
              · subst q9; rfl
              · by_cases q10 : j = 10
                · subst q10; rfl
                · rw [if_neg q10, if_neg q9, if_neg q8, if_neg q5, if_neg q5, if_neg q6, if_neg q8, if_neg q9, if_neg q10]
                  exact hj j q6
      simp only [fTa_release_58, ck_t hk, let_e, hI5, e9, s_finish hk, bv_s]
      by_cases q : nd = 0
      · rw [if_pos q]
        refine ⟨_, rfl, fun j => ?_, fun z hz' => by rw [ek_up_ne hz', ek_up_ne hz']; exact z5 z hz'⟩
        unfold relR
        by_cases q12 : j = 12
        · subst q12
          rw [up_same]
          have q' : ndR (I t) = 0 := by rw [← hnd]; exact q
          simp [q']
        · rw [up_ne (fun z => q12 z.2)]
          by_cases q11 : j = 11
          · subst q11
            have q' : ndR (I t) = 0 := by rw [← hnd]; exact q
            rw [up_same, base 11]
            simp [q']
          · rw [up_ne (fun z => q11 z.2), base j, if_neg q11, if_neg q12]
      · rw [if_neg q]
        refine ⟨_, rfl, fun j => ?_, z5⟩
        have q' : ¬ ndR (I t) = 0 := by rw [← hnd]; exact q
        rw [base j]
        unfold relR
        rw [if_neg q', if_neg q']
        by_cases q11 : j = 11
        · subst q11; rfl
        · by_cases q12 : j = 12
          · subst q12; rfl
          · rw [if_neg q11, if_neg q12]
    rw [e10]
    by_cases q : I t 10 = -1
    · rw [if_pos q]
      exact tail _ (by rw [e1]; unfold ndR; rw [if_pos q])
    · rw [if_neg q]
      exact tail _ (by unfold ndR; rw [if_neg q])
  have s15 : perR (I t) cl it = I t 7 → ∃ I', fTa_release_15 kX I t cl = some I' ∧ (∀ j, I' t j = relR (I t) cl it j) ∧ ∀ z, z ≠ t → I' z = I z := by
    intro hp
    simp only [fTa_release_15, ck_t hk, let_e]
    exact last _ (by rw [up_same, hp]) (fun j hj => up_ne (fun z => hj z.2)) (fun z hz => ek_up_ne hz)
  simp only [fTa_release, fTa_release_0]
  by_cases h : cl < it
  · rw [if_pos h, if_pos rfl]
    simp only [ck_t hk]
    by_cases h2 : I t 7 ≤ I t 6
    · rw [if_pos h2]
      exact last I (by unfold perR; rw [if_pos ⟨h, h2⟩]) (fun _ _ => rfl) (fun _ _ => rfl)
    · rw [if_neg h2]
      exact s15 (by unfold perR; rw [if_neg (fun z => h2 z.2)])
  · rw [if_neg h, if_neg (by decide)]
    exact s15 (by unfold perR; rw [if_neg (fun z => h z.1)])
