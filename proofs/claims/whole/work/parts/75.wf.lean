/-! WHAT HOLDS BETWEEN CALLS -/
def DY (x : Nat → Int32) (B : Nat) : Prop := (x 5 = 0 ∨ x 5 = 1 ∨ x 5 = 2) ∧ (∃ e, x 8 = nI e ∧ e ≤ B + 20000) ∧ (∃ m, x 9 = nI m ∧ m ≤ 20000) ∧ (∃ q, x 6 = nI q ∧ q ≤ 20000) ∧ (x 10 = -1 ∨ ∃ m, x 10 = nI m ∧ m ≤ 20000) ∧ (x 5 = 0 → x 6 = 0 ∧ x 8 = 0) ∧ (x 5 ≠ 2 → ∃ q, x 7 = nI q ∧ q ≤ 20000)
/-- about the tasks alone -/
def WT (n : Nat) (F : Nat → Nat → Int32) (B : Nat) : Prop := TF n F ∧ (∀ k, k < n → 0 < F k 0) ∧ (∀ i j, i < j → j < n → F i 0 < F j 0) ∧ ∀ k, k < n → DY (F k) B
def WG (n : Nat) (F : Nat → Nat → Int32) (t : Rat) (G : Nat → Int32) (B : Nat) : Prop := (∃ th, G 1 = nI th ∧ 1 ≤ th ∧ th ≤ 1000 ∧ rs (lo' (cF F) (lF F)) n ≤ mkRat th 1000) ∧ (t ≤ 1 ∧ t.den ≤ 20000 ^ 12) ∧ (∃ cl, G 0 = nI cl ∧ cl ≤ B) ∧ ∃ it, G 4 = nI it ∧ it ≤ B + 20000
def ST (Ix Im : ek_St) (B : Nat) : Prop := ∃ π n F L t G, RX Ix π n F L t G (fun _ => False) ∧ RM Im n F L t G (fun _ => False) ∧ WT n F B ∧ WG n F t G B
def OK (kd : Nat → Nat) (x m : Option (ek_St × Int32)) (B : Nat) : Prop := ∃ Ix Im r, x = some (Ix, r) ∧ m = some (Im, r) ∧ ST Ix Im B
def gset (G : Nat → Int32) (j : Nat) (v : Int32) (i : Nat) : Int32 := if i = j then v else G i
theorem tkb {i : Nat} (h : i < 12) : tk i + 1 + 1 + 1 < 76 ∧ tk i + 1 + 3 + 1 < 76 ∧ tk i < 76 ∧ 4 ≤ tk i := by
  have : tk i = 4 + 6 * i := rfl
  omega
theorem RX.far {I I' : ek_St} {π : Nat → Nat} {n : Nat} {F : Nat → Nat → Int32} {L : Nat → Rat} {t : Rat} {G : Nat → Int32} {E : Nat → Prop} (h : RX I π n F L t G E) (e : ∀ z, z < 76 → I' z = I z) (e1 : I' 79 = I 79) (e2 : I' 81 = I 81) : RX I' π n F L t G E := by
  have hn := h.1.1
  have hπ : ∀ k, k < n → π k < 12 := fun k hk => (h.1.2.2.1 k (by omega)).1
  refine ⟨h.1.keep (e 2 (by decide)) (e 3 (by decide)), fun k j hk hj h7 => ?_, fun k hk hE h5 => ?_, h.2.2.2.1.keep e1 e2, fun j hj => ?_⟩
  · rw [e _ (tkb (hπ k hk)).2.2.1]
    exact h.2.1 k j hk hj h7
  · obtain ⟨a, b⟩ := h.2.2.1 k hk hE h5
    exact ⟨by rw [e _ (tkb (hπ k hk)).2.2.1]; exact a, b.keep (e _ (tkb (hπ k hk)).1) (e _ (tkb (hπ k hk)).2.1)⟩
  · rw [e 1 (by decide)]
    exact h.2.2.2.2 j hj
theorem RX.g {I : ek_St} {π : Nat → Nat} {n : Nat} {F : Nat → Nat → Int32} {L : Nat → Rat} {t : Rat} {G : Nat → Int32} {E : Nat → Prop} (h : RX I π n F L t G E) (j : Nat) (v : Int32) : RX (ek_up I 1 (2 + j) v) π n F L t (gset G j v) E := by
  have hn := h.1.1
  have ez : ∀ z, z ≠ 1 → ek_up I 1 (2 + j) v z = I z := fun z hz => ek_up_ne hz
  have etk : ∀ i, tk i = 4 + 6 * i := fun _ => rfl
  refine ⟨h.1.keep (ez 2 (by decide)) (ez 3 (by decide)), fun k i hk hi h7 => ?_, fun k hk hE h5 => ?_, h.2.2.2.1.keep (ez _ (by decide)) (ez _ (by decide)), fun i hi => ?_⟩
  · rw [ez _ (by have := etk (π k); omega)]
    exact h.2.1 k i hk hi h7
  · obtain ⟨a, b⟩ := h.2.2.1 k hk hE h5
    exact ⟨by rw [ez _ (by have := etk (π k); omega)]; exact a, b.keep (ez _ (by have := etk (π k); omega)) (ez _ (by have := etk (π k); omega))⟩
  · unfold gset
    by_cases q : i = j
    · subst q
      rw [if_pos rfl]
      exact up_same
    · rw [if_neg q, up_ne (by omega)]
      exact h.2.2.2.2 i hi
theorem RM.mf {I I' : ek_St} {n : Nat} {F : Nat → Nat → Int32} {L : Nat → Rat} {t : Rat} {G : Nat → Int32} {E : Nat → Prop} {S : List Nat} (h : RM I n F L t G E) (m : MF I I' 1 S) (hS : ∀ z, z ∈ S → 26 ≤ z) : RM I' n F L t G E := by
  obtain ⟨h1, h2, h3, h4, h5, h6, h7, h8⟩ := h
  have hn := h1.1
  have nin : ∀ z, z < 26 → z ∉ S := fun z hz q => by have := hS z q; omega
  refine ⟨⟨h1.1, by rw [m.2 1 (by decide)]; exact h1.2⟩, fun k j hk hj h7' => by rw [m.2 _ (by omega)]; exact h2 k j hk hj h7', fun k hk => by rw [m.2 _ (by decide)]; exact h3 k hk, fun k hk hE hc => ?_, h5.mf m (by decide) (nin _ (by decide)) (nin _ (by decide)), h6.mf m (fun z q => by have := hS z q; omega), fun k hk => by rw [m.2 _ (by decide)]; exact h7 k hk, fun j hj => by rw [m.2 1 (by decide)]; exact h8 j hj⟩
  obtain ⟨a, b, c⟩ := h4 k hk hE hc
  rw [m.2 9 (by decide), m.2 16 (by decide)]
  exact ⟨a, b, c.mf m (by omega) (nin _ (by omega)) (nin _ (by omega))⟩
theorem RM.up1 {I : ek_St} {n : Nat} {F : Nat → Nat → Int32} {L : Nat → Rat} {t : Rat} {G : Nat → Int32} {E : Nat → Prop} (h : RM I n F L t G E) (j : Nat) (v : Int32) (hj : j ≠ 7) : RM (ek_up I 1 j v) n F L t (if j = 0 then G else gset G (j - 1) v) E := by
  obtain ⟨h1, h2, h3, h4, h5, h6, h7, h8⟩ := h
  have ez : ∀ z, z ≠ 1 → ek_up I 1 j v z = I z := fun z hz => ek_up_ne hz
  refine ⟨⟨h1.1, by rw [up_ne (by omega)]; exact h1.2⟩, fun k i hk hi h7' => by rw [ez _ (by omega)]; exact h2 k i hk hi h7', fun k hk => by rw [ez _ (by decide)]; exact h3 k hk, fun k hk hE hc => ?_, h5.cell (ez 17 (by decide)), fun m hm => ?_, fun k hk => by rw [ez _ (by decide)]; exact h7 k hk, fun i hi => ?_⟩
  · obtain ⟨a, b, c⟩ := h4 k hk hE hc
    rw [ez 9 (by decide), ez 16 (by decide)]
    exact ⟨a, b, c.cell (ez 17 (by decide))⟩
  · obtain ⟨w, hw⟩ := h6 m hm
    exact ⟨w, Hr.cell hw (ez 17 (by decide))⟩
  · by_cases q0 : j = 0
    · rw [if_pos q0, up_ne (by omega)]
      exact h8 i hi
    · rw [if_neg q0]
      unfold gset
      by_cases q : i = j - 1
      · rw [if_pos q]
        have : 1 + i = j := by omega
        rw [this]
        exact up_same
      · rw [if_neg q, up_ne (by omega)]
        exact h8 i hi
theorem RM.code {I : ek_St} {n : Nat} {F : Nat → Nat → Int32} {L : Nat → Rat} {t : Rat} {G : Nat → Int32} {E : Nat → Prop} (h : RM I n F L t G E) (v : Int32) : RM (ek_up I 1 0 v) n F L t G E := by
  have := h.up1 0 v (by decide)
  rw [if_pos rfl] at this
  exact this
theorem RM.g {I : ek_St} {n : Nat} {F : Nat → Nat → Int32} {L : Nat → Rat} {t : Rat} {G : Nat → Int32} {E : Nat → Prop} (h : RM I n F L t G E) (j : Nat) (v : Int32) (hj : j < 6) : RM (ek_up I 1 (1 + j) v) n F L t (gset G j v) E := by
  have := h.up1 (1 + j) v (by omega)
  rw [if_neg (by omega), show 1 + j - 1 = j by omega] at this
  exact this
/-! sums behind del and ins -/
theorem rs_del {g : Nat → Rat} {p : Nat} : ∀ n, p ≤ n → rs (del p g) n + g p = rs g (n + 1)
  | n, hp => by
    by_cases e : p = n
    · subst e
      rw [rs]
      congr 1
      exact rs_congr p (fun k hk => by unfold del; rw [if_pos hk])
    · cases n with
      | zero => omega
      | succ n =>
        have ih := rs_del (g := g) (p := p) n (by omega)
        have e1 : del p g n = g (n + 1) := by unfold del; rw [if_neg (by omega)]
        show rs (del p g) n + del p g n + g p = rs g (n + 1) + g (n + 1)
        rw [e1, ← ih]
        grind
theorem lo_nn (c l : Nat → Nat) (k : Nat) : 0 ≤ lo' c l k := mk_nn _ _
theorem lo_del (F : Nat → Nat → Int32) (p : Nat) : lo' (cF (del p F)) (lF (del p F)) = del p (lo' (cF F) (lF F)) := by
  funext k
  unfold del
  show mkRat (tn ((if k < p then F k else F (k + 1)) 1)) (tn ((if k < p then F k else F (k + 1)) 3)) = _
  by_cases q : k < p
  · rw [if_pos q, if_pos q]
  · rw [if_neg q, if_neg q]
theorem lo_del_le {F : Nat → Nat → Int32} {p n : Nat} (hp : p < n) : rs (lo' (cF (del p F)) (lF (del p F))) (n - 1) ≤ rs (lo' (cF F) (lF F)) n := by
  rw [lo_del]
  have h := rs_del (g := lo' (cF F) (lF F)) (p := p) (n - 1) (by omega)
  rw [show n - 1 + 1 = n by omega] at h
  have h2 := lo_nn (cF F) (lF F) p
  grind
theorem loS_le (F : Nat → Nat → Int32) (n : Nat) : loS F n ≤ rs (lo' (cF F) (lF F)) n := rs_le n (fun k _ => by
  show (if cnt (pF F) k then _ else _) ≤ lo' (cF F) (lF F) k
  split
  · exact Rat.le_refl
  · exact lo_nn _ _ _)
theorem del_at {α : Type} {p k : Nat} (X : Nat → α) : del p X k = X (if k < p then k else k + 1) := by
  unfold del
  by_cases q : k < p
  · rw [if_pos q, if_pos q]
  · rw [if_neg q, if_neg q]
theorem WT.del {n p B : Nat} {F : Nat → Nat → Int32} (h : WT n F B) (hp : p < n) : WT (n - 1) (del p F) B := by
  have lt : ∀ k, k < n - 1 → (if k < p then k else k + 1) < n := fun k hk => by split <;> omega
  refine ⟨fun k hk => ?_, fun k hk => ?_, fun i j hij hj => ?_, fun k hk => ?_⟩
  · rw [del_at F]; exact h.1 _ (lt k hk)
  · rw [del_at F]; exact h.2.1 _ (lt k hk)
  · rw [del_at F, del_at F]
    refine h.2.2.1 _ _ ?_ (lt j hj)
    split <;> split <;> omega
  · rw [del_at F]; exact h.2.2.2 _ (lt k hk)
/-! a solve keeps it -/
theorem nI_mx {a b : Nat} (ha : a < 2 ^ 31) (hb : b < 2 ^ 31) : mx (nI a) (nI b) = nI (max a b) := by
  unfold mx
  by_cases h : a < b
  · rw [if_pos (nI_lt h hb), Nat.max_eq_right (by omega)]
  · rw [if_neg (nI_nlt (by omega) ha), Nat.max_eq_left (by omega)]
theorem inst_bd {ph per sol en : Nat → Int32} {x : Int32} {M : Nat} (hM : M < 2 ^ 31) (hx : ∃ a, x = nI a ∧ a ≤ M) : ∀ n, (∀ k, k < n → ∃ e, en k = nI e ∧ e ≤ M) → ∃ a, inst ph per sol en x n = nI a ∧ a ≤ M
  | 0, _ => hx
  | n + 1, h => by
    obtain ⟨a, h1, h2⟩ := inst_bd (ph := ph) (per := per) (sol := sol) hM hx n (fun k hk => h k (by omega))
    obtain ⟨e, h3, h4⟩ := h n (by omega)
    show ∃ a, (if ph n = 2 ∨ (ph n = 1 ∧ per n < sol n) then mx (inst ph per sol en x n) (en n) else inst ph per sol en x n) = nI a ∧ a ≤ M
    split
    · rw [h1, h3, nI_mx (by omega) (by omega)]
      exact ⟨_, rfl, Nat.max_le.mpr ⟨h2, h4⟩⟩
    · exact ⟨a, h1, h2⟩
theorem perN_le {c l : Nat} {X : Rat} (hc : 0 < c) (hl : 0 < l) (h : mkRat c l ≤ X) : perN c X ≤ l := by
  have h0 : 0 < mkRat (c : Nat) l := mk_pos hc hl
  have hX : 0 < X := by grind
  rw [perN_spec hX]
  have h7 : mkRat ((c : Nat) : Int) l ≤ mkRat (X.num.toNat : Nat) X.den := by rw [← rat_nd (Rat.le_of_lt hX)]; exact h
  exact (mk_le_iff hl (rat_den_pos X)).mp h7
theorem WT.sol {n B th : Nat} {F : Nat → Nat → Int32} {L : Nat → Rat} {t : Rat} (h : WT n F B) (hS : SPF F n th L t) : WT n (solF F L) B := by
  refine ⟨fun k hk => ?_, fun k hk => ?_, fun i j hij hj => ?_, fun k hk => ?_⟩
  · have h1 := h.1 k hk
    unfold TV at h1 ⊢
    rw [solF_ne (by decide), solF_ne (by decide), solF_ne (by decide), solF_ne (by decide)]
    exact h1
  · rw [solF_ne (by decide)]; exact h.2.1 k hk
  · rw [solF_ne (by decide), solF_ne (by decide)]; exact h.2.2.1 i j hij hj
  · have h1 := h.2.2.2 k hk
    have h2 := h.1 k hk
    unfold DY at h1 ⊢
    rw [solF_ne (by decide), solF_ne (by decide), solF_ne (by decide), solF_ne (by decide), solF_ne (by decide)]
    refine ⟨h1.1, h1.2.1, h1.2.2.1, h1.2.2.2.1, h1.2.2.2.2.1, h1.2.2.2.2.2.1, fun h5 => ?_⟩
    rw [solF_7 h5]
    have hlo := (hS.lo h.1.tt hk h5).1
    have hb := h2.2
    exact ⟨_, rfl, Nat.le_trans (perN_le (c := tn (F k 1)) (l := tn (F k 3)) (by omega) (by omega) hlo) hb.2.2.2.1⟩
theorem WG.sol {n B th : Nat} {F : Nat → Nat → Int32} {L : Nat → Rat} {t' : Rat} {G : Nat → Int32} (hB : B ≤ 2000000000) (hT : WT n F B) (hcl : ∃ cl, G 0 = nI cl ∧ cl ≤ B) (hit : ∃ it, G 4 = nI it ∧ it ≤ B + 20000) (hth : G 1 = nI th) (hth1 : 1 ≤ th) (hth2 : th ≤ 1000) (hlo : rs (lo' (cF F) (lF F)) n ≤ mkRat th 1000) (ht1 : t' ≤ 1) (ht2 : t'.den ≤ 20000 ^ 12) : WG n (solF F L) t' (solG (solF F L) G n) B := by
  have cs : cF (solF F L) = cF F := by funext k; show tn (solF F L k 1) = _; rw [solF_ne (by decide)]
  have ls : lF (solF F L) = lF F := by funext k; show tn (solF F L k 3) = _; rw [solF_ne (by decide)]
  refine ⟨⟨th, hth, hth1, hth2, by rw [cs, ls]; exact hlo⟩, ⟨ht1, ht2⟩, hcl, ?_⟩
  obtain ⟨cl, c1, c2⟩ := hcl
  obtain ⟨it, i1, i2⟩ := hit
  show ∃ a, inst _ _ _ _ (mx (G 4) (G 0)) n = nI a ∧ a ≤ B + 20000
  refine inst_bd (by omega) ⟨max it cl, by rw [i1, c1, nI_mx (by omega) (by omega)], Nat.max_le.mpr ⟨i2, by omega⟩⟩ n (fun k hk => ?_)
  rw [solF_ne (by decide)]
  exact (hT.2.2.2 k hk).2.1
/-- a solve of both, from any state but for the newcomer's load -/
theorem j_solve {kd : Nat → Nat} {Ix Im : ek_St} {π : Nat → Nat} {n B th : Nat} {F : Nat → Nat → Int32} {L : Nat → Rat} {t : Rat} {G : Nat → Int32} {E : Nat → Prop} (hM : MK kd) (hB : B ≤ 2000000000) (hX : RX Ix π n F L t G E) (hm : RM Im n F L t G E) (hT : WT n F B) (hcl : ∃ cl, G 0 = nI cl ∧ cl ≤ B) (hit : ∃ it, G 4 = nI it ∧ it ≤ B + 20000) (hth : G 1 = nI th) (hth1 : 1 ≤ th) (hth2 : th ≤ 1000) (hlo : rs (lo' (cF F) (lF F)) n ≤ mkRat th 1000) :
    ∃ Ix' Im', fKe_solve kX Ix 1 = some Ix' ∧ fMo_solve kd Im 1 = some Im' ∧ ST Ix' Im' B ∧ (Ix' 1 6 = Im' 1 5 ∧ Ix' 1 2 = Im' 1 1) := by
  obtain ⟨Ix', L', t', e1, hS, r1, hex, ht1, ht2⟩ := s_solve hX hT.1 hth hth1 hth2 (Rat.le_trans (loS_le F n) hlo)
  obtain ⟨Im', e2, r2, -⟩ := m_solve hM hm hT.1 hth hth1 hth2 hS hex
  refine ⟨Ix', Im', e1, e2, ⟨π, n, _, L', t', _, r1, r2, hT.sol hS, WG.sol hB hT hcl hit hth hth1 hth2 hlo ht1 ht2⟩, ?_, ?_⟩
  · exact (r1.2.2.2.2 4 (by decide)).trans (r2.2.2.2.2.2.2.2 4 (by decide)).symm
  · exact (r1.2.2.2.2 0 (by decide)).trans (r2.2.2.2.2.2.2.2 0 (by decide)).symm
