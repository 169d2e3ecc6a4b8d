/-! at the start both sides agree -/
theorem Hr_zero {I : ek_St} {x o n : Nat} (h : ∀ j, j < n → I x (o + j) = 0) : Hr I x o n 0 := by
  refine ⟨Nat.two_pow_pos _, fun j hj => ?_⟩
  rw [h j hj, dg_0]
  rfl
theorem Hr_one {I : ek_St} {x : Nat} (h : I x = oneF) : Hr I x 0 16 1 := by
  refine ⟨by decide, fun j hj => ?_⟩
  rw [h, Nat.zero_add]
  unfold oneF
  by_cases q : j = 0
  · subst q; rfl
  · rw [if_neg q]
    have : dg 1 j = 0 := dg_big (n := 1) (by decide) (by omega)
    rw [this]
    rfl
theorem st0 : ∃ I', fMo_be kM iM0 1 25 1 = some I' ∧ I' 1 0 = 0 ∧ ST iX I' 0 := by
  obtain ⟨I', e, hH, hF⟩ := t_be (kd := kM) (I := iM0) (x := 1) (k := 25) (v := 1) ⟨rfl, rfl⟩ (by decide) (by decide)
  have h1 : ∀ z, z ≠ 17 → I' z = iM0 z := fun z hz => hF.ne hz
  have hz : ∀ m, m ≠ 25 → Hm I' 1 m 0 := fun m hm => Hr.fm (I := iM0) (Hr_zero (fun j _ => by rw [iM0_0 (by decide)])) hF hm
  refine ⟨I', e, by rw [h1 1 (by decide)]; rfl, fun k => k, 0, fun _ _ => 0, fun _ => 0, 0, fun j => if j = 1 then 1000 else 0, ⟨⟨by decide, rfl, fun j hj => ⟨hj, ?_⟩, fun i j _ _ q => q⟩, fun k j hk => absurd hk (Nat.not_lt_zero _), fun k hk => absurd hk (Nat.not_lt_zero _), ⟨Rat.le_refl, Hr_zero (fun j _ => ?_), Hr_one (iX_b (by decide) (by decide) (by decide))⟩, fun j hj => ?_⟩, ⟨⟨by decide, by rw [h1 1 (by decide)]; rfl⟩, fun k j hk => absurd hk (Nat.not_lt_zero _), fun k hk => absurd hk (Nat.not_lt_zero _), fun k hk => absurd hk (Nat.not_lt_zero _), ⟨0, 1, hz 24 (by decide), hH, by decide, ?_, Nat.zero_le _, by decide⟩, fun m hm => ⟨0, hz m (by omega)⟩, fun k _ => Or.inl (by rw [h1 16 (by decide)]; rfl), fun j hj => ?_⟩, ⟨fun k hk => absurd hk (Nat.not_lt_zero _), fun k hk => absurd hk (Nat.not_lt_zero _), fun i j _ hj => absurd hj (Nat.not_lt_zero _), fun k hk => absurd hk (Nat.not_lt_zero _)⟩, ⟨1000, rfl, by decide, by decide, ?_⟩, ⟨by decide, by decide⟩, ⟨0, rfl, by decide⟩, 0, rfl, by decide⟩
  · show iX 3 j = nI (4 + 6 * j)
    rw [iX_3]
    unfold rwF
    rw [if_pos hj]
  · show iX 79 _ = 0
    rw [iX_0 (by decide) (by decide) (by decide)]
  · match j, hj with
    | 0, _ => rfl
    | 1, _ => rfl
    | 2, _ => rfl
    | 3, _ => rfl
    | 4, _ => rfl
    | 5, _ => rfl
    | j + 6, h => exact absurd h (by omega)
  · decide +kernel
  · rw [h1 1 (by decide)]
    match j, hj with
    | 0, _ => rfl
    | 1, _ => rfl
    | 2, _ => rfl
    | 3, _ => rfl
    | 4, _ => rfl
    | 5, _ => rfl
    | j + 6, h => exact absurd h (by omega)
  · show (0 : Rat) ≤ mkRat 1000 1000
    decide
