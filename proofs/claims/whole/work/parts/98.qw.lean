/-! the gaps of a row -/
theorem w_gapsL (w : Int64) : wp (f_X0_gaps_L12 nm_F w 1) (fun v => ∀ x, x < 64 → (bx v x = true ↔ ∃ j, x ≤ j ∧ bx w j = true)) := by
  have hw64 : ∀ j, bx w j = true → j < 64 := fun j hj => by
    apply Classical.byContradiction
    intro h
    rw [bx_big (by omega)] at hj
    exact absurd hj (by decide)
  have key : ∀ (f k : Nat) (v : Int64), k ≤ 6 → 6 - k < f → (∀ x, bx v x = true ↔ ∃ j, x ≤ j ∧ j < x + 2 ^ k ∧ bx w j = true) → wp (f_X0_gaps_L12 f v (zI ((2 ^ k : Nat) : Int))) (fun v => ∀ x, x < 64 → (bx v x = true ↔ ∃ j, x ≤ j ∧ bx w j = true)) := by
    intro f
    induction f with
    | zero => intro k v h1 h2; omega
    | succ f ih =>
      intro k v hk hf hI
      have hp : 2 ^ k ≤ 2 ^ 6 := Nat.pow_le_pow_right (by omega) hk
      have hp6 : (2 : Nat) ^ 6 = 64 := rfl
      have hp0 : 0 < 2 ^ k := Nat.pow_pos (by omega)
      rw [f_X0_gaps_L12, show (64 : Int32) = zI 64 from rfl]
      simp (disch := omega) only [zI_le]
      refine wp_if (fun h => wp_r (fun x hx => ?_)) (fun h => ?_)
      · have h64 : 2 ^ k = 64 := by omega
        rw [hI x, h64]
        constructor
        · rintro ⟨j, a, b, d⟩
          exact ⟨j, a, d⟩
        · rintro ⟨j, a, d⟩
          have := hw64 j d
          exact ⟨j, a, by omega, d⟩
      have hk6 : k < 6 := by
        apply Classical.byContradiction
        intro h6
        have : k = 6 := by omega
        subst this
        omega
      have hps : 2 ^ (k + 1) = 2 * 2 ^ k := by rw [Nat.pow_succ, Nat.mul_comm]
      have hlt : 2 ^ k < 64 := by omega
      rw [nm_l_eq, nm_l_eq, show (2 : Int32) = zI 2 from rfl, zI_mul, show ((2 ^ k : Nat) : Int) * 2 = ((2 ^ (k + 1) : Nat) : Int) by omega]
      refine ih (k + 1) _ (by omega) (by omega) (fun x => ?_)
      rw [bx_or, bx_shr _ hlt, Bool.or_eq_true, hI x, hI (x + 2 ^ k), hps]
      constructor
      · rintro (⟨j, a, b, d⟩ | ⟨j, a, b, d⟩)
        · exact ⟨j, a, by omega, d⟩
        · exact ⟨j, by omega, by omega, d⟩
      · rintro ⟨j, a, b, d⟩
        by_cases hj : j < x + 2 ^ k
        · exact Or.inl ⟨j, a, hj, d⟩
        · exact Or.inr ⟨j, by omega, by omega, d⟩
  refine key nm_F 0 w (by omega) (by rw [nm_F_eq]; omega) (fun x => ?_)
  constructor
  · intro h
    exact ⟨x, by omega, by omega, h⟩
  · rintro ⟨j, a, b, d⟩
    have : j = x := by omega
    rw [← this]
    exact d
theorem w_gaps (w : Int64) : wp (f_X0_gaps w) (fun v => ∀ x, x < 64 → (bx v x = true ↔ bx w x = false ∧ (∃ j, j < x ∧ bx w j = true) ∧ ∃ j, x < j ∧ j < 64 ∧ bx w j = true)) := by
  have hw64 : ∀ j, bx w j = true → j < 64 := fun j hj => by
    apply Classical.byContradiction
    intro h
    rw [bx_big (by omega)] at hj
    exact absurd hj (by decide)
  have hlow : ∀ x, x < 64 → (bx (-(w &&& -w)) x = true ↔ ∃ j, j ≤ x ∧ bx w j = true) := by
    intro x hx
    by_cases hex : ∃ k, k < 64 ∧ bx w k = true
    · obtain ⟨k, k1, k2, k3⟩ := leastB hex
      have hone : ∀ y, y < 64 → bx (w &&& -w) y = decide (y = k) := fun y hy => by
        rw [bx_and, bx_neg k1 k2 k3 hy]
        by_cases h1 : y < k
        · rw [if_pos h1, Bool.and_false, decide_eq_false (by omega)]
        · rw [if_neg h1]
          by_cases h2 : y = k
          · rw [if_pos h2, Bool.and_true, decide_eq_true h2, h2, k2]
          · rw [if_neg h2, decide_eq_false h2]
            cases bx w y <;> rfl
      rw [bx_neg k1 ((hone k k1).trans (decide_eq_true rfl)) (fun j hj => (hone j (by omega)).trans (decide_eq_false (by omega))) hx]
      constructor
      · intro h
        by_cases h1 : x < k
        · rw [if_pos h1] at h
          exact absurd h (by decide)
        · exact ⟨k, by omega, k2⟩
      · rintro ⟨j, a, b⟩
        have hjk : k ≤ j := by
          apply Classical.byContradiction
          intro h
          rw [k3 j (by omega)] at b
          exact absurd b (by decide)
        rw [if_neg (by omega)]
        by_cases h2 : x = k
        · rw [if_pos h2]
        · rw [if_neg h2, hone x hx, decide_eq_false h2]
          rfl
    · have hw0 : w = 0 := bx_ext (fun x hx => by
        rw [bx_0]
        cases hv : bx w x with
        | false => rfl
        | true => exact absurd ⟨x, hx, hv⟩ hex)
      rw [hw0]
      constructor
      · intro h
        rw [show (-((0 : Int64) &&& -0)) = 0 by decide, bx_0] at h
        exact absurd h (by decide)
      · rintro ⟨j, a, b⟩
        rw [bx_0] at b
        exact absurd b (by decide)
  unfold f_X0_gaps
  rw [nm_l_eq]
  refine wp_s1 _ (w_gapsL w) ?_
  intro v hv
  refine wp_r (fun x hx => ?_)
  rw [bx_and, bx_and, bx_not _ hx, Bool.and_eq_true, Bool.and_eq_true, hlow x hx, hv x hx]
  constructor
  · rintro ⟨⟨a, j, j1, j2⟩, i, i1, i2⟩
    have hf : bx w x = false := by
      cases hv : bx w x with
      | false => rfl
      | true => rw [hv] at a; exact absurd a (by decide)
    have hjx : j ≠ x := fun e => by rw [e, hf] at j2; exact absurd j2 (by decide)
    have hix : i ≠ x := fun e => by rw [e, hf] at i2; exact absurd i2 (by decide)
    exact ⟨hf, ⟨j, by omega, j2⟩, i, by omega, hw64 i i2, i2⟩
  · rintro ⟨a, ⟨j, j1, j2⟩, i, i1, i2, i3⟩
    exact ⟨⟨by rw [a]; rfl, j, by omega, j2⟩, i, by omega, i3⟩
