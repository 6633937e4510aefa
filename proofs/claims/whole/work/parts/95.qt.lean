/-! the first place that a square lacks, on both sides -/
abbrev lbad (rb : Nat → Bool) (n p q : Nat) : Prop := q < 4096 ∧ near n p q ∧ rb q = false
abbrev LK (rb : Nat → Bool) (n p v : Nat) : Prop := (lbad rb n p v ∧ ∀ q, lbad rb n p q → v ≤ q) ∨ ((∀ q, ¬ lbad rb n p q) ∧ v = p)
theorem LK_un {rb : Nat → Bool} {n p v w : Nat} (h : LK rb n p v) (h' : LK rb n p w) : v = w := by
  rcases h with ⟨a, b⟩ | ⟨a, b⟩
  · rcases h' with ⟨c, d⟩ | ⟨c, d⟩
    · have := b w c
      have := d v a
      omega
    · exact absurd a (c v)
  · rcases h' with ⟨c, d⟩ | ⟨c, d⟩
    · exact absurd c (a w)
    · omega
noncomputable def lkP (rb : Nat → Bool) (n p : Nat) : Nat := @dite _ (∃ v, LK rb n p v) (Classical.propDecidable _) (fun h => Classical.choose h) (fun _ => p)
theorem lkP_eq {rb : Nat → Bool} {n p v : Nat} (h : LK rb n p v) : v = lkP rb n p := by
  have hex : ∃ v, LK rb n p v := ⟨v, h⟩
  have hsp : LK rb n p (lkP rb n p) := by
    unfold lkP
    rw [dif_pos hex]
    exact Classical.choose_spec hex
  exact LK_un h hsp
theorem leastB {f : Nat → Bool} {n : Nat} (h : ∃ k, k < n ∧ f k = true) : ∃ k, k < n ∧ f k = true ∧ ∀ j, j < k → f j = false := by
  induction n with
  | zero =>
    obtain ⟨k, hk, -⟩ := h
    exact absurd hk (Nat.not_lt_zero _)
  | succ n ih =>
    by_cases h2 : ∃ k, k < n ∧ f k = true
    · obtain ⟨k, a, b, c⟩ := ih h2
      exact ⟨k, by omega, b, c⟩
    · obtain ⟨k, a, b⟩ := h
      refine ⟨k, a, b, fun j hj => ?_⟩
      cases hfj : f j with
      | false => rfl
      | true => exact absurd ⟨j, by omega, hfj⟩ h2
set_option maxHeartbeats 1000000 in
theorem w_leastLacking {M : cm} {D : Nat → Bool} (hD : dM M D) {l n p : Nat} (hl : l < 16) (hn : n ≤ 9) (hp : p < 4096) :
    f_X8_leastLacking (zI ((64 * l : Nat) : Int)) (zI (p : Nat)) (zI (n : Nat)) M = some (zI ((lkP (rl D l) n p : Nat) : Int)) := by
  apply wp_eq
  unfold f_X8_leastLacking
  rw [show (64 : Int32) = zI 64 from rfl, md (by omega) (by omega) (by omega) (by omega), zI_div (by omega) (by omega) (by omega) (by omega), zI_0, show (63 : Int32) = zI 63 from rfl, show (1 : Int32) = zI 1 from rfl, zI_sub, zI_sub, zI_add, zI_add, nm_maxZ (by omega) (by omega) (by omega) (by omega), nm_minZ (by omega) (by omega) (by omega) (by omega), nm_minZ (by omega) (by omega) (by omega) (by omega), nm_maxZ (by omega) (by omega) (by omega) (by omega)]
  simp only [nm_l_eq]
  rw [zI_sub, zI_add]
  obtain ⟨v1, hv1⟩ : ∃ v : Nat, ((v : Nat) : Int) = max (((p : Nat) : Int) % 64 - ((n : Nat) : Int)) 0 := ⟨(max (((p : Nat) : Int) % 64 - ((n : Nat) : Int)) 0).toNat, by omega⟩
  obtain ⟨mm, hmm⟩ : ∃ v : Nat, ((v : Nat) : Int) = min (((p : Nat) : Int) % 64 + ((n : Nat) : Int)) 63 - max (((p : Nat) : Int) % 64 - ((n : Nat) : Int)) 0 + 1 := ⟨(min (((p : Nat) : Int) % 64 + ((n : Nat) : Int)) 63 - max (((p : Nat) : Int) % 64 - ((n : Nat) : Int)) 0 + 1).toNat, by omega⟩
  rw [← hmm, ← hv1]
  have hspan : ∀ x, x < 64 → (bx (f_X0_span (zI (v1 : Nat)) (zI (mm : Nat))) x = true ↔ p % 64 ≤ x + n ∧ x ≤ p % 64 + n) := fun x hx => by
    rw [bx_span (by omega) (by omega) hx, Bool.and_eq_true, decide_eq_true_iff, decide_eq_true_iff]
    omega
  generalize f_X0_span (zI (v1 : Nat)) (zI (mm : Nat)) = sw at hspan ⊢
  obtain ⟨y0, hy0⟩ : ∃ v : Nat, ((v : Nat) : Int) = max (((p : Nat) : Int) / 64 - ((n : Nat) : Int)) 0 := ⟨(max (((p : Nat) : Int) / 64 - ((n : Nat) : Int)) 0).toNat, by omega⟩
  rw [← hy0]
  have key : ∀ (f y : Nat), y ≤ 80 → 80 - y < f → (∀ q, lbad (rl D l) n p q → y ≤ q / 64) → (p / 64 ≤ y + n) → wp (f_X8_leastLacking_L64 (zI ((64 * l : Nat) : Int)) (zI (min (((p : Nat) : Int) / 64 + ((n : Nat) : Int)) 63)) sw M (fun _ => some (zI (p : Nat))) f (zI (y : Nat))) (fun b => b = zI ((lkP (rl D l) n p : Nat) : Int)) := by
    intro f
    induction f with
    | zero => intro y h1 h2; omega
    | succ f ih =>
      intro y hy hf hI hlow
      rw [f_X8_leastLacking_L64]
      simp (disch := omega) only [zI_lt]
      refine wp_if (fun h => wp_r ?_) (fun h => ?_)
      · refine congrArg (fun z : Nat => zI (z : Int)) (lkP_eq (Or.inr ⟨fun q hq => ?_, rfl⟩))
        have h1 := hI q hq
        obtain ⟨q1, ⟨q2, q3, q4, q5⟩, q6⟩ := hq
        omega
      rw [zI_add, nm_cz (by omega) (by omega) (by omega), zI_cl (by omega) (by omega), show (((64 * l : Nat) : Int) + ((y : Nat) : Int)).toNat = 64 * l + y by omega, nm_l_eq]
      have hb : ∀ x, x < 64 → (bx (sw &&& (M.2 101 (64 * l + y) ^^^ (-1 : Int64))) x = true ↔ lbad (rl D l) n p (64 * y + x)) := fun x hx => by
        rw [bx_and, Bool.and_eq_true, hspan x hx, bx_xor, bx_m1 hx, hD _ _ (by omega) hx]
        have e : rl D l (64 * y + x) = D (64 * (64 * l + y) + x) := by
          unfold rl
          rw [decide_eq_true (by omega), Bool.true_and]
          exact congrArg D (by omega)
        rw [← e]
        constructor
        · rintro ⟨a, b⟩
          refine ⟨by omega, ⟨by omega, by omega, by omega, by omega⟩, ?_⟩
          cases hv : rl D l (64 * y + x) with
          | false => rfl
          | true => rw [hv] at b; exact absurd b (by decide)
        · rintro ⟨a, ⟨b1, b2, b3, b4⟩, d⟩
          refine ⟨by omega, ?_⟩
          rw [d]
          rfl
      generalize (sw &&& (M.2 101 (64 * l + y) ^^^ (-1 : Int64))) = w at hb ⊢
      rw [zI_inc]
      refine wp_if (fun h2 => ?_) (fun h2 => ?_)
      · have hw := (bx_cmp0 w).mp h2
        refine ih (y + 1) (by omega) (by omega) (fun q hq => ?_) (by omega)
        have h3 := hI q hq
        apply Classical.byContradiction
        intro h4
        have hqe : q = 64 * y + q % 64 := by omega
        rw [hqe] at hq
        have := (hb (q % 64) (by omega)).mpr hq
        rw [hw, bx_0] at this
        exact absurd this (by decide)
      · have hex : ∃ k, k < 64 ∧ bx w k = true := by
          apply Classical.byContradiction
          intro h3
          apply h2
          rw [bx_cmp0]
          refine bx_ext (fun x hx => ?_)
          rw [bx_0]
          cases hv : bx w x with
          | false => rfl
          | true => exact absurd ⟨x, hx, hv⟩ h3
        obtain ⟨k, k1, k2, k3⟩ := leastB hex
        rw [bx_low k1 k2 k3, show (64 : Int32) = zI 64 from rfl, zI_mul, zI_add]
        refine wp_r ?_
        have hk := (hb k k1).mp k2
        have : LK (rl D l) n p (64 * y + k) := Or.inl ⟨hk, fun q hq => by
          have h3 := hI q hq
          apply Classical.byContradiction
          intro h4
          have hqe : q = 64 * y + q % 64 := by omega
          have h5 : q % 64 < k := by omega
          rw [hqe] at hq
          have := (hb (q % 64) (by omega)).mpr hq
          rw [k3 _ h5] at this
          exact absurd this (by decide)⟩
        rw [← lkP_eq this]
        exact congrArg zI (by omega)
  exact key nm_F y0 (by omega) (by rw [nm_F_eq]; omega) (fun q hq => by
    obtain ⟨q1, ⟨q2, q3, q4, q5⟩, q6⟩ := hq
    omega) (by omega)
