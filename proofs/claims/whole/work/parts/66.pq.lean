/-! the reference: around a square -/
theorem isIn63 {z : Int} (h1 : -2147483648 ≤ z) (h2 : z < 2147483648) : f_X12_isIn (zI z).toInt64 0 63 = if 0 ≤ z ∧ z ≤ 63 then 1 else 0 := by
  rw [isIn_z h1 h2, show (0 : Int64).toInt = 0 by decide, show (63 : Int64).toInt = 63 by decide]
def onP (D : Nat → Bool) (a : Nat) (y x : Int) : Bool := decide (0 ≤ x ∧ x ≤ 63 ∧ 0 ≤ y ∧ y ≤ 63) && D (4096 * a + 64 * y.toNat + x.toNat)
theorem ite_z (b : Bool) : (if b = true then (1 : Int32) else 0) = 0 ↔ b = false := by
  cases b
  · simp
  · simp
set_option maxHeartbeats 2000000 in
theorem w_around {D : Nat → Bool} {I : nm_I} (hO : oR I D) {a s n : Nat} (ha : a < 16) (hs : s < 4096) (hn : n ≤ 9) (g : Bool) : f_X12_around (zI (a : Nat)) (zI (s : Nat)) (zI (n : Nat)) (if g = true then 0 else 1) I = some (if sp g (rl D a) n s = true then 1 else 0) := by
  apply wp_eq
  generalize hal : (if g = true then (0 : Int32) else 1) = al
  have hal2 : al = (if (!g) = true then 1 else 0) := by rw [← hal]; cases g <;> rfl
  -- one square, and what is said of it
  have hP1 : ∀ (y x : Int), (s / 64 : Nat) - (n : Int) ≤ y → y ≤ (s / 64 : Nat) + (n : Int) → (s % 64 : Nat) - (n : Int) ≤ x → x ≤ (s % 64 : Nat) + (n : Int) → onP D a y x ≠ (!g) → (if sp g (rl D a) n s = true then (1 : Int32) else 0) = if onP D a y x = true then 1 else 0 := by
    intro y x y1 y2 x1 x2 h
    cases g with
    | true =>
      have ho : onP D a y x = true := by
        cases hv : onP D a y x with
        | true => rfl
        | false => rw [hv] at h; exact absurd rfl h
      have : sp true (rl D a) n s = true := by
        rw [sp_t hs]
        unfold onP at ho
        simp at ho
        refine ⟨64 * y.toNat + x.toNat, by omega, by unfold near; omega, ?_⟩
        unfold rl
        have : 64 * y.toNat + x.toNat < 4096 := by omega
        simp only [this, decide_true, Bool.true_and]
        rw [← Nat.add_assoc]
        exact ho.2
      rw [this, ho]
    | false =>
      have ho : onP D a y x = false := by
        cases hv : onP D a y x with
        | false => rfl
        | true => rw [hv] at h; exact absurd rfl h
      have : sp false (rl D a) n s = false := by
        cases hv : sp false (rl D a) n s with
        | false => rfl
        | true =>
          obtain ⟨c1, c2, c3, c4, c5⟩ := (sp_f hs).mp hv
          have := c5 (64 * y.toNat + x.toNat) (by omega) (by unfold near; omega)
          unfold rl at this
          have h4 : 64 * y.toNat + x.toNat < 4096 := by omega
          simp only [h4, decide_true, Bool.true_and] at this
          rw [← Nat.add_assoc] at this
          have : onP D a y x = true := by
            unfold onP
            rw [this]
            have : 0 ≤ x ∧ x ≤ 63 ∧ 0 ≤ y ∧ y ≤ 63 := by omega
            simp [this]
          rw [this] at ho
          exact absurd ho (by decide)
      rw [this, ho]
  have hP2 : (∀ (y x : Int), (s / 64 : Nat) - (n : Int) ≤ y → y ≤ (s / 64 : Nat) + (n : Int) → (s % 64 : Nat) - (n : Int) ≤ x → x ≤ (s % 64 : Nat) + (n : Int) → onP D a y x = (!g)) → (if sp g (rl D a) n s = true then (1 : Int32) else 0) = al := by
    intro h
    rw [hal2]
    have e : sp g (rl D a) n s = (!g) := by
      cases g with
      | true =>
        cases hv : sp true (rl D a) n s with
        | false => rfl
        | true =>
          obtain ⟨p, p1, p2, p3⟩ := (sp_t hs).mp hv
          unfold near at p2
          have := h ((p / 64 : Nat) : Int) ((p % 64 : Nat) : Int) (by omega) (by omega) (by omega) (by omega)
          unfold onP at this
          have hr : (0 : Int) ≤ ((p % 64 : Nat) : Int) ∧ ((p % 64 : Nat) : Int) ≤ 63 ∧ (0 : Int) ≤ ((p / 64 : Nat) : Int) ∧ ((p / 64 : Nat) : Int) ≤ 63 := by omega
          rw [show 4096 * a + 64 * ((p / 64 : Nat) : Int).toNat + ((p % 64 : Nat) : Int).toNat = 4096 * a + p by omega] at this
          unfold rl at p3
          simp at p3
          simp [hr, p3.2] at this
          have := this (by omega) (by omega) (by omega)
          omega
      | false =>
        refine (sp_f hs).mpr ?_
        have hin : ∀ (y x : Int), (s / 64 : Nat) - (n : Int) ≤ y → y ≤ (s / 64 : Nat) + (n : Int) → (s % 64 : Nat) - (n : Int) ≤ x → x ≤ (s % 64 : Nat) + (n : Int) → (0 ≤ x ∧ x ≤ 63 ∧ 0 ≤ y ∧ y ≤ 63) ∧ D (4096 * a + 64 * y.toNat + x.toNat) = true := by
          intro y x y1 y2 x1 x2
          have := h y x y1 y2 x1 x2
          unfold onP at this
          simpa using this
        have c1 := hin ((s / 64 : Nat) - (n : Int)) ((s % 64 : Nat) - (n : Int)) (by omega) (by omega) (by omega) (by omega)
        have c2 := hin ((s / 64 : Nat) + (n : Int)) ((s % 64 : Nat) + (n : Int)) (by omega) (by omega) (by omega) (by omega)
        refine ⟨by omega, by omega, by omega, by omega, fun p p1 p2 => ?_⟩
        unfold near at p2
        have := (hin ((p / 64 : Nat) : Int) ((p % 64 : Nat) : Int) (by omega) (by omega) (by omega) (by omega)).2
        rw [show 4096 * a + 64 * ((p / 64 : Nat) : Int).toNat + ((p % 64 : Nat) : Int).toNat = 4096 * a + p by omega] at this
        unfold rl
        simp [p1, this]
    rw [e]
  -- along a row
  have hrow : ∀ (y : Int) (kx : Unit → Option Int32), (s / 64 : Nat) - (n : Int) ≤ y → y ≤ (s / 64 : Nat) + (n : Int) → ((∀ x : Int, (s % 64 : Nat) - (n : Int) ≤ x → x ≤ (s % 64 : Nat) + (n : Int) → onP D a y x = (!g)) → wp (kx ()) (fun v => v = if sp g (rl D a) n s = true then 1 else 0)) → wp (f_X12_around_L27 (zI (a : Nat)) (zI (s : Nat)) (zI (n : Nat)) al (zI y) I kx nm_F (zI ((s % 64 : Nat) - (n : Int)))) (fun v => v = if sp g (rl D a) n s = true then 1 else 0) := by
    intro y kx y1 y2 hkx
    refine lpm (fun f (t : Int32) => f_X12_around_L27 (zI (a : Nat)) (zI (s : Nat)) (zI (n : Nat)) al (zI y) I kx f t) _ (fun t => ∃ x : Int, t = zI x ∧ (s % 64 : Nat) - (n : Int) ≤ x ∧ x ≤ (s % 64 : Nat) + (n : Int) + 1 ∧ ∀ x' : Int, (s % 64 : Nat) - (n : Int) ≤ x' → x' < x → onP D a y x' = (!g)) (fun t => (200 - t.toInt).toNat) ?_ nm_F _ ?_ ⟨_, rfl, by omega, by omega, fun x' h1 h2 => by omega⟩
    · rintro f t ⟨x, rfl, x1, x2, hx⟩ hn9
      show wp (f_X12_around_L27 _ _ _ _ _ _ _ (f + 1) _) _
      rw [f_X12_around_L27]
      simp (disch := omega) only [zI_lit, zI_div, zI_mul, zI_sub, zI_add, zI_lt]
      have e64 : ((s : Nat) : Int) - ((s : Nat) : Int) / 64 * 64 = ((s % 64 : Nat) : Int) := by omega
      rw [e64]
      refine wp_if (fun h => hkx (fun x' h1 h2 => hx x' h1 (by omega))) (fun h => ?_)
      have hbody : ∀ tv : Int32, tv = (if onP D a y x = true then 1 else 0) → wp (f_X12_around_J91 al (zI x) tv I (f_X12_around_L27 (zI (a : Nat)) (zI (s : Nat)) (zI (n : Nat)) al (zI y) I kx f) kx) (fun v => v = if sp g (rl D a) n s = true then 1 else 0) := by
        intro tv htv
        unfold f_X12_around_J91
        refine wp_if (fun he => ?_) (fun he => ?_)
        · have hv : onP D a y x = (!g) := by
            rw [htv, hal2] at he
            cases hb : onP D a y x <;> cases hg : (!g) <;> rw [hb, hg] at he <;> first | rfl | exact absurd he (by decide)
          rw [zI_inc]
          refine hn9 _ ⟨x + 1, rfl, by omega, by omega, fun x' h1 h2 => ?_⟩ ?_
          · by_cases hxx : x' = x
            · rw [hxx]
              exact hv
            · exact hx x' h1 (by omega)
          · rw [zI_ti (by omega) (by omega), zI_ti (by omega) (by omega)]
            omega
        · have hv : onP D a y x ≠ (!g) := by
            intro hv
            apply he
            rw [htv, hal2, hv]
          have h01 : tv = 0 ∨ tv = 1 := by
            rw [htv]
            cases onP D a y x
            · exact Or.inl rfl
            · exact Or.inr rfl
          unfold nm_b
          rw [if_pos h01]
          refine wp_r ?_
          rw [hP1 y x y1 y2 x1 (by omega) hv]
          exact htv
      rw [isIn63 (by omega) (by omega), isIn63 (by omega) (by omega)]
      unfold f_X12_around_J90
      refine wp_if (fun h3 => hbody _ ?_) (fun h3 => ?_)
      · have : ¬ (0 ≤ x ∧ x ≤ 63) := fun h4 => by rw [if_pos h4] at h3; exact absurd h3 (by decide)
        have : onP D a y x = false := by
          unfold onP
          have : ¬ (0 ≤ x ∧ x ≤ 63 ∧ 0 ≤ y ∧ y ≤ 63) := by omega
          simp [this]
        rw [this]
        rfl
      have h4 : 0 ≤ x ∧ x ≤ 63 := by
        apply Classical.byContradiction
        intro h5
        rw [if_neg h5] at h3
        exact h3 rfl
      refine wp_if (fun h5 => hbody _ ?_) (fun h5 => ?_)
      · have : ¬ (0 ≤ y ∧ y ≤ 63) := fun h6 => by rw [if_pos h6] at h5; exact absurd h5 (by decide)
        have : onP D a y x = false := by
          unfold onP
          have : ¬ (0 ≤ x ∧ x ≤ 63 ∧ 0 ≤ y ∧ y ≤ 63) := by omega
          simp [this]
        rw [this]
        rfl
      have h6 : 0 ≤ y ∧ y ≤ 63 := by
        apply Classical.byContradiction
        intro h7
        rw [if_neg h7] at h5
        exact h5 rfl
      refine wp_cz (by omega) (by omega) (by omega) ?_
      rw [zI_cl (by omega) (by omega), show (4096 * ((a : Nat) : Int) + 64 * y + x).toNat = 4096 * a + 64 * y.toNat + x.toNat by omega]
      have o1 := oR_0 hO (p := 4096 * a + 64 * y.toNat + x.toNat) (by omega)
      have eo : onP D a y x = D (4096 * a + 64 * y.toNat + x.toNat) := by
        unfold onP
        have : 0 ≤ x ∧ x ≤ 63 ∧ 0 ≤ y ∧ y ≤ 63 := by omega
        simp [this]
      refine wp_if (fun h7 => hbody _ ?_) (fun h7 => hbody _ ?_)
      · rw [eo, o1.mp h7]
        rfl
      · rw [eo]
        cases hd : D (4096 * a + 64 * y.toNat + x.toNat) with
        | true => rfl
        | false => exact absurd (o1.mpr hd) h7
    · rw [zI_ti (by omega) (by omega), nm_F_eq]
      omega
  -- row by row
  unfold f_X12_around
  simp (disch := omega) only [nm_l_eq, zI_lit, zI_div, zI_sub]
  refine lpm (fun f (t : Int32) => f_X12_around_L8 (zI (a : Nat)) (zI (s : Nat)) (zI (n : Nat)) al I (fun _ => nm_b al (some al)) f t) _ (fun t => ∃ y : Int, t = zI y ∧ (s / 64 : Nat) - (n : Int) ≤ y ∧ y ≤ (s / 64 : Nat) + (n : Int) + 1 ∧ ∀ y' x : Int, (s / 64 : Nat) - (n : Int) ≤ y' → y' < y → (s % 64 : Nat) - (n : Int) ≤ x → x ≤ (s % 64 : Nat) + (n : Int) → onP D a y' x = (!g)) (fun t => (200 - t.toInt).toNat) ?_ nm_F _ ?_ ⟨_, rfl, by omega, by omega, fun y' x h1 h2 => by omega⟩
  · rintro f t ⟨y, rfl, y1, y2, hy⟩ hn9
    show wp (f_X12_around_L8 _ _ _ _ _ _ (f + 1) _) _
    rw [f_X12_around_L8]
    simp (disch := omega) only [zI_lit, zI_div, zI_mul, zI_sub, zI_add, zI_lt, nm_l_eq]
    have e64 : ((s : Nat) : Int) - ((s : Nat) : Int) / 64 * 64 = ((s % 64 : Nat) : Int) := by omega
    rw [e64]
    refine wp_if (fun h => ?_) (fun h => ?_)
    · have h01 : al = 0 ∨ al = 1 := by
        rw [← hal]
        cases g
        · exact Or.inr rfl
        · exact Or.inl rfl
      unfold nm_b
      rw [if_pos h01]
      refine wp_r (hP2 ?_).symm
      intro y' x a1 a2 a3 a4
      exact hy y' x a1 (by omega) a3 a4
    · refine hrow y _ y1 (by omega) (fun hall => ?_)
      refine hn9 _ ⟨y + 1, rfl, by omega, by omega, fun y' x a1 a2 a3 a4 => ?_⟩ ?_
      · by_cases hyy : y' = y
        · rw [hyy]
          exact hall x a3 a4
        · exact hy y' x a1 (by omega) a3 a4
      · rw [zI_ti (by omega) (by omega), zI_ti (by omega) (by omega)]
        omega
  · rw [zI_ti (by omega) (by omega), nm_F_eq]
    omega
