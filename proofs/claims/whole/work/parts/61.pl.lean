/-! a layer grown or shrunk -/
def vO (s : Nat → Bool) (y : Nat) : Nat → Bool
  | 0 => s y
  | f + 1 => (vO s y f || (decide (f + 1 ≤ y) && s (y - (f + 1)))) || (decide (y + (f + 1) < 64) && s (y + (f + 1)))
def vA (s : Nat → Bool) (y : Nat) : Nat → Bool
  | 0 => s y
  | f + 1 => (vA s y f && (decide (f + 1 ≤ y) && s (y - (f + 1)))) && (decide (y + (f + 1) < 64) && s (y + (f + 1)))
def hO (s : Nat → Bool) : Nat → Nat → Bool
  | 0, x => s x
  | f + 1, x => (hO s f x || (decide (1 ≤ x) && hO s f (x - 1))) || (decide (x + 1 < 64) && hO s f (x + 1))
def hA (s : Nat → Bool) : Nat → Nat → Bool
  | 0, x => s x
  | f + 1, x => (hA s f x && (decide (1 ≤ x) && hA s f (x - 1))) && (decide (x + 1 < 64) && hA s f (x + 1))
theorem hO_s (s : Nat → Bool) (f x : Nat) : hO s (f + 1) x = ((hO s f x || (decide (1 ≤ x) && hO s f (x - 1))) || (decide (x + 1 < 64) && hO s f (x + 1))) := rfl
theorem hA_s (s : Nat → Bool) (f x : Nat) : hA s (f + 1) x = ((hA s f x && (decide (1 ≤ x) && hA s f (x - 1))) && (decide (x + 1 < 64) && hA s f (x + 1))) := rfl
theorem vO_iff (s : Nat → Bool) {y : Nat} (hy : y < 64) (f : Nat) : vO s y f = true ↔ ∃ z, z < 64 ∧ z ≤ y + f ∧ y ≤ z + f ∧ s z = true := by
  induction f with
  | zero =>
    constructor
    · intro h
      exact ⟨y, hy, by omega, by omega, h⟩
    · rintro ⟨z, a, b, c, d⟩
      have : z = y := by omega
      rw [← this]
      exact d
  | succ f ih =>
    have e : vO s y (f + 1) = true ↔ (vO s y f = true ∨ (f + 1 ≤ y ∧ s (y - (f + 1)) = true)) ∨ (y + (f + 1) < 64 ∧ s (y + (f + 1)) = true) := by
      simp [vO]
    rw [e, ih]
    constructor
    · rintro ((⟨z, a, b, c, d⟩ | ⟨a, b⟩) | ⟨a, b⟩)
      · exact ⟨z, a, by omega, by omega, d⟩
      · exact ⟨_, by omega, by omega, by omega, b⟩
      · exact ⟨_, a, by omega, by omega, b⟩
    · rintro ⟨z, a, b, c, d⟩
      by_cases h1 : z = y + (f + 1)
      · exact Or.inr ⟨by omega, by rw [← h1]; exact d⟩
      · by_cases h2 : y = z + (f + 1)
        · refine Or.inl (Or.inr ⟨by omega, ?_⟩)
          rw [show y - (f + 1) = z by omega]
          exact d
        · exact Or.inl (Or.inl ⟨z, a, by omega, by omega, d⟩)
theorem vA_iff (s : Nat → Bool) {y : Nat} (hy : y < 64) (f : Nat) : vA s y f = true ↔ f ≤ y ∧ y + f < 64 ∧ ∀ z, z ≤ y + f → y ≤ z + f → s z = true := by
  induction f with
  | zero =>
    constructor
    · intro h
      refine ⟨by omega, by omega, fun z a b => ?_⟩
      have : z = y := by omega
      rw [this]
      exact h
    · rintro ⟨a, b, c⟩
      exact c y (by omega) (by omega)
  | succ f ih =>
    have e : vA s y (f + 1) = true ↔ (vA s y f = true ∧ (f + 1 ≤ y ∧ s (y - (f + 1)) = true)) ∧ (y + (f + 1) < 64 ∧ s (y + (f + 1)) = true) := by
      simp [vA]
    rw [e, ih]
    constructor
    · rintro ⟨⟨⟨a, b, c⟩, d, e⟩, g, h⟩
      refine ⟨d, g, fun z z1 z2 => ?_⟩
      by_cases h1 : z = y + (f + 1)
      · rw [h1]
        exact h
      · by_cases h2 : y = z + (f + 1)
        · rw [show y - (f + 1) = z by omega] at e
          exact e
        · exact c z (by omega) (by omega)
    · rintro ⟨a, b, c⟩
      exact ⟨⟨⟨by omega, by omega, fun z z1 z2 => c z (by omega) (by omega)⟩, a, c _ (by omega) (by omega)⟩, b, c _ (by omega) (by omega)⟩
theorem hO_iff (s : Nat → Bool) (f : Nat) : ∀ {x : Nat}, x < 64 → (hO s f x = true ↔ ∃ z, z < 64 ∧ z ≤ x + f ∧ x ≤ z + f ∧ s z = true) := by
  induction f with
  | zero =>
    intro x hx
    constructor
    · intro h
      exact ⟨x, hx, by omega, by omega, h⟩
    · rintro ⟨z, a, b, c, d⟩
      have : z = x := by omega
      rw [← this]
      exact d
  | succ f ih =>
    intro x hx
    have e : hO s (f + 1) x = true ↔ (hO s f x = true ∨ (1 ≤ x ∧ hO s f (x - 1) = true)) ∨ (x + 1 < 64 ∧ hO s f (x + 1) = true) := by
      simp [hO]
    rw [e, ih hx]
    constructor
    · rintro ((⟨z, a, b, c, d⟩ | ⟨a, b⟩) | ⟨a, b⟩)
      · exact ⟨z, a, by omega, by omega, d⟩
      · obtain ⟨z, z1, z2, z3, z4⟩ := (ih (by omega)).mp b
        exact ⟨z, z1, by omega, by omega, z4⟩
      · obtain ⟨z, z1, z2, z3, z4⟩ := (ih a).mp b
        exact ⟨z, z1, by omega, by omega, z4⟩
    · rintro ⟨z, a, b, c, d⟩
      by_cases h1 : z = x + (f + 1)
      · exact Or.inr ⟨by omega, (ih (by omega)).mpr ⟨z, a, by omega, by omega, d⟩⟩
      · by_cases h2 : x = z + (f + 1)
        · exact Or.inl (Or.inr ⟨by omega, (ih (by omega)).mpr ⟨z, a, by omega, by omega, d⟩⟩)
        · exact Or.inl (Or.inl ⟨z, a, by omega, by omega, d⟩)
theorem hA_iff (s : Nat → Bool) (f : Nat) : ∀ {x : Nat}, x < 64 → (hA s f x = true ↔ f ≤ x ∧ x + f < 64 ∧ ∀ z, z ≤ x + f → x ≤ z + f → s z = true) := by
  induction f with
  | zero =>
    intro x hx
    constructor
    · intro h
      refine ⟨by omega, by omega, fun z a b => ?_⟩
      have : z = x := by omega
      rw [this]
      exact h
    · rintro ⟨a, b, c⟩
      exact c x (by omega) (by omega)
  | succ f ih =>
    intro x hx
    have e : hA s (f + 1) x = true ↔ (hA s f x = true ∧ (1 ≤ x ∧ hA s f (x - 1) = true)) ∧ (x + 1 < 64 ∧ hA s f (x + 1) = true) := by
      simp [hA]
    rw [e]
    constructor
    · rintro ⟨⟨a, b, c⟩, d, g⟩
      obtain ⟨a1, a2, a3⟩ := (ih hx).mp a
      obtain ⟨c1, c2, c3⟩ := (ih (by omega)).mp c
      obtain ⟨g1, g2, g3⟩ := (ih d).mp g
      refine ⟨by omega, by omega, fun z z1 z2 => ?_⟩
      rcases Nat.lt_trichotomy z x with h1 | h1 | h1
      · exact c3 z (by omega) (by omega)
      · exact a3 z (by omega) (by omega)
      · exact g3 z (by omega) (by omega)
    · rintro ⟨a, b, c⟩
      exact ⟨⟨(ih hx).mpr ⟨by omega, by omega, fun z z1 z2 => c z (by omega) (by omega)⟩, by omega, (ih (by omega)).mpr ⟨by omega, by omega, fun z z1 z2 => c z (by omega) (by omega)⟩⟩, by omega, (ih (by omega)).mpr ⟨by omega, by omega, fun z z1 z2 => c z (by omega) (by omega)⟩⟩
def sp (g : Bool) (r : Nat → Bool) (n q : Nat) : Bool := if g = true then hO (fun x => vO (fun y => r (64 * y + x)) (q / 64) n) n (q % 64) else hA (fun x => vA (fun y => r (64 * y + x)) (q / 64) n) n (q % 64)
/-- near: by at most n in x, and in y -/
def near (n p q : Nat) : Prop := p / 64 ≤ q / 64 + n ∧ q / 64 ≤ p / 64 + n ∧ p % 64 ≤ q % 64 + n ∧ q % 64 ≤ p % 64 + n
theorem sp_t {r : Nat → Bool} {n q : Nat} (hq : q < 4096) : sp true r n q = true ↔ ∃ p, p < 4096 ∧ near n p q ∧ r p = true := by
  unfold sp
  rw [if_pos rfl, hO_iff _ _ (by omega)]
  constructor
  · rintro ⟨x, x1, x2, x3, x4⟩
    obtain ⟨y, y1, y2, y3, y4⟩ := (vO_iff _ (by omega) _).mp x4
    refine ⟨64 * y + x, by omega, ?_, y4⟩
    unfold near
    omega
  · rintro ⟨p, p1, p2, p3⟩
    unfold near at p2
    refine ⟨p % 64, by omega, by omega, by omega, (vO_iff _ (by omega) _).mpr ⟨p / 64, by omega, by omega, by omega, ?_⟩⟩
    rw [show 64 * (p / 64) + p % 64 = p by omega]
    exact p3
theorem sp_f {r : Nat → Bool} {n q : Nat} (hq : q < 4096) : sp false r n q = true ↔ n ≤ q % 64 ∧ q % 64 + n < 64 ∧ n ≤ q / 64 ∧ q / 64 + n < 64 ∧ ∀ p, p < 4096 → near n p q → r p = true := by
  unfold sp
  rw [if_neg (by decide), hA_iff _ _ (by omega)]
  constructor
  · rintro ⟨a, b, c⟩
    obtain ⟨d, e, f⟩ := (vA_iff _ (by omega) _).mp (c (q % 64) (by omega) (by omega))
    refine ⟨a, b, d, e, fun p p1 p2 => ?_⟩
    unfold near at p2
    have := ((vA_iff _ (by omega) _).mp (c (p % 64) (by omega) (by omega))).2.2 (p / 64) (by omega) (by omega)
    rw [show 64 * (p / 64) + p % 64 = p by omega] at this
    exact this
  · rintro ⟨a, b, c, d, e⟩
    refine ⟨a, b, fun x x1 x2 => (vA_iff _ (by omega) _).mpr ⟨c, d, fun y y1 y2 => e _ (by omega) ?_⟩⟩
    unfold near
    omega
theorem sp_congr {g : Bool} {r r' : Nat → Bool} {n q : Nat} (hq : q < 4096) (h : ∀ p, p < 4096 → r p = r' p) : sp g r n q = sp g r' n q := by
  cases g with
  | true =>
    have e : sp true r n q = true ↔ sp true r' n q = true := by
      rw [sp_t hq, sp_t hq]
      constructor
      · rintro ⟨p, a, b, c⟩
        exact ⟨p, a, b, by rw [← h p a]; exact c⟩
      · rintro ⟨p, a, b, c⟩
        exact ⟨p, a, b, by rw [h p a]; exact c⟩
    exact Bool.eq_iff_iff.mpr e
  | false =>
    have e : sp false r n q = true ↔ sp false r' n q = true := by
      rw [sp_f hq, sp_f hq]
      constructor
      · rintro ⟨a, b, c, d, e⟩
        exact ⟨a, b, c, d, fun p p1 p2 => by rw [← h p p1]; exact e p p1 p2⟩
      · rintro ⟨a, b, c, d, e⟩
        exact ⟨a, b, c, d, fun p p1 p2 => by rw [h p p1]; exact e p p1 p2⟩
    exact Bool.eq_iff_iff.mpr e
set_option maxHeartbeats 4000000 in
theorem w_spread {a : Nat} {N : Nat → Nat} {l st n : Nat} {g : Bool} {r : Nat → Bool} {M : cm} (hl : l < 16) (hn : n ≤ 9) (hN : st + 64 ≤ N a) (hNa : N a ≤ 1024) (hdis : a = 101 → st + 64 ≤ 64 * l ∨ 64 * l + 64 ≤ st) (hr : ∀ y x, y < 64 → x < 64 → bx (M.2 101 (64 * l + y)) x = r (64 * y + x)) :
    wp (f_X0_spread a N (zI ((64 * l : Nat) : Int)) (zI (st : Nat)) (zI (n : Nat)) (if g = true then 1 else 0) M) (fun M' => M'.1 = M.1 ∧ (∀ m k, ¬ (m = a ∧ st ≤ k ∧ k < st + 64) → M'.2 m k = M.2 m k) ∧ ∀ y x, y < 64 → x < 64 → bx (M'.2 a (st + y)) x = sp g r n (64 * y + x)) := by
  unfold f_X0_spread
  refine wp_s1 (fun M' => M'.1 = M.1 ∧ (∀ m k, ¬ (m = a ∧ st ≤ k ∧ k < st + 64) → M'.2 m k = M.2 m k) ∧ ∀ y x, y < 64 → x < 64 → bx (M'.2 a (st + y)) x = sp g r n (64 * y + x)) ?_ (fun _ h => wp_r h)
  generalize hfl : (if g = true then (1 : Int32) else 0) = fl
  rw [zI_lit]
  have hfz : fl = zI 0 ↔ g = false := by
    rw [← hfl]
    cases g with
    | true =>
      rw [if_pos rfl]
      constructor
      · intro h
        exact absurd h (by decide)
      · intro h
        exact absurd h (by decide)
    | false =>
      rw [if_neg (by decide)]
      exact ⟨fun _ => rfl, fun _ => rfl⟩
  refine lpc (fun f => f_X0_spread_L3 a N (zI ((64 * l : Nat) : Int)) (zI (st : Nat)) (zI (n : Nat)) fl f) _ 64 (fun k M1 => 0 ≤ k ∧ M1.1 = M.1 ∧ (∀ m k, ¬ (m = a ∧ st ≤ k ∧ k < st + 64) → M1.2 m k = M.2 m k) ∧ ∀ (y x : Nat), (y : Int) < k → y < 64 → x < 64 → bx (M1.2 a (st + y)) x = sp g r n (64 * y + x)) ?_ ?_ nm_F 0 M (by omega) (by rw [nm_F_eq]; omega) ⟨by omega, rfl, fun _ _ _ => rfl, fun y x hy => by omega⟩
  · rintro f k M1 hk ⟨h0, k1, k2, k3⟩ hn9
    show wp (f_X0_spread_L3 a N _ _ _ _ (f + 1) _ _) _
    obtain ⟨y, rfl⟩ := Int.eq_ofNat_of_zero_le h0
    have hy : y < 64 := by omega
    have hsrc : ∀ y' x, y' < 64 → x < 64 → bx (M1.2 101 (64 * l + y')) x = r (64 * y' + x) := by
      intro y' x hy' hx
      rw [k2 _ _ (by rintro ⟨h1, h2, h3⟩; have := hdis h1.symm; omega)]
      exact hr y' x hy' hx
    rw [f_X0_spread_L3]
    simp (disch := omega) only [zI_lit, zI_le, zI_add, nm_cz, zI_cl, nm_l_eq]
    rw [if_neg (by omega), show (((64 * l : Nat) : Int) + ((y : Nat) : Int)).toNat = 64 * l + y by omega, show (((st : Nat) : Int) + ((y : Nat) : Int)).toNat = st + y by omega]
    -- up and down
    refine wp_s1 (fun w => ∀ x, x < 64 → bx w x = if g = true then vO (fun z => r (64 * z + x)) y n else vA (fun z => r (64 * z + x)) y n) ?_ ?_
    · have key := lpm (fun f (t : Int64 × Int32) => f_X0_spread_L21 a N (zI ((64 * l : Nat) : Int)) (zI (n : Nat)) fl (zI (y : Nat)) M1 f t.1 t.2) (fun w => ∀ x, x < 64 → bx w x = if g = true then vO (fun z => r (64 * z + x)) y n else vA (fun z => r (64 * z + x)) y n) (fun t => ∃ d, d ≤ n ∧ t.2 = zI ((d + 1 : Nat) : Int) ∧ ∀ x, x < 64 → bx t.1 x = if g = true then vO (fun z => r (64 * z + x)) y d else vA (fun z => r (64 * z + x)) y d) (fun t => 20 - t.2.toInt.toNat) ?_ nm_F (M1.2 101 (64 * l + y), zI 1) (by show 20 - _ < nm_F; rw [nm_F_eq]; omega) ⟨0, by omega, rfl, fun x hx => ?_⟩
      · exact key
      · rintro f' ⟨w, i⟩ ⟨d, hd, hi, hw⟩ hk9
        simp only at hi hw
        subst hi
        show wp (f_X0_spread_L21 a N _ _ _ _ M1 (f' + 1) w _) _
        rw [f_X0_spread_L21]
        simp (disch := omega) only [zI_lit, zI_lt, zI_le, zI_add, zI_sub]
        refine wp_if (fun h => wp_r ?_) (fun h => ?_)
        · have : d = n := by omega
          subst this
          exact hw
        · have hnext : ∀ (u v : Int64), (∀ x, x < 64 → bx u x = (decide (d + 1 ≤ y) && r (64 * (y - (d + 1)) + x))) → (∀ x, x < 64 → bx v x = (decide (y + (d + 1) < 64) && r (64 * (y + (d + 1)) + x))) → wp (f_X0_spread_J74 a N fl w (zI ((d + 1 : Nat) : Int)) u v M1 (f_X0_spread_L21 a N (zI ((64 * l : Nat) : Int)) (zI (n : Nat)) fl (zI (y : Nat)) M1 f')) (fun w => ∀ x, x < 64 → bx w x = if g = true then vO (fun z => r (64 * z + x)) y n else vA (fun z => r (64 * z + x)) y n) := by
            intro u v hu hv
            have ht : ∀ w', (∀ x, x < 64 → bx w' x = if g = true then vO (fun z => r (64 * z + x)) y (d + 1) else vA (fun z => r (64 * z + x)) y (d + 1)) → wp (f_X0_spread_L21 a N (zI ((64 * l : Nat) : Int)) (zI (n : Nat)) fl (zI (y : Nat)) M1 f' w' (zI ((d + 1 : Nat) : Int) + 1)) (fun w => ∀ x, x < 64 → bx w x = if g = true then vO (fun z => r (64 * z + x)) y n else vA (fun z => r (64 * z + x)) y n) := by
              intro w' hw'
              refine hk9 (w', zI ((d + 1 : Nat) : Int) + 1) ⟨d + 1, by omega, ?_, hw'⟩ ?_
              · show zI _ + 1 = _
                rw [zI_inc]
                rfl
              · show 20 - (zI _ + 1).toInt.toNat < 20 - (zI _).toInt.toNat
                rw [zI_inc, zI_ti (by omega) (by omega), zI_ti (by omega) (by omega)]
                omega
            unfold f_X0_spread_J74 f_X0_spread_J100
            rw [zI_lit 0]
            refine wp_if (fun h => ht _ (fun x hx => ?_)) (fun h => ht _ (fun x hx => ?_))
            · have hg := hfz.mp h
              rw [bx_and, bx_and, hw x hx, hu x hx, hv x hx, hg]
              rfl
            · have hg : g = true := by
                cases g with
                | true => rfl
                | false => exact absurd (hfz.mpr rfl) h
              rw [bx_or, bx_or, hw x hx, hu x hx, hv x hx, hg]
              rfl
          have hbelow : ∀ u, (∀ x, x < 64 → bx u x = (decide (d + 1 ≤ y) && r (64 * (y - (d + 1)) + x))) → wp (f_X0_spread_J49 a N (zI ((64 * l : Nat) : Int)) fl (zI (y : Nat)) w (zI ((d + 1 : Nat) : Int)) u M1 (f_X0_spread_L21 a N (zI ((64 * l : Nat) : Int)) (zI (n : Nat)) fl (zI (y : Nat)) M1 f')) (fun w => ∀ x, x < 64 → bx w x = if g = true then vO (fun z => r (64 * z + x)) y n else vA (fun z => r (64 * z + x)) y n) := by
            intro u hu
            unfold f_X0_spread_J49
            simp (disch := omega) only [zI_lit, zI_lt, zI_add]
            refine wp_if (fun h => ?_) (fun h => ?_)
            · refine wp_cz (by omega) (by omega) (by omega) ?_
              rw [zI_cl (by omega) (by omega), show (((64 * l : Nat) : Int) + ((y : Nat) : Int) + ((d + 1 : Nat) : Int)).toNat = 64 * l + (y + (d + 1)) by omega]
              refine hnext u _ hu (fun x hx => ?_)
              rw [hsrc _ _ (by omega) hx]
              have : y + (d + 1) < 64 := by omega
              simp [this]
            · refine hnext u _ hu (fun x hx => ?_)
              have : ¬ y + (d + 1) < 64 := by omega
              simp [this, bx_0]
          refine wp_if (fun h => ?_) (fun h => ?_)
          · refine wp_cz (by omega) (by omega) (by omega) ?_
            rw [zI_cl (by omega) (by omega), show (((64 * l : Nat) : Int) + ((y : Nat) : Int) - ((d + 1 : Nat) : Int)).toNat = 64 * l + (y - (d + 1)) by omega]
            refine hbelow _ (fun x hx => ?_)
            rw [hsrc _ _ (by omega) hx]
            have : d + 1 ≤ y := by omega
            simp [this]
          · refine hbelow _ (fun x hx => ?_)
            have : ¬ d + 1 ≤ y := by omega
            simp [this, bx_0]
      · show bx (M1.2 101 (64 * l + y)) x = _
        rw [hsrc y x hy hx]
        cases g <;> rfl
    intro w hw
    -- left and right
    refine wp_s1 (fun v => ∀ x, x < 64 → bx v x = sp g r n (64 * y + x)) ?_ ?_
    · have key := lpm (fun f (t : Int64 × Int32) => f_X0_spread_L111 a N (zI (n : Nat)) fl M1 f t.1 t.2) (fun v => ∀ x, x < 64 → bx v x = sp g r n (64 * y + x)) (fun t => ∃ d, d ≤ n ∧ t.2 = zI ((d + 1 : Nat) : Int) ∧ ∀ x, x < 64 → bx t.1 x = if g = true then hO (fun x => vO (fun z => r (64 * z + x)) y n) d x else hA (fun x => vA (fun z => r (64 * z + x)) y n) d x) (fun t => 20 - t.2.toInt.toNat) ?_ nm_F (w, zI 1) (by show 20 - _ < nm_F; rw [nm_F_eq]; omega) ⟨0, by omega, rfl, fun x hx => by show bx w x = _; rw [hw x hx]; rfl⟩
      · exact key
      · rintro f' ⟨v, i⟩ ⟨d, hd, hi, hv⟩ hk9
        simp only at hi hv
        subst hi
        show wp (f_X0_spread_L111 a N _ _ M1 (f' + 1) v _) _
        rw [f_X0_spread_L111]
        simp (disch := omega) only [zI_lit, zI_lt, f_X0_spread_J150]
        refine wp_if (fun h => wp_r ?_) (fun h => ?_)
        · have : d = n := by omega
          subst this
          intro x hx
          rw [hv x hx]
          unfold sp
          rw [show (64 * y + x) / 64 = y by omega, show (64 * y + x) % 64 = x by omega]
        · have ht : ∀ v', (∀ x, x < 64 → bx v' x = if g = true then hO (fun x => vO (fun z => r (64 * z + x)) y n) (d + 1) x else hA (fun x => vA (fun z => r (64 * z + x)) y n) (d + 1) x) → wp (f_X0_spread_L111 a N (zI (n : Nat)) fl M1 f' v' (zI ((d + 1 : Nat) : Int) + zI 1)) (fun v => ∀ x, x < 64 → bx v x = sp g r n (64 * y + x)) := by
            intro v' hv'
            refine hk9 (v', zI ((d + 1 : Nat) : Int) + zI 1) ⟨d + 1, by omega, ?_, hv'⟩ ?_
            · show zI _ + zI 1 = _
              rw [zI_add]
              rfl
            · show 20 - (zI _ + zI 1).toInt.toNat < 20 - (zI _).toInt.toNat
              rw [zI_add, zI_ti (by omega) (by omega), zI_ti (by omega) (by omega)]
              omega
          have e1 : ∀ x, x < 64 → bx (nm_shl v (zI 1)) x = (decide (1 ≤ x) && bx v (x - 1)) := fun x hx => bx_shl v (k := 1) (by omega) hx
          have e2 : ∀ x, bx (nm_shr v (zI 1)) x = bx v (x + 1) := fun x => bx_shr v (k := 1) (by omega) x
          have e3 : ∀ x, bx v (x + 1) = (decide (x + 1 < 64) && bx v (x + 1)) := by
            intro x
            by_cases h : x + 1 < 64
            · simp [h]
            · rw [bx_big (by omega)]
              simp
          refine wp_if (fun h => ht _ (fun x hx => ?_)) (fun h => ht _ (fun x hx => ?_))
          · have hg := hfz.mp h
            rw [hg] at hv
            have hv' : ∀ x, x < 64 → bx v x = hA (fun x => vA (fun z => r (64 * z + x)) y n) d x := fun x hx => hv x hx
            rw [bx_and, bx_and, e1 x hx, e2, e3, hg, hv' x hx]
            show _ = hA (fun x => vA (fun z => r (64 * z + x)) y n) (d + 1) x
            rw [hA_s]
            congr 1
            · congr 1
              by_cases h1 : 1 ≤ x
              · rw [hv' (x - 1) (by omega)]
              · simp [h1]
            · by_cases h1 : x + 1 < 64
              · rw [hv' (x + 1) h1]
              · simp [h1]
          · have hg : g = true := by
              cases g with
              | true => rfl
              | false => exact absurd (hfz.mpr rfl) h
            rw [hg] at hv
            have hv' : ∀ x, x < 64 → bx v x = hO (fun x => vO (fun z => r (64 * z + x)) y n) d x := fun x hx => hv x hx
            rw [bx_or, bx_or, e1 x hx, e2, e3, hg, hv' x hx]
            show _ = hO (fun x => vO (fun z => r (64 * z + x)) y n) (d + 1) x
            rw [hO_s]
            congr 1
            · congr 1
              by_cases h1 : 1 ≤ x
              · rw [hv' (x - 1) (by omega)]
              · simp [h1]
            · by_cases h1 : x + 1 < 64
              · rw [hv' (x + 1) h1]
              · simp [h1]
    intro v hv
    refine hn9 _ ⟨by omega, k1, ?_, ?_⟩
    · intro m j hm
      show nm_upJ _ _ _ _ _ _ = _
      rw [nm_upJ_ap, if_neg (by rintro ⟨h1, h2⟩; exact hm ⟨h1, by omega, by omega⟩)]
      exact k2 m j hm
    · intro y' x hy' hy64 hx
      show bx (nm_upJ _ _ _ _ _ _) x = _
      rw [nm_upJ_ap]
      by_cases he : y' = y
      · subst he
        rw [if_pos ⟨rfl, rfl⟩]
        exact hv x hx
      · rw [if_neg (by omega)]
        exact k3 y' x (by omega) hy64 hx
  · rintro f M1 ⟨h0, k1, k2, k3⟩
    show wp (f_X0_spread_L3 a N _ _ _ _ (f + 1) _ _) _
    rw [f_X0_spread_L3]
    simp (disch := omega) only [zI_lit, zI_le, Int.le_refl, if_true]
    exact wp_r ⟨k1, k2, fun y x hy hx => k3 y x (by omega) hy hx⟩
