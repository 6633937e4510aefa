/-! a group numbered: what its calls answer; Groups.measure -/
def gD (S : ca) (o Y : Nat) (r : Nat → Bool) (C : Nat → Nat → Prop) (lab : Nat → Int) (cnt : Nat) : Prop :=
  gR S.1 o Y r ∧ gF S.1 o Y r ∧ (∀ p, p < 64 * Y → r p = true → S.1.1 (o + 6) (stp r p) = zI (lab p)) ∧ S.1.1 o 7 = zI ((pc (hdp r) (64 * Y) : Nat) : Int) ∧ pc (hdp r) (64 * Y) ≤ S.2 (o + 6) ∧ S.1.1 o 1 = zI ((cnt : Nat) : Int) ∧ Lab r C (64 * Y) lab cnt
theorem bit_cmp (w : Int64) {x : Nat} (hx : x < 64) : (lg_cmp (nm_shr w (zI x) &&& 1) 0 = 0) ↔ bx w x = false := by
  rw [bx_cmp0]
  have h1 : ∀ i, i < 64 → bx 1 i = decide (i = 0) := by decide +kernel
  constructor
  · intro h
    have := congrArg (fun v => bx v 0) h
    simp only [bx_and, bx_shr w hx, h1 0 (by omega), bx_0] at this
    simpa using this
  · intro h
    apply bx_ext
    intro i hi
    rw [bx_and, bx_shr w hx, h1 i hi, bx_0]
    by_cases h0 : i = 0
    · subst h0
      simp [h]
    · simp [h0]
theorem w_groupAt {S : ca} {o Y : Nat} {r : Nat → Bool} {C : Nat → Nat → Prop} {lab : Nat → Int} {cnt : Nat} (ho : gN o Y) (hc : cO S.2) (hg : gD S o Y r C lab cnt) {y x : Nat} (hy : y < Y) (hx : x < 64) : f_X4_groupAt o S.2 (zI y) (zI x) S.1 = some (zI (lab (64 * y + x))) := by
  obtain ⟨g1, g2, g3, g4, g5, g6, g7⟩ := hg
  obtain ⟨ho6, hcap, hY, hY1, hoN⟩ := ho
  have hl := hoN _ hc.1
  have hcp := cap_le (o + 6)
  unfold f_X4_groupAt
  rw [hl.1]
  simp (disch := omega) only [nm_cz, zI_cl]
  rw [show ((y : Nat) : Int).toNat = y from rfl]
  have hb := bit_cmp (S.1.2 (o + 1) y) hx
  rw [g1 y x hy hx] at hb
  cases hr : r (64 * y + x) with
  | false =>
    rw [hr] at hb
    rw [if_pos (hb.mpr rfl), g7.1 _ (by omega) hr]
    rfl
  | true =>
    rw [hr] at hb
    rw [if_neg (fun h => by have := hb.mp h; exact absurd this (by decide)), w_stretchAt g1 g2 hl.1 hl.2 hY hy hx hr]
    simp only [nm_s1_some]
    have hs := stp_lt (r := r) (show 64 * y + x < 64 * Y by omega) hr
    have hb2 := pc_le2 (f := hdp r) (n := 64 * Y) (m := 65536) (by omega)
    simp (disch := omega) only [nm_cz, zI_cl]
    rw [show ((stp r (64 * y + x) : Nat) : Int).toNat = stp r (64 * y + x) from rfl, g3 _ (by omega) hr]
/-- sizes, leasts and greatests of the parts -/
def Meas (r : Nat → Bool) (C : Nat → Nat → Prop) (M : Nat) (lab : Nat → Int) (g : Nat) (size least great : Int) : Prop :=
  size = ((pc (fun q => decide (lab q = (g : Int))) M : Nat) : Int) ∧ (∃ d : Nat, d < M ∧ ldr r C d = true ∧ pc (ldr r C) d = g ∧ least = d) ∧ ∃ e : Nat, e < M ∧ lab e = g ∧ (∀ q, q < M → lab q = g → q ≤ e) ∧ great = e
theorem Meas_un {r : Nat → Bool} {C : Nat → Nat → Prop} {M : Nat} {lab lab' : Nat → Int} {g : Nat} {a b c a' b' c' : Int} (hl : ∀ q, q < M → lab q = lab' q) (h : Meas r C M lab g a b c) (h' : Meas r C M lab' g a' b' c') : a = a' ∧ b = b' ∧ c = c' := by
  obtain ⟨e1, ⟨d, d1, d2, d3, d4⟩, e, f1, f2, f3, f4⟩ := h
  obtain ⟨e1', ⟨d', d1', d2', d3', d4'⟩, e', f1', f2', f3', f4'⟩ := h'
  refine ⟨?_, ?_, ?_⟩
  · rw [e1, e1', pc_congr (fun q hq => by rw [hl q hq])]
  · rw [d4, d4', pc_inj d2 d2' (by omega)]
  · have h1 := f3 e' f1' (by rw [hl e' f1', f2'])
    have h2 := f3' e f1 (by rw [← hl e f1, f2])
    omega
def prc (r : Nat → Bool) (P q : Nat) : Bool := r q && decide (stp r q < pc (hdp r) P)
def gP (S : ca) (o : Nat) (r : Nat → Bool) (C : Nat → Nat → Prop) (lab : Nat → Int) (cnt P : Nat) : Prop :=
  ∀ g, g < cnt → S.1.1 (o + 2) g = zI ((pc (fun q => prc r P q && decide (lab q = (g : Int))) 4096 : Nat) : Int) ∧ ∀ q, q < 4096 → prc r P q = true → lab q = g → (∃ d : Nat, d < 4096 ∧ ldr r C d = true ∧ pc (ldr r C) d = g ∧ S.1.1 (o + 3) g = zI d) ∧ ∃ e : Nat, e < 4096 ∧ prc r P e = true ∧ lab e = g ∧ (∀ q', q' < 4096 → prc r P q' = true → lab q' = g → q' ≤ e) ∧ S.1.1 (o + 4) g = zI e
theorem hdp_r {r : Nat → Bool} {p : Nat} (h : hdp r p = true) : r p = true := by
  unfold hdp at h
  simp at h
  exact h.1
theorem run_stp {r : Nat → Bool} {y x s : Nat} (hx : x < 64) (hh : hdp r (64 * y + x) = true) (h1 : x + s ≤ 64) (h2 : ∀ j, x ≤ j → j < x + s → r (64 * y + j) = true) (h3 : x + s < 64 → r (64 * y + (x + s)) = false) {q : Nat} (hq : r q = true) : stp r q = pc (hdp r) (64 * y + x) ↔ 64 * y + x ≤ q ∧ q < 64 * y + x + s := by
  constructor
  · intro h
    obtain ⟨p, a1, a2, a3, a4, a5, a6⟩ := stp_ex hq
    have e : p = 64 * y + x := pc_inj a2 hh (by omega)
    subst e
    refine ⟨a1, ?_⟩
    apply Classical.byContradiction
    intro hn
    by_cases h64 : x + s < 64
    · have := a4 (64 * y + (x + s)) (by omega) (by omega)
      rw [h3 h64] at this
      exact absurd this (by decide)
    · omega
  · rintro ⟨b1, b2⟩
    have hno : ∀ z, 64 * y + x + 1 ≤ z → z < q + 1 → hdp r z = false := by
      intro z z1 z2
      have r1 := h2 (z - 64 * y) (by omega) (by omega)
      have r2 := h2 (z - 1 - 64 * y) (by omega) (by omega)
      rw [show 64 * y + (z - 64 * y) = z by omega] at r1
      rw [show 64 * y + (z - 1 - 64 * y) = z - 1 by omega] at r2
      unfold hdp
      have : 1 ≤ z % 64 := by omega
      simp [r2, this]
    unfold stp
    rw [pc_flat (show 64 * y + x + 1 ≤ q + 1 by omega) hno, pc_s, hh]
    rfl
theorem zI_inj {a b : Int} (h1 : -2147483648 ≤ a) (h2 : a < 2147483648) (h3 : -2147483648 ≤ b) (h4 : b < 2147483648) (h : zI a = zI b) : a = b := (zI_eq h1 h2 h3 h4).mp h
theorem pc_pos {f : Nat → Bool} {n : Nat} (h : pc f n ≠ 0) : ∃ q, q < n ∧ f q = true := by
  apply Classical.byContradiction
  intro hn
  apply h
  apply pc_false
  intro i hi
  cases hb : f i with
  | false => rfl
  | true => exact absurd ⟨i, hi, hb⟩ hn
