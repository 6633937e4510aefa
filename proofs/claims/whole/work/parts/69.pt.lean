/-! how many squares a layer has -/
theorem w_squaresOf {S : ca} {D : Nat → Bool} (hD : dR S D) {l : Nat} (hl : l < 16) : f_X3_squaresOf (zI (l : Nat)) S.1 = some (zI ((pc (rl D l) 4096 : Nat) : Int)) := by
  apply wp_eq
  unfold f_X3_squaresOf
  refine wp_s1 (fun v => v = zI ((pc (rl D l) 4096 : Nat) : Int)) ?_ (fun _ h => wp_r h)
  rw [zI_0]
  refine lpm (fun f (t : Int32 × Int32) => f_X3_squaresOf_L4 (zI (l : Nat)) S.1 f t.1 t.2) _ (fun t => ∃ y, y ≤ 64 ∧ t.2 = zI ((y : Nat) : Int) ∧ t.1 = zI ((pc (rl D l) (64 * y) : Nat) : Int)) (fun t => 100 - t.2.toInt.toNat) ?_ nm_F (zI 0, zI 0) (by show 100 - _ < nm_F; rw [nm_F_eq]; omega) ⟨0, by omega, rfl, rfl⟩
  rintro f ⟨u, v⟩ ⟨y, hy, e1, e2⟩ hn9
  simp only at e1 e2
  subst e1
  subst e2
  have hpc := pc_le (rl D l) (64 * y)
  show wp (f_X3_squaresOf_L4 _ _ (f + 1) _ _) _
  rw [f_X3_squaresOf_L4]
  simp (disch := omega) only [zI_lit, zI_le, zI_mul, zI_add, nm_l_eq]
  refine wp_if (fun h => wp_r ?_) (fun h => ?_)
  · have : y = 64 := by omega
    rw [this]
  · refine wp_cz (by omega) (by omega) (by omega) ?_
    rw [zI_cl (by omega) (by omega), show (64 * ((l : Nat) : Int) + ((y : Nat) : Int)).toNat = 64 * l + y by omega, bc_eq, zI_add]
    refine hn9 (_, _) ⟨y + 1, by omega, rfl, ?_⟩ ?_
    · refine congrArg zI ?_
      rw [show 64 * (y + 1) = 64 * y + 64 by omega, pc_line (rl D l) y 64, pc_congr (f := bx (S.1.2 101 (64 * l + y))) (g := fun i => rl D l (64 * y + i)) (n := 64) (fun x hx => dR_rl hD hl (by omega) hx)]
      rfl
    · show 100 - (zI _).toInt.toNat < 100 - (zI _).toInt.toNat
      rw [zI_ti (by omega) (by omega), zI_ti (by omega) (by omega)]
      omega
theorem w_areaOf {I : nm_I} {D : Nat → Bool} (hO : oR I D) {l : Nat} (hl : l < 16) : f_X12_areaOf (zI (l : Nat)) I = some (zI ((pc (rl D l) 4096 : Nat) : Int)) := by
  apply wp_eq
  unfold f_X12_areaOf
  refine wp_s1 (fun v => v = zI ((pc (rl D l) 4096 : Nat) : Int)) ?_ (fun _ h => wp_r h)
  rw [zI_0]
  refine lpm (fun f (t : Int32 × Int32) => f_X12_areaOf_L4 (zI (l : Nat)) I f t.1 t.2) _ (fun t => ∃ s, s ≤ 4096 ∧ t.2 = zI ((s : Nat) : Int) ∧ t.1 = zI ((pc (rl D l) s : Nat) : Int)) (fun t => 5000 - t.2.toInt.toNat) ?_ nm_F (zI 0, zI 0) (by show 5000 - _ < nm_F; rw [nm_F_eq]; omega) ⟨0, by omega, rfl, rfl⟩
  rintro f ⟨u, v⟩ ⟨s, hs, e1, e2⟩ hn9
  simp only at e1 e2
  subst e1
  subst e2
  have hpc := pc_le (rl D l) s
  show wp (f_X12_areaOf_L4 _ _ (f + 1) _ _) _
  rw [f_X12_areaOf_L4]
  unfold f_X12_areaOf_J32
  simp (disch := omega) only [zI_lit, zI_le, zI_mul, zI_add, nm_l_eq]
  refine wp_if (fun h => wp_r ?_) (fun h => ?_)
  · have : s = 4096 := by omega
    rw [this]
  · refine wp_cz (by omega) (by omega) (by omega) ?_
    rw [zI_cl (by omega) (by omega), show (4096 * ((l : Nat) : Int) + ((s : Nat) : Int)).toNat = 4096 * l + s by omega]
    have o := oR_0 hO (p := 4096 * l + s) (by omega)
    have hrl : rl D l s = D (4096 * l + s) := by
      have : s < 4096 := by omega
      simp [rl, this]
    have hm : 5000 - (zI (((s : Nat) : Int) + 1)).toInt.toNat < 5000 - (zI ((s : Nat) : Int)).toInt.toNat := by
      rw [zI_ti (by omega) (by omega), zI_ti (by omega) (by omega)]
      omega
    refine wp_if (fun h2 => ?_) (fun h2 => ?_)
    · refine hn9 (_, _) ⟨s + 1, by omega, rfl, ?_⟩ hm
      rw [pc_s, hrl, o.mp h2]
      exact congrArg zI (by show _ = ((pc (rl D l) s + 0 : Nat) : Int); omega)
    · refine hn9 (_, _) ⟨s + 1, by omega, rfl, ?_⟩ hm
      have : D (4096 * l + s) = true := by
        cases hd : D (4096 * l + s) with
        | true => rfl
        | false => exact absurd (o.mpr hd) h2
      rw [pc_s, hrl, this]
      exact congrArg zI (by show _ = ((pc (rl D l) s + 1 : Nat) : Int); omega)
/-! rows turned round -/
def ex2 (s x : Nat) : Nat := if (x / s) % 2 = 0 then x + s else x - s
theorem rev_st {s : Nat} (hs : s = 1 ∨ s = 2 ∨ s = 4 ∨ s = 8 ∨ s = 16) {m : Int64} (hm : ∀ x, x < 64 → bx m x = decide ((x / s) % 2 = 0)) (t : Int64) {x : Nat} (hx : x < 64) : bx (nm_shl (t &&& m) (zI (s : Nat)) ||| (nm_shr t (zI (s : Nat)) &&& m)) x = bx t (ex2 s x) := by
  have hs64 : s < 64 := by omega
  have hb : (x / s) % 2 = 0 → x + s < 64 := by
    rcases hs with h | h | h | h | h <;> subst h <;> omega
  have hb2 : ¬ (x / s) % 2 = 0 → s ≤ x ∧ ((x - s) / s) % 2 = 0 := by
    rcases hs with h | h | h | h | h <;> subst h <;> omega
  have hb3 : (x / s) % 2 = 0 → s ≤ x → ¬ ((x - s) / s) % 2 = 0 := by
    rcases hs with h | h | h | h | h <;> subst h <;> omega
  rw [bx_or, bx_and, bx_shl _ hs64 hx, bx_shr _ hs64, hm x hx]
  unfold ex2
  by_cases h : (x / s) % 2 = 0
  · rw [if_pos h]
    by_cases h2 : s ≤ x
    · rw [bx_and, hm (x - s) (by omega)]
      simp [h, hb3 h h2]
    · simp [h, h2]
  · rw [if_neg h, bx_and, hm (x - s) (by omega)]
    have := hb2 h
    simp [h, this.1, this.2]
theorem w_reversed (t : Int64) {x : Nat} (hx : x < 64) : bx (f_X0_reversed t) x = bx t (63 - x) := by
  unfold f_X0_reversed
  simp only [nm_l_eq, zI_lit]
  generalize e1 : (nm_shl (t &&& 6148914691236517205) (zI 1) ||| (nm_shr t (zI 1) &&& 6148914691236517205)) = v1
  generalize e2 : (nm_shl (v1 &&& 3689348814741910323) (zI 2) ||| (nm_shr v1 (zI 2) &&& 3689348814741910323)) = v2
  generalize e3 : (nm_shl (v2 &&& 1085102592571150095) (zI 4) ||| (nm_shr v2 (zI 4) &&& 1085102592571150095)) = v3
  generalize e4 : (nm_shl (v3 &&& 71777214294589695) (zI 8) ||| (nm_shr v3 (zI 8) &&& 71777214294589695)) = v4
  generalize e5 : (nm_shl (v4 &&& 281470681808895) (zI 16) ||| (nm_shr v4 (zI 16) &&& 281470681808895)) = v5
  have q1 : ∀ x, x < 64 → bx v1 x = bx t (ex2 1 x) := fun x hx => by rw [← e1]; exact rev_st (s := 1) (by omega) (by decide +kernel) t hx
  have q2 : ∀ x, x < 64 → bx v2 x = bx v1 (ex2 2 x) := fun x hx => by rw [← e2]; exact rev_st (s := 2) (by omega) (by decide +kernel) v1 hx
  have q3 : ∀ x, x < 64 → bx v3 x = bx v2 (ex2 4 x) := fun x hx => by rw [← e3]; exact rev_st (s := 4) (by omega) (by decide +kernel) v2 hx
  have q4 : ∀ x, x < 64 → bx v4 x = bx v3 (ex2 8 x) := fun x hx => by rw [← e4]; exact rev_st (s := 8) (by omega) (by decide +kernel) v3 hx
  have q5 : ∀ x, x < 64 → bx v5 x = bx v4 (ex2 16 x) := fun x hx => by rw [← e5]; exact rev_st (s := 16) (by omega) (by decide +kernel) v4 hx
  have q6 : bx (nm_shl v5 (zI 32) ||| nm_shr v5 (zI 32)) x = bx v5 (ex2 32 x) := by
    have a1 := bx_shl v5 (k := 32) (by omega) hx
    have a2 := bx_shr v5 (k := 32) (by omega) x
    have a1 : bx (nm_shl v5 (zI 32)) x = (decide (32 ≤ x) && bx v5 (x - 32)) := a1
    have a2 : bx (nm_shr v5 (zI 32)) x = bx v5 (x + 32) := a2
    rw [bx_or, a1, a2]
    unfold ex2
    by_cases h : 32 ≤ x
    · rw [if_neg (by omega), bx_big (show 64 ≤ x + 32 by omega)]
      simp [h]
    · rw [if_pos (by omega)]
      simp [h]
  have hr : ∀ x, x < 64 → ex2 32 x < 64 ∧ ex2 16 (ex2 32 x) < 64 ∧ ex2 8 (ex2 16 (ex2 32 x)) < 64 ∧ ex2 4 (ex2 8 (ex2 16 (ex2 32 x))) < 64 ∧ ex2 2 (ex2 4 (ex2 8 (ex2 16 (ex2 32 x)))) < 64 ∧ ex2 1 (ex2 2 (ex2 4 (ex2 8 (ex2 16 (ex2 32 x))))) = 63 - x := by decide +kernel
  obtain ⟨h1, h2, h3, h4, h5, h6⟩ := hr x hx
  rw [q6, q5 _ h1, q4 _ h2, q3 _ h3, q2 _ h4, q1 _ h5, h6]
theorem w_moved (w : Int64) {z : Int} (h1 : -1000 ≤ z) (h2 : z ≤ 1000) {x : Nat} (hx : x < 64) : bx (f_X0_moved w (zI z)) x = (decide (0 ≤ (x : Int) - z ∧ (x : Int) - z < 64) && bx w ((x : Int) - z).toNat) := by
  unfold f_X0_moved
  simp (disch := omega) only [zI_lit, zI_neg, zI_le, zI_lt]
  by_cases a1 : z ≤ -64
  · rw [if_pos a1, bx_0]
    have : ¬ (0 ≤ (x : Int) - z ∧ (x : Int) - z < 64) := by omega
    rw [decide_eq_false this, Bool.false_and]
  · rw [if_neg a1]
    by_cases a2 : z < 64
    · rw [if_pos a2]
      by_cases a3 : z < 0
      · rw [if_pos a3]
        obtain ⟨k, rfl⟩ : ∃ k : Nat, z = -(k : Int) := ⟨(-z).toNat, by omega⟩
        rw [show -(-((k : Nat) : Int)) = ((k : Nat) : Int) by omega, bx_shr w (by omega), show ((x : Int) - -((k : Nat) : Int)).toNat = x + k by omega]
        by_cases a4 : x + k < 64
        · have : 0 ≤ (x : Int) - -((k : Nat) : Int) ∧ (x : Int) - -((k : Nat) : Int) < 64 := by omega
          rw [decide_eq_true this, Bool.true_and]
        · rw [bx_big (by omega)]
          simp
      · rw [if_neg a3]
        obtain ⟨k, rfl⟩ := Int.eq_ofNat_of_zero_le (show 0 ≤ z by omega)
        rw [bx_shl w (by omega) hx]
        by_cases a4 : k ≤ x
        · have : 0 ≤ (x : Int) - ((k : Nat) : Int) ∧ (x : Int) - ((k : Nat) : Int) < 64 := by omega
          rw [show ((x : Int) - ((k : Nat) : Int)).toNat = x - k by omega]
          simp [this, a4]
        · have : ¬ (0 ≤ (x : Int) - ((k : Nat) : Int) ∧ (x : Int) - ((k : Nat) : Int) < 64) := by omega
          simp [this, a4]
    · rw [if_neg a2, bx_0]
      have : ¬ (0 ≤ (x : Int) - z ∧ (x : Int) - z < 64) := by omega
      rw [decide_eq_false this, Bool.false_and]
