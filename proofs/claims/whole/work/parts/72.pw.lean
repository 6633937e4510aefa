/-! a PUT's squares, all its times -/
/-- a square q comes of the square p of the other cell, i times across, j times down -/
def brq (sq n : Nat) (mir : Bool) (fa fd : Int) (i j p : Nat) (Y X : Nat) : Prop := pX n mir ((p % 64 : Nat) : Int) ((p / 64 : Nat) : Int) + ((sq % 64 : Nat) : Int) + (i : Int) * fa = X ∧ pY n mir ((p % 64 : Nat) : Int) ((p / 64 : Nat) : Int) + ((sq / 64 : Nat) : Int) + (j : Int) * fd = Y
def brP (g : Nat → Bool) (sq n : Nat) (mir : Bool) (ta td : Nat) (fa fd : Int) (Y X : Nat) : Prop := ∃ p i j, p < 4096 ∧ g p = true ∧ i < ta ∧ j < td ∧ brq sq n mir fa fd i j p Y X
theorem hm3_iff {M : cm} {sq n : Nat} {mir : Bool} {fa fd : Int} (hn : n < 4) {g : Nat → Bool} (hg : ∀ Y X, Y < 64 → X < 64 → bx (M.2 3 Y) X = g (64 * (sT mir n (Y, X)).1 + (sT mir n (Y, X)).2)) {i j Y X : Nat} : hm3 M (lY n mir + (((sq / 64 : Nat) : Int) + (j : Int) * fd)) (lX n mir + (((sq % 64 : Nat) : Int) + (i : Int) * fa)) Y X ↔ ∃ p, p < 4096 ∧ g p = true ∧ brq sq n mir fa fd i j p Y X := by
  constructor
  · rintro ⟨⟨h1, h2, h3, h4⟩, h5⟩
    rw [hg _ _ (by omega) (by omega)] at h5
    obtain ⟨a1, a2, a3, a4⟩ := sT_fwd (mir := mir) hn (Y := ((Y : Int) - (lY n mir + (((sq / 64 : Nat) : Int) + (j : Int) * fd))).toNat) (X := ((X : Int) - (lX n mir + (((sq % 64 : Nat) : Int) + (i : Int) * fa))).toNat) (by omega) (by omega)
    generalize sT mir n (((Y : Int) - (lY n mir + (((sq / 64 : Nat) : Int) + (j : Int) * fd))).toNat, ((X : Int) - (lX n mir + (((sq % 64 : Nat) : Int) + (i : Int) * fa))).toNat) = s at *
    refine ⟨64 * s.1 + s.2, by omega, h5, ?_⟩
    unfold brq
    rw [show (64 * s.1 + s.2) % 64 = s.2 by omega, show (64 * s.1 + s.2) / 64 = s.1 by omega, a3, a4]
    constructor <;> omega
  · rintro ⟨p, p1, p2, p3, p4⟩
    obtain ⟨y, x, b1, b2, b3, b4, b5⟩ := sT_bwd (mir := mir) hn (c := p % 64) (r := p / 64) (by omega) (by omega)
    rw [b4] at p3
    rw [b5] at p4
    have ey : (Y : Int) - (lY n mir + (((sq / 64 : Nat) : Int) + (j : Int) * fd)) = (y : Int) := by omega
    have ex : (X : Int) - (lX n mir + (((sq % 64 : Nat) : Int) + (i : Int) * fa)) = (x : Int) := by omega
    refine ⟨by omega, ?_⟩
    rw [ey, ex, Int.toNat_natCast, Int.toNat_natCast, hg y x b1 b2, b3]
    show g (64 * (p / 64) + p % 64) = true
    rw [show 64 * (p / 64) + p % 64 = p by omega]
    exact p2
theorem mul_rng {i : Nat} {f : Int} (hi : i ≤ 3) (h1 : -63 ≤ f) (h2 : f ≤ 63) : -189 ≤ (i : Int) * f ∧ (i : Int) * f ≤ 189 := by
  have h : i = 0 ∨ i = 1 ∨ i = 2 ∨ i = 3 := by omega
  rcases h with rfl | rfl | rfl | rfl <;> omega
theorem w_xOf {M : cm} {pz sq n : Nat} {mir : Bool} {ta td : Nat} {fa fd : Int} (h : putM M pz sq n mir ta td fa fd) {i : Int} : f_X7_xOf pz (zI i) M = zI (((sq % 64 : Nat) : Int) + i * fa) := by
  obtain ⟨⟨h2, h3, h4, h5, h6, h7, h8⟩, hsq, -⟩ := h
  unfold f_X7_xOf
  rw [h2, h5]
  simp (disch := omega) only [zI_lit, zI_div, zI_mul, zI_sub, zI_add]
  congr 1
  omega
theorem w_yOf {M : cm} {pz sq n : Nat} {mir : Bool} {ta td : Nat} {fa fd : Int} (h : putM M pz sq n mir ta td fa fd) {i : Int} : f_X7_yOf pz (zI i) M = zI (((sq / 64 : Nat) : Int) + i * fd) := by
  obtain ⟨⟨h2, h3, h4, h5, h6, h7, h8⟩, hsq, -⟩ := h
  unfold f_X7_yOf
  rw [h2, h6]
  simp (disch := omega) only [zI_lit, zI_div, zI_mul, zI_sub, zI_add]
  rfl
theorem hm3_eq {M M' : cm} {w l : Nat} (hw3 : w + 2 ≠ 3) (h : rD w l M M') (oy ox : Int) (Y X : Nat) : hm3 M' oy ox Y X ↔ hm3 M oy ox Y X := by
  unfold hm3
  rw [h.2 3 _ (fun h => hw3 h.1.symm)]
set_option maxHeartbeats 2000000 in
theorem w_bringMap {w : Nat} (hw3 : w + 2 ≠ 3) {N : Nat → Nat} (hN : N (w + 2) = 512) {l : Nat} (hl : l < 8) {M : cm} {pz sq n : Nat} {mir : Bool} {ta td : Nat} {fa fd : Int} (h : putM M pz sq n mir ta td fa fd) {g : Nat → Bool} (hg : ∀ Y X, Y < 64 → X < 64 → bx (M.2 3 Y) X = g (64 * (sT mir n (Y, X)).1 + (sT mir n (Y, X)).2)) : wp (f_X1_bringMap w pz N (zI (l : Nat)) M) (fun M' => rD w l M M' ∧ ∀ Y X, Y < 64 → X < 64 → (bx (M'.2 (w + 2) (64 * l + Y)) X = true ↔ bx (M.2 (w + 2) (64 * l + Y)) X = true ∨ brP g sq n mir ta td fa fd Y X)) := by
  have hp := h
  obtain ⟨⟨h2, h3, h4, h5, h6, h7, h8⟩, hsq, hn, hta, htd, ⟨f1, f2⟩, f3, f4⟩ := hp
  have hlr := lX_rng (mir := mir) hn
  unfold f_X1_bringMap
  simp only [nm_l_eq]
  rw [show (0 : Int32) = zI 0 from rfl, show (63 : Int32) = zI 63 from rfl, w_turnedX h, w_turnedX h, w_turnedY h, w_turnedY h]
  have eX : nm_min (zI (pX n mir 0 0)) (zI (pX n mir 63 63)) = zI (lX n mir) := by
    have hh : n = 0 ∨ n = 1 ∨ n = 2 ∨ n = 3 := by omega
    rcases hh with rfl | rfl | rfl | rfl <;> cases mir <;> decide
  have eY : nm_min (zI (pY n mir 0 0)) (zI (pY n mir 63 63)) = zI (lY n mir) := by
    have hh : n = 0 ∨ n = 1 ∨ n = 2 ∨ n = 3 := by omega
    rcases hh with rfl | rfl | rfl | rfl <;> cases mir <;> decide
  rw [eX, eY]
  refine wp_s1 (fun M' => rD w l M M' ∧ ∀ Y X, Y < 64 → X < 64 → (bx (M'.2 (w + 2) (64 * l + Y)) X = true ↔ bx (M.2 (w + 2) (64 * l + Y)) X = true ∨ brP g sq n mir ta td fa fd Y X)) ?_ (fun _ h => wp_r h)
  refine lpc (fun f => f_X1_bringMap_L41 w pz N (zI (l : Nat)) (zI (lX n mir)) (zI (lY n mir)) f) _ td (fun j M1 => 0 ≤ j ∧ rD w l M M1 ∧ ∀ Y X, Y < 64 → X < 64 → (bx (M1.2 (w + 2) (64 * l + Y)) X = true ↔ bx (M.2 (w + 2) (64 * l + Y)) X = true ∨ ∃ (i' j' : Nat), i' < ta ∧ (j' : Int) < j ∧ hm3 M (lY n mir + (((sq / 64 : Nat) : Int) + (j' : Int) * fd)) (lX n mir + (((sq % 64 : Nat) : Int) + (i' : Int) * fa)) Y X)) ?_ ?_ nm_F 0 M (by omega) (by rw [nm_F_eq]; omega) ⟨by omega, ⟨rfl, fun _ _ _ => rfl⟩, fun Y X hY hX => ?_⟩
  · rintro f j M1 hj ⟨j0, d1, hI⟩ hn9
    obtain ⟨j, rfl⟩ := Int.eq_ofNat_of_zero_le j0
    have jr := mul_rng (i := j) (f := fd) (by omega) f3 f4
    rw [f_X1_bringMap_L41, d1.1, h8]
    simp (disch := omega) only [zI_le]
    rw [if_neg (by omega)]
    refine wp_s1 (fun M' => rD w l M M' ∧ ∀ Y X, Y < 64 → X < 64 → (bx (M'.2 (w + 2) (64 * l + Y)) X = true ↔ bx (M1.2 (w + 2) (64 * l + Y)) X = true ∨ ∃ i' : Nat, i' < ta ∧ hm3 M (lY n mir + (((sq / 64 : Nat) : Int) + (j : Int) * fd)) (lX n mir + (((sq % 64 : Nat) : Int) + (i' : Int) * fa)) Y X)) ?_ ?_
    · refine lpc (fun f => f_X1_bringMap_L53 w pz N (zI (l : Nat)) (zI (lX n mir)) (zI (lY n mir)) (zI ((j : Nat) : Int)) f) _ ta (fun i M2 => 0 ≤ i ∧ rD w l M M2 ∧ ∀ Y X, Y < 64 → X < 64 → (bx (M2.2 (w + 2) (64 * l + Y)) X = true ↔ bx (M1.2 (w + 2) (64 * l + Y)) X = true ∨ ∃ i' : Nat, (i' : Int) < i ∧ hm3 M (lY n mir + (((sq / 64 : Nat) : Int) + (j : Int) * fd)) (lX n mir + (((sq % 64 : Nat) : Int) + (i' : Int) * fa)) Y X)) ?_ ?_ nm_F 0 M1 (by omega) (by rw [nm_F_eq]; omega) ⟨by omega, d1, fun Y X hY hX => ?_⟩
      · rintro f' i M2 hi ⟨i0, d2, hI2⟩ hn8
        obtain ⟨i, rfl⟩ := Int.eq_ofNat_of_zero_le i0
        have ir := mul_rng (i := i) (f := fa) (by omega) f1 f2
        have hp2 : putM M2 pz sq n mir ta td fa fd := putM_1 h d2.1
        rw [f_X1_bringMap_L53, d2.1, h7]
        simp (disch := omega) only [zI_le]
        rw [if_neg (by omega), w_xOf hp2, w_yOf hp2, zI_add, zI_add]
        refine wp_s1 _ (w_addMap hw3 hN hl (by omega) (by omega)) ?_
        rintro M3 ⟨d3, hI3⟩
        rw [zI_inc]
        refine hn8 _ ⟨by omega, rD_tr d2 d3, fun Y X hY hX => ?_⟩
        rw [hI3 Y X hY hX, hI2 Y X hY hX, hm3_eq hw3 d2]
        constructor
        · rintro ((q | ⟨i', q1, q2⟩) | q)
          · exact Or.inl q
          · exact Or.inr ⟨i', by omega, q2⟩
          · exact Or.inr ⟨i, by omega, q⟩
        · rintro (q | ⟨i', q1, q2⟩)
          · exact Or.inl (Or.inl q)
          · by_cases hii : i' = i
            · rw [hii] at q2
              exact Or.inr q2
            · exact Or.inl (Or.inr ⟨i', by omega, q2⟩)
      · rintro f' M2 ⟨i0, d2, hI2⟩
        rw [f_X1_bringMap_L53, d2.1, h7]
        simp (disch := omega) only [zI_le, Int.le_refl, if_true]
        refine wp_r ⟨d2, fun Y X hY hX => ?_⟩
        rw [hI2 Y X hY hX]
        constructor
        · rintro (q | ⟨i', q1, q2⟩)
          · exact Or.inl q
          · exact Or.inr ⟨i', by omega, q2⟩
        · rintro (q | ⟨i', q1, q2⟩)
          · exact Or.inl q
          · exact Or.inr ⟨i', by omega, q2⟩
      · constructor
        · intro q
          exact Or.inl q
        · rintro (q | ⟨i', q1, q2⟩)
          · exact q
          · omega
    · rintro M3 ⟨d3, hI3⟩
      rw [zI_inc]
      refine hn9 _ ⟨by omega, d3, fun Y X hY hX => ?_⟩
      rw [hI3 Y X hY hX, hI Y X hY hX]
      constructor
      · rintro ((q | ⟨i', j', q1, q2, q3⟩) | ⟨i', q1, q2⟩)
        · exact Or.inl q
        · exact Or.inr ⟨i', j', q1, by omega, q3⟩
        · exact Or.inr ⟨i', j, q1, by omega, q2⟩
      · rintro (q | ⟨i', j', q1, q2, q3⟩)
        · exact Or.inl (Or.inl q)
        · by_cases hjj : j' = j
          · rw [hjj] at q3
            exact Or.inr ⟨i', q1, q3⟩
          · exact Or.inl (Or.inr ⟨i', j', q1, by omega, q3⟩)
  · rintro f M1 ⟨j0, d1, hI⟩
    rw [f_X1_bringMap_L41, d1.1, h8]
    simp (disch := omega) only [zI_le, Int.le_refl, if_true]
    refine wp_r ⟨d1, fun Y X hY hX => ?_⟩
    rw [hI Y X hY hX]
    unfold brP
    constructor
    · rintro (q | ⟨i', j', q1, q2, q3⟩)
      · exact Or.inl q
      · obtain ⟨p, p1, p2, p3⟩ := (hm3_iff hn hg).mp q3
        exact Or.inr ⟨p, i', j', p1, p2, q1, by omega, p3⟩
    · rintro (q | ⟨p, i', j', p1, p2, q1, q2, q3⟩)
      · exact Or.inl q
      · exact Or.inr ⟨i', j', q1, by omega, (hm3_iff hn hg).mpr ⟨p, p1, p2, q3⟩⟩
  · constructor
    · intro q
      exact Or.inl q
    · rintro (q | ⟨i', j', q1, q2, q3⟩)
      · exact q
      · omega
