/-! where a put square comes to -/
def fc (mir : Bool) (x : Int) : Int := if mir = true then -1 - x else x
def pX (n : Nat) (mir : Bool) (x y : Int) : Int := if n = 0 then fc mir x else if n = 1 then -1 - y else if n = 2 then -1 - fc mir x else y
def pY (n : Nat) (mir : Bool) (x y : Int) : Int := if n = 0 then y else if n = 1 then fc mir x else if n = 2 then -1 - y else -1 - fc mir x
def lX (n : Nat) (mir : Bool) : Int := min (pX n mir 0 0) (pX n mir 63 63)
def lY (n : Nat) (mir : Bool) : Int := min (pY n mir 0 0) (pY n mir 63 63)
def sT (mir : Bool) : Nat → Nat × Nat → Nat × Nat
  | 0, p => (p.1, if mir = true then 63 - p.2 else p.2)
  | n + 1, p => sT mir n (63 - p.2, p.1)
theorem lX_rng {n : Nat} {mir : Bool} (hn : n < 4) : (lX n mir = 0 ∨ lX n mir = -64) ∧ (lY n mir = 0 ∨ lY n mir = -64) := by
  have h : n = 0 ∨ n = 1 ∨ n = 2 ∨ n = 3 := by omega
  rcases h with rfl | rfl | rfl | rfl <;> cases mir <;> decide
theorem sT_fwd {n : Nat} {mir : Bool} (hn : n < 4) {Y X : Nat} (hY : Y < 64) (hX : X < 64) : (sT mir n (Y, X)).1 < 64 ∧ (sT mir n (Y, X)).2 < 64 ∧ pX n mir ((sT mir n (Y, X)).2 : Int) ((sT mir n (Y, X)).1 : Int) = X + lX n mir ∧ pY n mir ((sT mir n (Y, X)).2 : Int) ((sT mir n (Y, X)).1 : Int) = Y + lY n mir := by
  have h : n = 0 ∨ n = 1 ∨ n = 2 ∨ n = 3 := by omega
  rcases h with rfl | rfl | rfl | rfl <;> cases mir <;> simp only [sT, pX, pY, lX, lY, fc, if_true, if_false, Bool.false_eq_true, Nat.one_ne_zero, Nat.reduceEqDiff] <;> omega
theorem sT_bwd {n : Nat} {mir : Bool} (hn : n < 4) {c r : Nat} (hc : c < 64) (hr : r < 64) : ∃ Y X : Nat, Y < 64 ∧ X < 64 ∧ sT mir n (Y, X) = (r, c) ∧ pX n mir c r = X + lX n mir ∧ pY n mir c r = Y + lY n mir := by
  have h : n = 0 ∨ n = 1 ∨ n = 2 ∨ n = 3 := by omega
  rcases h with rfl | rfl | rfl | rfl
  · cases mir
    · exact ⟨r, c, hr, hc, rfl, by simp only [pX, lX, fc, if_true, if_false, Bool.false_eq_true]; omega, by simp only [pY, lY, if_true]; omega⟩
    · refine ⟨r, 63 - c, hr, by omega, ?_, by simp only [pX, lX, fc, if_true]; omega, by simp only [pY, lY, if_true]; omega⟩
      simp only [sT, if_true]
      congr 1
      omega
  · cases mir
    · refine ⟨c, 63 - r, hc, by omega, ?_, by simp only [pX, lX, fc, if_true, if_false, Bool.false_eq_true, Nat.one_ne_zero]; omega, by simp only [pY, lY, fc, if_true, if_false, Bool.false_eq_true, Nat.one_ne_zero]; omega⟩
      simp only [sT, if_false, Bool.false_eq_true]
      congr 1
      omega
    · refine ⟨63 - c, 63 - r, by omega, by omega, ?_, by simp only [pX, lX, fc, if_true, if_false, Nat.one_ne_zero]; omega, by simp only [pY, lY, fc, if_true, if_false, Nat.one_ne_zero]; omega⟩
      simp only [sT, if_true]
      congr 1 <;> omega
  · cases mir
    · refine ⟨63 - r, 63 - c, by omega, by omega, ?_, by simp only [pX, lX, fc, if_true, if_false, Bool.false_eq_true, Nat.reduceEqDiff]; omega, by simp only [pY, lY, fc, if_true, if_false, Bool.false_eq_true, Nat.reduceEqDiff]; omega⟩
      simp only [sT, if_false, Bool.false_eq_true]
      congr 1 <;> omega
    · refine ⟨63 - r, c, by omega, by omega, ?_, by simp only [pX, lX, fc, if_true, if_false, Nat.reduceEqDiff]; omega, by simp only [pY, lY, fc, if_true, if_false, Nat.reduceEqDiff]; omega⟩
      simp only [sT, if_true]
      congr 1 <;> omega
  · cases mir
    · refine ⟨63 - c, r, by omega, by omega, ?_, by simp only [pX, lX, fc, if_true, if_false, Bool.false_eq_true, Nat.reduceEqDiff]; omega, by simp only [pY, lY, fc, if_true, if_false, Bool.false_eq_true, Nat.reduceEqDiff]; omega⟩
      simp only [sT, if_false, Bool.false_eq_true]
      congr 1 <;> omega
    · refine ⟨c, r, by omega, by omega, ?_, by simp only [pX, lX, fc, if_true, if_false, Nat.reduceEqDiff]; omega, by simp only [pY, lY, fc, if_true, if_false, Nat.reduceEqDiff]; omega⟩
      simp only [sT, if_true]
      congr 1 <;> omega
/-- a PUT as the program holds it -/
def putM (M : cm) (pz sq n : Nat) (mir : Bool) (ta td : Nat) (fa fd : Int) : Prop :=
  (M.1 pz 2 = zI (sq : Nat) ∧ M.1 pz 3 = zI (n : Nat) ∧ M.1 pz 4 = (if mir = true then 1 else 0) ∧ M.1 pz 5 = zI fa ∧ M.1 pz 6 = zI fd ∧ M.1 pz 7 = zI (ta : Nat) ∧ M.1 pz 8 = zI (td : Nat)) ∧ sq < 4096 ∧ n < 4 ∧ ta ≤ 4 ∧ td ≤ 4 ∧ (-63 ≤ fa ∧ fa ≤ 63) ∧ -63 ≤ fd ∧ fd ≤ 63
theorem putM_1 {M M' : cm} {pz sq n : Nat} {mir : Bool} {ta td : Nat} {fa fd : Int} (h : putM M pz sq n mir ta td fa fd) (e : M'.1 = M.1) : putM M' pz sq n mir ta td fa fd := by
  unfold putM
  rw [e]
  exact h
theorem w_turnedX {M : cm} {pz sq n : Nat} {mir : Bool} {ta td : Nat} {fa fd : Int} (h : putM M pz sq n mir ta td fa fd) {x y : Int} : f_X7_turnedX pz (zI x) (zI y) M = zI (pX n mir x y) := by
  obtain ⟨⟨h2, h3, h4, -⟩, hsq, hn, -⟩ := h
  unfold f_X7_turnedX f_X7_turnedX_J14
  rw [h3, h4]
  unfold pX fc
  simp (disch := omega) only [zI_lit, zI_neg, zI_sub, zI_eq]
  have hh : n = 0 ∨ n = 1 ∨ n = 2 ∨ n = 3 := by omega
  rcases hh with rfl | rfl | rfl | rfl <;> cases mir <;> rfl
theorem w_turnedY {M : cm} {pz sq n : Nat} {mir : Bool} {ta td : Nat} {fa fd : Int} (h : putM M pz sq n mir ta td fa fd) {x y : Int} : f_X7_turnedY pz (zI x) (zI y) M = zI (pY n mir x y) := by
  obtain ⟨⟨h2, h3, h4, -⟩, hsq, hn, -⟩ := h
  unfold f_X7_turnedY f_X7_turnedY_J14
  rw [h3, h4]
  unfold pY fc
  simp (disch := omega) only [zI_lit, zI_neg, zI_sub, zI_eq]
  have hh : n = 0 ∨ n = 1 ∨ n = 2 ∨ n = 3 := by omega
  rcases hh with rfl | rfl | rfl | rfl <;> cases mir <;> rfl
theorem w_turn {M : cm} {N : Nat → Nat} (hN : N 3 = 64) {pz sq n : Nat} {mir : Bool} {ta td : Nat} {fa fd : Int} (h : putM M pz sq n mir ta td fa fd) : wp (f_X7_turn pz N M) (fun M' => mD 3 M M' ∧ ∀ Y X, Y < 64 → X < 64 → bx (M'.2 3 Y) X = bx (M.2 3 (sT mir n (Y, X)).1) (sT mir n (Y, X)).2) := by
  have hn4 := h.2.2.1
  have hJ : ∀ M0 : cm, mD 3 M M0 → (∀ Y X, Y < 64 → X < 64 → bx (M0.2 3 Y) X = bx (M.2 3 (sT mir 0 (Y, X)).1) (sT mir 0 (Y, X)).2) → wp (f_X7_turn_J11 pz N M0) (fun M' => mD 3 M M' ∧ ∀ Y X, Y < 64 → X < 64 → bx (M'.2 3 Y) X = bx (M.2 3 (sT mir n (Y, X)).1) (sT mir n (Y, X)).2) := by
    intro M0 d0 h0
    unfold f_X7_turn_J11
    refine wp_s1 (fun M' => mD 3 M M' ∧ ∀ Y X, Y < 64 → X < 64 → bx (M'.2 3 Y) X = bx (M.2 3 (sT mir n (Y, X)).1) (sT mir n (Y, X)).2) ?_ (fun _ h => wp_r h)
    rw [zI_0]
    refine lpc (fun f => f_X7_turn_L13 pz N f) _ n (fun k M1 => 0 ≤ k ∧ mD 3 M M1 ∧ ∀ Y X, Y < 64 → X < 64 → bx (M1.2 3 Y) X = bx (M.2 3 (sT mir k.toNat (Y, X)).1) (sT mir k.toNat (Y, X)).2) ?_ ?_ nm_F 0 M0 (by omega) (by rw [nm_F_eq]; omega) ⟨by omega, d0, h0⟩
    · rintro f k M1 hk ⟨k0, d1, h1⟩ hn9
      obtain ⟨i, rfl⟩ := Int.eq_ofNat_of_zero_le k0
      rw [f_X7_turn_L13, d1.1, h.1.2.1]
      simp (disch := omega) only [zI_le]
      rw [if_neg (by omega)]
      refine wp_s1 _ (w_transpose hN) ?_
      rintro M2 ⟨t1, t2⟩
      refine wp_s1 _ w_reverseRows ?_
      rintro M3 ⟨r1, r2⟩
      rw [zI_inc]
      refine hn9 _ ⟨by omega, mD_tr d1 (mD_tr t2 r2), fun Y X hY hX => ?_⟩
      rw [r1 Y X hY hX, t1 Y (63 - X) hY (by omega), h1 (63 - X) Y (by omega) hY, show (((i : Nat) : Int) + 1).toNat = i + 1 by omega]
      rfl
    · rintro f M1 ⟨k0, d1, h1⟩
      rw [f_X7_turn_L13, d1.1, h.1.2.1]
      simp (disch := omega) only [zI_le, Int.le_refl, if_true]
      exact wp_r ⟨d1, h1⟩
  unfold f_X7_turn
  rw [h.1.2.2.1]
  cases mir with
  | false =>
    rw [if_pos (by rfl)]
    exact hJ M ⟨rfl, fun _ _ _ => rfl⟩ (fun Y X _ _ => rfl)
  | true =>
    rw [if_neg (by decide)]
    refine wp_s1 _ w_reverseRows ?_
    rintro M3 ⟨r1, r2⟩
    exact hJ M3 r2 (fun Y X hY hX => by rw [r1 Y X hY hX]; rfl)
def hm3 (M : cm) (oy ox : Int) (Y X : Nat) : Prop := (0 ≤ (Y : Int) - oy ∧ (Y : Int) - oy < 64 ∧ 0 ≤ (X : Int) - ox ∧ (X : Int) - ox < 64) ∧ bx (M.2 3 ((Y : Int) - oy).toNat) ((X : Int) - ox).toNat = true
def rD (w l : Nat) (M M' : cm) : Prop := M'.1 = M.1 ∧ ∀ m j, ¬ (m = w + 2 ∧ 64 * l ≤ j ∧ j < 64 * l + 64) → M'.2 m j = M.2 m j
theorem rD_tr {w l : Nat} {M M1 M2 : cm} (h1 : rD w l M M1) (h2 : rD w l M1 M2) : rD w l M M2 := ⟨h2.1.trans h1.1, fun m j h => (h2.2 m j h).trans (h1.2 m j h)⟩
theorem w_addMap {w : Nat} (hw3 : w + 2 ≠ 3) {N : Nat → Nat} (hN : N (w + 2) = 512) {l : Nat} (hl : l < 8) {ox oy : Int} (o1 : -500 ≤ ox ∧ ox ≤ 500) (o2 : -500 ≤ oy ∧ oy ≤ 500) {M : cm} : wp (f_X1_addMap w N (zI (l : Nat)) (zI ox) (zI oy) M) (fun M' => rD w l M M' ∧ ∀ Y X, Y < 64 → X < 64 → (bx (M'.2 (w + 2) (64 * l + Y)) X = true ↔ bx (M.2 (w + 2) (64 * l + Y)) X = true ∨ hm3 M oy ox Y X)) := by
  unfold f_X1_addMap
  rw [nm_l_eq, zI_0, zI_neg, nm_maxZ (by omega) (by omega) (by omega) (by omega)]
  refine wp_s1 (fun M' => rD w l M M' ∧ ∀ Y X, Y < 64 → X < 64 → (bx (M'.2 (w + 2) (64 * l + Y)) X = true ↔ bx (M.2 (w + 2) (64 * l + Y)) X = true ∨ hm3 M oy ox Y X)) ?_ (fun _ h => wp_r h)
  refine lpm (fun f (t : Int32 × cm) => f_X1_addMap_L9 w N (zI (l : Nat)) (zI ox) (zI oy) f t.1 t.2) _ (fun t => ∃ i : Int, t.1 = zI i ∧ max 0 (-oy) ≤ i ∧ i ≤ 600 ∧ rD w l M t.2 ∧ ∀ Y X, Y < 64 → X < 64 → (bx (t.2.2 (w + 2) (64 * l + Y)) X = true ↔ bx (M.2 (w + 2) (64 * l + Y)) X = true ∨ ((Y : Int) < oy + i ∧ hm3 M oy ox Y X))) (fun t => (1000 - t.1.toInt).toNat) ?_ nm_F (zI (max 0 (-oy)), M) ?_ ⟨_, rfl, by omega, by omega, ⟨rfl, fun _ _ _ => rfl⟩, fun Y X hY hX => ?_⟩
  · rintro f ⟨t, M1⟩ ⟨i, e1, i1, i2, ⟨d1, d2⟩, hI⟩ hn9
    simp only at e1 d1 d2 hI
    subst e1
    show wp (f_X1_addMap_L9 w N _ _ _ (f + 1) _ _) _
    rw [f_X1_addMap_L9, hN]
    simp (disch := omega) only [zI_lit, zI_sub, nm_minZ, zI_le]
    refine wp_if (fun h => wp_r ⟨⟨d1, d2⟩, fun Y X hY hX => ?_⟩) (fun h => ?_)
    · rw [hI Y X hY hX]
      constructor
      · rintro (h1 | ⟨-, h1⟩)
        · exact Or.inl h1
        · exact Or.inr h1
      · rintro (h1 | h1)
        · exact Or.inl h1
        · have := h1.1
          exact Or.inr ⟨by omega, h1⟩
    · simp (disch := omega) only [zI_mul, zI_add, nm_cz, zI_cl, nm_l_eq]
      have ei : (64 * ((l : Nat) : Int) + oy + i).toNat = 64 * l + (oy + i).toNat := by omega
      rw [ei]
      refine hn9 (_, _) ⟨i + 1, rfl, by omega, by omega, ⟨d1, fun m j hm => ?_⟩, fun Y X hY hX => ?_⟩ ?_
      · show nm_upJ _ _ _ _ _ _ = _
        rw [nm_upJ_ap, if_neg (by rintro ⟨h1, h2⟩; exact hm ⟨h1, by omega, by omega⟩)]
        exact d2 m j hm
      · show bx (nm_upJ _ _ _ _ _ _) X = true ↔ _
        rw [nm_upJ_ap]
        by_cases hy : Y = (oy + i).toNat
        · rw [if_pos ⟨rfl, by omega⟩, bx_or, w_moved _ (by omega) (by omega) hX, d2 3 _ (by omega)]
          have e9 : 64 * l + (oy + i).toNat = 64 * l + Y := by omega
          rw [e9]
          have h9 := hI Y X hY hX
          rw [Bool.or_eq_true, h9, Bool.and_eq_true, decide_eq_true_iff]
          have e8 : ((Y : Int) - oy).toNat = i.toNat := by omega
          unfold hm3
          rw [e8]
          constructor
          · rintro ((h1 | ⟨h1, h2⟩) | ⟨h1, h2⟩)
            · exact Or.inl h1
            · omega
            · exact Or.inr ⟨by omega, by omega, h2⟩
          · rintro (h1 | ⟨h1, h2, h3⟩)
            · exact Or.inl (Or.inl h1)
            · exact Or.inr ⟨by omega, h3⟩
        · rw [if_neg (by omega), hI Y X hY hX]
          constructor
          · rintro (h1 | ⟨h1, h2⟩)
            · exact Or.inl h1
            · exact Or.inr ⟨by omega, h2⟩
          · rintro (h1 | ⟨h1, h2⟩)
            · exact Or.inl h1
            · exact Or.inr ⟨by omega, h2⟩
      · show (1000 - (zI (i + 1)).toInt).toNat < (1000 - (zI i).toInt).toNat
        rw [zI_ti (by omega) (by omega), zI_ti (by omega) (by omega)]
        omega
  · show (1000 - (zI _).toInt).toNat < nm_F
    rw [zI_ti (by omega) (by omega), nm_F_eq]
    omega
  · show bx (M.2 (w + 2) (64 * l + Y)) X = true ↔ _
    constructor
    · intro h
      exact Or.inl h
    · rintro (h1 | ⟨h1, h2⟩)
      · exact h1
      · have := h2.1
        omega
