/-! the reference's boxes and paths -/
abbrev rc (x2 x3 x4 x5 : Int) (Y X : Nat) : Prop := (x2 ≤ X ∧ (X : Int) < x2 + x4) ∧ x3 ≤ Y ∧ (Y : Int) < x3 + x5
abbrev o13 (b : Nat) (I I' : nm_I) : Prop := ∀ n j, ¬ (n = 13 ∧ b ≤ j ∧ j < b + 4096) → I' n j = I n j
theorem if_iff {α : Type} {p q : Prop} [Decidable p] [Decidable q] (h : p ↔ q) {a b : α} : (if p then a else b) = if q then a else b := by
  by_cases hp : p
  · rw [if_pos hp, if_pos (h.mp hp)]
  · rw [if_neg hp, if_neg (fun hq => hp (h.mpr hq))]
theorem w_fillL {b : Nat} {x2 x3 x4 x5 : Int} {v : Int32} (hv : v = 0 ∨ v = 1) (hb : b ≤ 258048) (h2 : -100 ≤ x2) (h2b : x2 ≤ 63) (h3 : -100 ≤ x3) (h3b : x3 ≤ 63) (h4 : 0 ≤ x4) (h4b : x4 ≤ 200) (h5 : 0 ≤ x5) (h5b : x5 ≤ 200) (I : nm_I) :
    wp (f_X12_fill_L11 (zI (b : Nat)) (zI x2) (zI x3) (zI x4) (zI x5) v nm_F (zI (max x3 0)) I) (fun I' => (∀ Y X, Y < 64 → X < 64 → I' 13 (b + 64 * Y + X) = if rc x2 x3 x4 x5 Y X then v else I 13 (b + 64 * Y + X)) ∧ o13 b I I') := by
  refine lpc (fun f k S => f_X12_fill_L11 (zI (b : Nat)) (zI x2) (zI x3) (zI x4) (zI x5) v f k S) _ 64 (fun k S => (0 ≤ k ∧ x3 ≤ k) ∧ (∀ Y X, Y < 64 → X < 64 → S 13 (b + 64 * Y + X) = if rc x2 x3 x4 x5 Y X ∧ (Y : Int) < k then v else I 13 (b + 64 * Y + X)) ∧ o13 b I S) ?_ ?_ nm_F _ I (by omega) (by rw [nm_F_eq]; omega) ⟨⟨by omega, by omega⟩, fun Y X hY hX => ?_, fun _ _ _ => rfl⟩
  · rintro f k S hk ⟨⟨hk0, hk3⟩, hI, hF⟩ hn
    show wp (f_X12_fill_L11 _ _ _ _ _ _ (f + 1) _ _) _
    rw [f_X12_fill_L11, zI_add, show (64 : Int32) = zI 64 from rfl, zI_0]
    simp (disch := omega) only [zI_le]
    refine wp_if (fun h => wp_r ⟨fun Y X hY hX => ?_, hF⟩) (fun h => ?_)
    · rw [hI Y X hY hX]
      refine if_iff ⟨fun q => q.1, fun q => ⟨q, by omega⟩⟩
    rw [if_neg (by omega)]
    have hgo : wp (f_X12_fill_J36 (zI (b : Nat)) (zI x2) (zI x4) v (zI k) (zI (max x2 0)) S (f_X12_fill_L11 (zI (b : Nat)) (zI x2) (zI x3) (zI x4) (zI x5) v f)) (fun I' => (∀ Y X, Y < 64 → X < 64 → I' 13 (b + 64 * Y + X) = if rc x2 x3 x4 x5 Y X then v else I 13 (b + 64 * Y + X)) ∧ o13 b I I') := by
      unfold f_X12_fill_J36
      refine wp_s1 _ (rf_fill_row (b : Int) x2 x4 k v hv (by omega) (by omega) (by omega) (by omega) h4 h4b hk0 hk _ (by omega) (by omega) S) ?_
      intro I2 h9
      rw [zI_inc]
      refine hn I2 ⟨⟨by omega, by omega⟩, fun Y X hY hX => ?_, fun n j hj => ?_⟩
      · rw [h9, hI Y X hY hX]
        by_cases hYk : (Y : Int) = k
        · by_cases hX2 : x2 ≤ X ∧ (X : Int) < x2 + x4
          · rw [if_pos (by omega), if_pos (by refine ⟨⟨hX2, ?_, ?_⟩, ?_⟩ <;> omega)]
          · rw [if_neg (by omega), if_neg (by omega), if_neg (by omega)]
        · rw [if_neg (by omega)]
          refine if_iff ⟨fun q => ⟨q.1, by omega⟩, fun q => ⟨q.1, by omega⟩⟩
      · rw [h9, if_neg (by omega)]
        exact hF n j hj
    refine wp_if (fun h0 => ?_) (fun h0 => ?_)
    · rw [show max x2 0 = x2 by omega] at hgo
      exact hgo
    · rw [show max x2 0 = 0 by omega] at hgo
      exact hgo
  · rintro f S ⟨-, hI, hF⟩
    show wp (f_X12_fill_L11 _ _ _ _ _ _ (f + 1) _ _) _
    rw [f_X12_fill_L11, zI_add, show (64 : Int32) = zI 64 from rfl, if_pos (show zI 64 ≤ zI 64 from Int32.le_refl _)]
    have hd : wp (some S) (fun I' => (∀ Y X, Y < 64 → X < 64 → I' 13 (b + 64 * Y + X) = if rc x2 x3 x4 x5 Y X then v else I 13 (b + 64 * Y + X)) ∧ o13 b I I') := wp_r ⟨fun Y X hY hX => by
      rw [hI Y X hY hX]
      exact if_iff ⟨fun q => q.1, fun q => ⟨q, by omega⟩⟩, hF⟩
    exact wp_if (fun _ => hd) (fun _ => hd)
  · rw [if_neg (by omega)]
theorem w_fillR {b : Nat} {x2 x3 x4 x5 : Int} {v : Int32} (hv : v = 0 ∨ v = 1) (hb : b ≤ 258048) (h2 : -100 ≤ x2) (h2b : x2 ≤ 63) (h3 : -100 ≤ x3) (h3b : x3 ≤ 63) (h4 : 0 ≤ x4) (h4b : x4 ≤ 200) (h5 : 0 ≤ x5) (h5b : x5 ≤ 200) (I : nm_I) :
    wp (f_X12_fill (zI (b : Nat)) (zI x2) (zI x3) (zI x4) (zI x5) v I) (fun I' => (∀ Y X, Y < 64 → X < 64 → I' 13 (b + 64 * Y + X) = if rc x2 x3 x4 x5 Y X then v else I 13 (b + 64 * Y + X)) ∧ o13 b I I') := by
  have hgo := w_fillL hv hb h2 h2b h3 h3b h4 h4b h5 h5b I
  unfold f_X12_fill f_X12_fill_J9
  rw [zI_0]
  simp (disch := omega) only [zI_le]
  refine wp_if (fun h0 => ?_) (fun h0 => ?_)
  · rw [show max x3 0 = x3 by omega] at hgo
    exact wp_s1 _ hgo (fun _ h => wp_r h)
  · rw [show max x3 0 = 0 by omega] at hgo
    exact wp_s1 _ hgo (fun _ h => wp_r h)
/-- a path's box -/
theorem w_laysPath {b : Nat} (hb : b ≤ 258048) {c : Nat} {s : Nat → Int} (ho : okS c s) (h2 : s 0 = 2) (I : nm_I) :
    wp (f_X12_laysPath (zI (b : Nat)) (zI (s 2)) (zI (s 3)) (zI (s 4)) I) (fun I' => (∀ Y X, Y < 64 → X < 64 → I' 13 (b + 64 * Y + X) = if rc (rcT s).1 (rcT s).2.1 (rcT s).2.2.1 (rcT s).2.2.2 Y X then 1 else I 13 (b + 64 * Y + X)) ∧ o13 b I I') := by
  obtain ⟨-, -, a2, -, a4, -⟩ := ho
  obtain ⟨-, a5, a6, a7⟩ := a4 h2
  have hm : ∀ z : Int, 0 ≤ z → z < 4096 → zI z - zI z / (64 : Int32) * (64 : Int32) = zI (z % 64) ∧ zI z / (64 : Int32) = zI (z / 64) := fun z z1 z2 => by
    rw [show (64 : Int32) = zI 64 from rfl, zI_div z1 (by omega) (by omega) (by omega), zI_mul, zI_sub]
    exact ⟨congrArg zI (by omega), rfl⟩
  have hrc : rcT s = (if min (s 2 / 64) (s 3 / 64) = max (s 2 / 64) (s 3 / 64) then (min (s 2 % 64) (s 3 % 64), min (s 2 / 64) (s 3 / 64) - (s 4 - 1) / 2, max (s 2 % 64) (s 3 % 64) - min (s 2 % 64) (s 3 % 64) + 1, s 4)
     else (min (s 2 % 64) (s 3 % 64) - (s 4 - 1) / 2, min (s 2 / 64) (s 3 / 64), s 4, max (s 2 / 64) (s 3 / 64) - min (s 2 / 64) (s 3 / 64) + 1)) := by
    unfold rcT
    rw [if_pos h2]
  have hgo : ∀ a1 a2' a3 a4' : Int, a1 = min (s 2 % 64) (s 3 % 64) → a2' = min (s 2 / 64) (s 3 / 64) → a3 = max (s 2 % 64) (s 3 % 64) → a4' = max (s 2 / 64) (s 3 / 64) → wp (f_X12_laysPath_J94 (zI (b : Nat)) (zI (s 4)) (zI a1) (zI a2') (zI a3) (zI a4') I) (fun I' => (∀ Y X, Y < 64 → X < 64 → I' 13 (b + 64 * Y + X) = if rc (rcT s).1 (rcT s).2.1 (rcT s).2.2.1 (rcT s).2.2.2 Y X then 1 else I 13 (b + 64 * Y + X)) ∧ o13 b I I') := by
    intro a1 a2' a3 a4' e1 e2 e3 e4
    unfold f_X12_laysPath_J94
    rw [show (1 : Int32) = zI 1 from rfl, show (2 : Int32) = zI 2 from rfl, zI_sub, zI_div (by omega) (by omega) (by omega) (by omega), nm_l_eq, zI_sub, zI_sub, zI_sub, zI_sub, zI_add, zI_add]
    simp (disch := omega) only [zI_eq]
    refine wp_if (fun h => ?_) (fun h => ?_)
    · have e := hrc
      rw [if_pos (by omega)] at e
      refine wp_s1 _ (w_fillR (v := zI 1) (Or.inr rfl) hb (by omega) (by omega) (by omega) (by omega) (by omega) (by omega) (by omega) (by omega) I) ?_
      rintro I' ⟨q1, q2⟩
      refine wp_r ⟨fun Y X hY hX => ?_, q2⟩
      rw [q1 Y X hY hX, e, e1, e2, e3]
    · have e := hrc
      rw [if_neg (by omega)] at e
      refine wp_s1 _ (w_fillR (v := zI 1) (Or.inr rfl) hb (by omega) (by omega) (by omega) (by omega) (by omega) (by omega) (by omega) (by omega) I) ?_
      rintro I' ⟨q1, q2⟩
      refine wp_r ⟨fun Y X hY hX => ?_, q2⟩
      rw [q1 Y X hY hX, e, e1, e2, e4]
  obtain ⟨m1, m2⟩ := hm (s 2) (by omega) (by omega)
  obtain ⟨m3, m4⟩ := hm (s 3) (by omega) (by omega)
  unfold f_X12_laysPath
  rw [m1, m3]
  simp (disch := omega) only [zI_le]
  have h4 : ∀ a1 a2' a3, a1 = min (s 2 % 64) (s 3 % 64) → a2' = min (s 2 / 64) (s 3 / 64) → a3 = max (s 2 % 64) (s 3 % 64) → wp (f_X12_laysPath_J70 (zI (b : Nat)) (zI (s 2)) (zI (s 3)) (zI (s 4)) (zI a1) (zI a2') (zI a3) I) (fun I' => (∀ Y X, Y < 64 → X < 64 → I' 13 (b + 64 * Y + X) = if rc (rcT s).1 (rcT s).2.1 (rcT s).2.2.1 (rcT s).2.2.2 Y X then 1 else I 13 (b + 64 * Y + X)) ∧ o13 b I I') := by
    intro a1 a2' a3 e1 e2 e3
    unfold f_X12_laysPath_J70
    rw [m2, m4]
    simp (disch := omega) only [zI_le]
    refine wp_if (fun h => ?_) (fun h => ?_)
    · exact hgo _ _ _ _ e1 e2 e3 (by omega)
    · exact hgo _ _ _ _ e1 e2 e3 (by omega)
  have h3 : ∀ a1 a2', a1 = min (s 2 % 64) (s 3 % 64) → a2' = min (s 2 / 64) (s 3 / 64) → wp (f_X12_laysPath_J46 (zI (b : Nat)) (zI (s 2)) (zI (s 3)) (zI (s 4)) (zI a1) (zI a2') I) (fun I' => (∀ Y X, Y < 64 → X < 64 → I' 13 (b + 64 * Y + X) = if rc (rcT s).1 (rcT s).2.1 (rcT s).2.2.1 (rcT s).2.2.2 Y X then 1 else I 13 (b + 64 * Y + X)) ∧ o13 b I I') := by
    intro a1 a2' e1 e2
    unfold f_X12_laysPath_J46
    rw [m1, m3]
    simp (disch := omega) only [zI_le]
    refine wp_if (fun h => ?_) (fun h => ?_)
    · exact h4 _ _ _ e1 e2 (by omega)
    · exact h4 _ _ _ e1 e2 (by omega)
  have h22 : ∀ a1, a1 = min (s 2 % 64) (s 3 % 64) → wp (f_X12_laysPath_J22 (zI (b : Nat)) (zI (s 2)) (zI (s 3)) (zI (s 4)) (zI a1) I) (fun I' => (∀ Y X, Y < 64 → X < 64 → I' 13 (b + 64 * Y + X) = if rc (rcT s).1 (rcT s).2.1 (rcT s).2.2.1 (rcT s).2.2.2 Y X then 1 else I 13 (b + 64 * Y + X)) ∧ o13 b I I') := by
    intro a1 e1
    unfold f_X12_laysPath_J22
    rw [m2, m4]
    simp (disch := omega) only [zI_le]
    refine wp_if (fun h => ?_) (fun h => ?_)
    · exact h3 _ _ e1 (by omega)
    · exact h3 _ _ e1 (by omega)
  refine wp_if (fun h => ?_) (fun h => ?_)
  · exact h22 _ (by omega)
  · exact h22 _ (by omega)
