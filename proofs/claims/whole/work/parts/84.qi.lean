/-! the reference's placing of another cell's squares -/
abbrev sQ (b : Nat) (P : Nat → Nat → Prop) (I : nm_I) : Prop := ∀ Y X, Y < 64 → X < 64 → I 13 (b + 64 * Y + X) = if bP (P Y X) = true then 1 else 0
theorem sQ_congr {b : Nat} {P P' : Nat → Nat → Prop} {I : nm_I} (h : sQ b P I) (hp : ∀ Y X, Y < 64 → X < 64 → (P Y X ↔ P' Y X)) : sQ b P' I := fun Y X hY hX => by
  rw [h Y X hY hX, bP_congr (hp Y X hY hX)]
abbrev hitI (A f : Int) (n : Nat) (X : Nat) : Prop := ∃ i : Nat, i < n ∧ A + (i : Int) * f = (X : Int)
theorem hitI_s {A f : Int} {n X : Nat} : hitI A f (n + 1) X ↔ hitI A f n X ∨ A + (n : Int) * f = (X : Int) := by
  constructor
  · rintro ⟨i, h1, h2⟩
    by_cases hi : i = n
    · subst hi
      exact Or.inr h2
    · exact Or.inl ⟨i, by omega, h2⟩
  · rintro (⟨i, h1, h2⟩ | h)
    · exact ⟨i, by omega, h2⟩
    · exact ⟨n, by omega, h⟩
/-- the seven numbers of one shape -/
abbrev sR1 (I : nm_I) (q : Nat) (s : Nat → Int) : Prop := ∀ f, f < 7 → I (1 + f) q = zI (s f)
abbrev okP (s : Nat → Int) : Prop := (0 ≤ s 2 ∧ s 2 < 4096) ∧ (0 ≤ s 3 ∧ s 3 < 4) ∧ (0 ≤ s 4 ∧ s 4 ≤ 1) ∧ ((1 ≤ s 5 / 200 ∧ s 5 / 200 ≤ 4) ∧ -63 ≤ s 5 % 200 - 100 ∧ s 5 % 200 - 100 ≤ 63) ∧ (1 ≤ s 6 / 200 ∧ s 6 / 200 ≤ 4) ∧ -63 ≤ s 6 % 200 - 100 ∧ s 6 % 200 - 100 ≤ 63
theorem pXY_s {k : Nat} (hk : k < 3) (mir : Bool) (x y : Int) : pX (k + 1) mir x y = -1 - pY k mir x y ∧ pY (k + 1) mir x y = pX k mir x y := by
  have : k = 0 ∨ k = 1 ∨ k = 2 := by omega
  rcases this with h | h | h <;> subst h <;> unfold pX pY <;> constructor <;> simp <;> omega
theorem w_turnsL {I : nm_I} {q : Nat} (hq : q < 128) {s : Nat → Int} (hs : sR1 I q s) (hp : okP s) {x y : Int} (hx : 0 ≤ x ∧ x < 64) (hy : 0 ≤ y ∧ y < 64) :
    wp (f_X12_turns_L28 (zI (q : Nat)) I nm_F (zI (fc (mirB s) x)) (zI y) 0) (fun r => r = (zI (pX (s 3).toNat (mirB s) x y), zI (pY (s 3).toNat (mirB s) x y))) := by
  have e3 : I 4 q = zI (s 3) := hs 3 (by omega)
  obtain ⟨-, h3, -⟩ := hp
  have key : ∀ (f k : Nat), k ≤ (s 3).toNat → (s 3).toNat - k < f → wp (f_X12_turns_L28 (zI (q : Nat)) I f (zI (pX k (mirB s) x y)) (zI (pY k (mirB s) x y)) (zI (k : Nat))) (fun r => r = (zI (pX (s 3).toNat (mirB s) x y), zI (pY (s 3).toNat (mirB s) x y))) := by
    intro f
    induction f with
    | zero => intro k h1 h2; omega
    | succ f ih =>
      intro k hk hf
      rw [f_X12_turns_L28, nm_cz (by omega) (by omega) (by omega), zI_cl (by omega) (by omega), Int.toNat_natCast, e3]
      simp (disch := omega) only [zI_le]
      refine wp_if (fun h => ?_) (fun h => ?_)
      · have : k = (s 3).toNat := by omega
        rw [this]
        exact wp_r rfl
      have := pXY_s (k := k) (by omega) (mirB s) x y
      rw [nm_l_eq, show (-1 : Int32) = zI (-1) from rfl, zI_sub, zI_inc, ← this.1, ← this.2]
      exact ih (k + 1) (by omega) (by omega)
  exact key nm_F 0 (by omega) (by rw [nm_F_eq]; omega)
theorem md {z m : Int} (h1 : 0 ≤ z) (h2 : z < 2147483648) (h3 : 0 < m) (h4 : m < 2147483648) : zI z - zI z / zI m * zI m = zI (z % m) := by
  rw [zI_div h1 h2 h3 h4, zI_mul, zI_sub]
  refine congrArg zI ?_
  have := Int.emod_add_mul_ediv z m
  have e2 : z / m * m = m * (z / m) := Int.mul_comm _ _
  omega
theorem w_turns {I : nm_I} {q : Nat} (hq : q < 128) {s : Nat → Int} (hs : sR1 I q s) (hp : okP s) {p : Nat} (h : p < 4096) :
    wp (f_X12_turns (zI (q : Nat)) (zI (p : Nat)) I) (fun I' => I' 0 17 = zI (pX (s 3).toNat (mirB s) ((p % 64 : Nat) : Int) ((p / 64 : Nat) : Int) + (((s 2).toNat % 64 : Nat) : Int)) ∧ I' 0 18 = zI (pY (s 3).toNat (mirB s) ((p % 64 : Nat) : Int) ((p / 64 : Nat) : Int) + (((s 2).toNat / 64 : Nat) : Int)) ∧ ∀ n j, ¬ (n = 0 ∧ (j = 17 ∨ j = 18)) → I' n j = I n j) := by
  have e2 : I 3 q = zI (s 2) := hs 2 (by omega)
  have e4 : I 5 q = zI (s 4) := hs 4 (by omega)
  have hL := w_turnsL hq hs hp (x := ((p % 64 : Nat) : Int)) (y := ((p / 64 : Nat) : Int)) (by omega) (by omega)
  obtain ⟨p2, p3, p4, -⟩ := hp
  unfold f_X12_turns
  rw [show (64 : Int32) = zI 64 from rfl, md (by omega) (by omega) (by omega) (by omega), zI_div (by omega) (by omega) (by omega) (by omega), nm_l_eq, nm_l_eq, nm_cz (by omega) (by omega) (by omega), zI_cl (by omega) (by omega), Int.toNat_natCast, e4, show (1 : Int32) = zI 1 from rfl, zI_neg, zI_sub, nm_l_eq]
  have hJ : wp (f_X12_turns_J25 (zI (q : Nat)) (zI (fc (mirB s) ((p % 64 : Nat) : Int))) (zI ((p / 64 : Nat) : Int)) I) (fun I' => I' 0 17 = zI (pX (s 3).toNat (mirB s) ((p % 64 : Nat) : Int) ((p / 64 : Nat) : Int) + (((s 2).toNat % 64 : Nat) : Int)) ∧ I' 0 18 = zI (pY (s 3).toNat (mirB s) ((p % 64 : Nat) : Int) ((p / 64 : Nat) : Int) + (((s 2).toNat / 64 : Nat) : Int)) ∧ ∀ n j, ¬ (n = 0 ∧ (j = 17 ∨ j = 18)) → I' n j = I n j) := by
    unfold f_X12_turns_J25
    refine wp_s2 _ hL ?_
    rintro a b hab
    obtain ⟨rfl, rfl⟩ := Prod.mk.inj hab
    rw [nm_cz (by omega) (by omega) (by omega), zI_cl (by omega) (by omega), Int.toNat_natCast, e2, show (64 : Int32) = zI 64 from rfl, md (by omega) (by omega) (by omega) (by omega), nm_l_eq, nm_cz (by omega) (by omega) (by omega), nm_up_ap, if_neg (by omega), e2, zI_div (by omega) (by omega) (by omega) (by omega), nm_l_eq, zI_add, zI_add]
    refine wp_r ⟨?_, ?_, fun n j hn => ?_⟩
    · rw [nm_up_ap, if_neg (by omega), nm_up_ap, if_pos ⟨rfl, rfl⟩]
      exact congrArg zI (by omega)
    · rw [nm_up_ap, if_pos ⟨rfl, rfl⟩]
      exact congrArg zI (by omega)
    · rw [nm_up_ap, if_neg (by omega), nm_up_ap, if_neg (by omega)]
  simp (disch := omega) only [zI_eq]
  refine wp_if (fun h1 => ?_) (fun h1 => ?_)
  · have : fc (mirB s) ((p % 64 : Nat) : Int) = -1 - (p : Int) % 64 := by
      unfold fc mirB
      rw [decide_eq_true h1, if_pos rfl]
      omega
    rw [this] at hJ
    exact hJ
  · have : fc (mirB s) ((p % 64 : Nat) : Int) = (p : Int) % 64 := by
      unfold fc mirB
      rw [decide_eq_false h1, if_neg (by decide)]
      omega
    rw [this] at hJ
    exact hJ
theorem w_placed {I : nm_I} {q : Nat} (hq : q < 128) {s : Nat → Int} (hs : sR1 I q s) (hp : okP s) {A B : Int} (hA : I 0 17 = zI A) (hB : I 0 18 = zI B) (a1 : -200 ≤ A ∧ A ≤ 200) (b1 : -200 ≤ B ∧ B ≤ 200) {i j : Nat} (hi : i ≤ 3) (hj : j ≤ 3) :
    f_X12_placed (zI (q : Nat)) (zI (i : Nat)) (zI (j : Nat)) I = some (zI (if (0 ≤ A + (i : Int) * tmF (s 5) ∧ A + (i : Int) * tmF (s 5) ≤ 63) ∧ 0 ≤ B + (j : Int) * tmF (s 6) ∧ B + (j : Int) * tmF (s 6) ≤ 63 then 64 * (B + (j : Int) * tmF (s 6)) + (A + (i : Int) * tmF (s 5)) else -1)) := by
  have e5 : I 6 q = zI (s 5) := hs 5 (by omega)
  have e6 : I 7 q = zI (s 6) := hs 6 (by omega)
  obtain ⟨-, -, -, p5, p6⟩ := hp
  have m1 := mul_rng (f := tmF (s 5)) hi (by unfold tmF; omega) (by unfold tmF; omega)
  have m2 := mul_rng (f := tmF (s 6)) hj (by unfold tmF; omega) (by unfold tmF; omega)
  unfold f_X12_placed
  rw [nm_cz (by omega) (by omega) (by omega), zI_cl (by omega) (by omega), Int.toNat_natCast, hA, hB, e5, e6, show (200 : Int32) = zI 200 from rfl, md (by omega) (by omega) (by omega) (by omega), md (by omega) (by omega) (by omega) (by omega), show (100 : Int32) = zI 100 from rfl, zI_sub, zI_sub, zI_mul, zI_mul, zI_add, zI_add, nm_l_eq, nm_cz (by omega) (by omega) (by omega), nm_l_eq, show s 5 % 200 - 100 = tmF (s 5) from rfl, show s 6 % 200 - 100 = tmF (s 6) from rfl, isIn63 (by omega) (by omega), isIn63 (by omega) (by omega), show (64 : Int32) = zI 64 from rfl, zI_mul, zI_add, show (-1 : Int32) = zI (-1) from rfl]
  by_cases h1 : 0 ≤ A + (i : Int) * tmF (s 5) ∧ A + (i : Int) * tmF (s 5) ≤ 63
  · by_cases h2 : 0 ≤ B + (j : Int) * tmF (s 6) ∧ B + (j : Int) * tmF (s 6) ≤ 63
    · rw [if_pos h1, if_pos h2, if_neg (by decide), if_neg (by decide), if_pos ⟨h1, h2⟩]
    · rw [if_pos h1, if_neg h2, if_neg (by decide), if_pos rfl, if_neg (fun q => h2 q.2)]
  · rw [if_neg h1, if_pos rfl, if_neg (fun q => h1 q.1)]
