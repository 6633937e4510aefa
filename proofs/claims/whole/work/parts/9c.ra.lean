theorem wk0 {g : Nat → Bool} (x : Nat) : wk 0 g x = g x := by
  unfold wk
  rw [if_pos rfl]
theorem wk1_t {g : Nat → Bool} {x : Nat} (h : g x = false) {a b : Nat} (ha : a < x) (h1 : g a = true) (hb : x < b) (hb6 : b < 64) (h2 : g b = true) : wk 1 g x = true := by
  unfold wk
  rw [if_neg (by omega), bP_t]
  exact ⟨h, ⟨a, ha, h1⟩, b, hb, hb6, h2⟩
theorem wk1_on {g : Nat → Bool} {x : Nat} (h : g x = true) : wk 1 g x = false := by
  unfold wk
  rw [if_neg (by omega), bP_f]
  rintro ⟨a, -⟩
  rw [h] at a
  exact absurd a (by decide)
theorem wk1_lo {g : Nat → Bool} {x : Nat} (h : ∀ i, i < x → g i = false) : wk 1 g x = false := by
  unfold wk
  rw [if_neg (by omega), bP_f]
  rintro ⟨-, ⟨j, j1, j2⟩, -⟩
  rw [h j j1] at j2
  exact absurd j2 (by decide)
theorem wk1_hi {g : Nat → Bool} {x : Nat} (h : ∀ i, x < i → i < 64 → g i = false) : wk 1 g x = false := by
  unfold wk
  rw [if_neg (by omega), bP_f]
  rintro ⟨-, -, j, j1, j2, j3⟩
  rw [h j j1 j2] at j3
  exact absurd j3 (by decide)
theorem lhd_f {w : Nat → Bool} {x : Nat} (h : w x = false) : lhd w x = false := by
  unfold lhd
  rw [h, Bool.false_and]
theorem lnL_one {w : Nat → Bool} {A : Nat → Nat} {R V : Nat} {L : List ft} {j : Nat} (hj : j < 64) (h : w j = false) : lnL w A R V (min (j + 1) 64) L = lnL w A R V (min j 64) L :=
  lnL_skip _ (by omega) (fun x a b => by rw [show x = j by omega]; exact lhd_f h)
variable {g : Nat → Bool} {A : Nat → Nat} {R V : Nat} {L Ls : List ft} {j : Nat}
theorem s0_on (hj : j < 64) (hg : g j = true) {x5 : Int} (h : lst 0 g A R V L j x5 Ls) : lst 0 g A R V L (j + 1) (if x5 < 0 then (j : Int) else x5) Ls := by
  rcases h with ⟨h1, h2, h3⟩ | ⟨s, h1, h2, h3, h4, h5, -⟩
  · rw [if_pos (by omega)]
    refine Or.inr ⟨j, rfl, by omega, by omega, ?_, fun _ => ⟨fun i a b => ?_, (h3 hj).1 rfl⟩, fun h => absurd h (by decide)⟩
    · rw [h2, show min j 64 = j by omega]
    · rw [show i = j by omega]
      exact hg
  · rw [if_neg (by omega)]
    refine Or.inr ⟨s, h1, by omega, by omega, h4, fun _ => ⟨fun i a b => ?_, (h5 rfl).2⟩, fun h => absurd h (by decide)⟩
    by_cases hi : i = j
    · rw [hi]
      exact hg
    · exact (h5 rfl).1 i a (by omega)
theorem s0_off (hj : j ≤ 64) (hg : j < 64 → g j = false) {x5 : Int} (h : lst 0 g A R V L j x5 Ls) : lst 0 g A R V L (j + 1) (-1) (if 0 ≤ x5 ∧ (j : Int) - x5 < V then Ls ++ [(R, A x5.toNat, A (j - 1), j - x5.toNat)] else Ls) := by
  have hno : j + 1 < 64 → (0 = 0 → j + 1 = 0 ∨ g (j + 1 - 1) = false) ∧ (0 = 1 → j + 1 = 0 ∨ g (j + 1 - 1) = true ∨ ∀ i, i < j + 1 → g i = false) := fun h => ⟨fun _ => Or.inr (hg (by omega)), fun h => absurd h (by decide)⟩
  rcases h with ⟨h1, h2, h3⟩ | ⟨s, h1, h2, h3, h4, h5, -⟩
  · rw [if_neg (by omega)]
    refine Or.inl ⟨rfl, ?_, hno⟩
    rw [h2]
    by_cases hj6 : j < 64
    · exact (lnL_one hj6 (by rw [wk0]; exact hg hj6)).symm
    · rw [show min (j + 1) 64 = min j 64 by omega]
  · refine Or.inl ⟨rfl, ?_, hno⟩
    rw [lnL_run h2 h3 (fun i a b => by rw [wk0]; exact (h5 rfl).1 i a b) (by rw [wk0]; exact (h5 rfl).2) (fun h => by rw [wk0]; exact hg h), ← h4, h1, Int.toNat_natCast]
    by_cases hV : j - s < V
    · rw [if_pos (by omega), if_pos hV]
    · rw [if_neg (by omega), if_neg hV]
theorem s1_off (hj : j < 64) (hg : g j = false) {x5 : Int} (h : lst 1 g A R V L j x5 Ls) : lst 1 g A R V L (j + 1) (if x5 < 0 ∧ ¬ (∀ i, i < j → g i = false) then (j : Int) else x5) Ls := by
  rcases h with ⟨h1, h2, h3⟩ | ⟨s, h1, h2, h3, h4, -, h5⟩
  · by_cases hon : ∀ i, i < j → g i = false
    · rw [if_neg (fun q => q.2 hon)]
      refine Or.inl ⟨h1, ?_, fun _ => ⟨fun h => absurd h (by decide), fun _ => Or.inr (Or.inr (fun i hi => ?_))⟩⟩
      · rw [h2]
        exact (lnL_one hj (wk1_lo hon)).symm
      · by_cases hij : i = j
        · rw [hij]
          exact hg
        · exact hon i (by omega)
    · rw [if_pos ⟨by omega, hon⟩]
      have hb : 1 ≤ j ∧ g (j - 1) = true := by
        rcases (h3 hj).2 rfl with h | h | h
        · exact absurd (fun i hi => by omega) hon
        · refine ⟨?_, h⟩
          apply Classical.byContradiction
          intro h0
          have : j = 0 := by omega
          subst this
          exact hon (fun i hi => absurd hi (Nat.not_lt_zero _))
        · exact absurd h hon
      refine Or.inr ⟨j, rfl, by omega, by omega, ?_, fun h => absurd h (by decide), fun _ => ⟨fun i a b => ?_, hb⟩⟩
      · rw [h2, show min j 64 = j by omega]
      · rw [show i = j by omega]
        exact hg
  · rw [if_neg (by omega)]
    refine Or.inr ⟨s, h1, by omega, by omega, h4, fun h => absurd h (by decide), fun _ => ⟨fun i a b => ?_, (h5 rfl).2⟩⟩
    by_cases hi : i = j
    · rw [hi]
      exact hg
    · exact (h5 rfl).1 i a (by omega)
theorem s1_on (hj : j < 64) (hg : g j = true) {x5 : Int} (h : lst 1 g A R V L j x5 Ls) : lst 1 g A R V L (j + 1) (-1) (if 0 ≤ x5 ∧ (j : Int) - x5 < V then Ls ++ [(R, A x5.toNat, A (j - 1), j - x5.toNat)] else Ls) := by
  have hno : j + 1 < 64 → (1 = 0 → j + 1 = 0 ∨ g (j + 1 - 1) = false) ∧ (1 = 1 → j + 1 = 0 ∨ g (j + 1 - 1) = true ∨ ∀ i, i < j + 1 → g i = false) := fun h => ⟨fun h => absurd h (by decide), fun _ => Or.inr (Or.inl hg)⟩
  rcases h with ⟨h1, h2, h3⟩ | ⟨s, h1, h2, h3, h4, -, h5⟩
  · rw [if_neg (by omega)]
    refine Or.inl ⟨rfl, ?_, hno⟩
    rw [h2]
    exact (lnL_one hj (wk1_on hg)).symm
  · refine Or.inl ⟨rfl, ?_, hno⟩
    obtain ⟨u1, u2, u3⟩ := h5 rfl
    rw [lnL_run h2 h3 (fun i a b => wk1_t (u1 i a b) (by omega) u3 b hj hg) (Or.inr (wk1_on u3)) (fun _ => wk1_on hg), ← h4, h1, Int.toNat_natCast]
    by_cases hV : j - s < V
    · rw [if_pos (by omega), if_pos hV]
    · rw [if_neg (by omega), if_neg hV]
theorem s1_end {x5 : Int} (h : lst 1 g A R V L 64 x5 Ls) : lst 1 g A R V L 65 (-1) Ls := by
  refine Or.inl ⟨rfl, ?_, fun h => absurd h (by decide)⟩
  rcases h with ⟨h1, h2, h3⟩ | ⟨s, h1, h2, h3, h4, -, h5⟩
  · exact h2
  · rw [h4]
    refine (lnL_skip 64 (by omega) (fun x a b => lhd_f (wk1_hi (fun i hi hi6 => (h5 rfl).1 i (by omega) hi6)))).symm
theorem lst_end {k : Nat} {x5 : Int} (h : lst k g A R V L 65 x5 Ls) : Ls = lnL (wk k g) A R V 64 L := by
  rcases h with ⟨-, h2, -⟩ | ⟨s, -, -, h3, -⟩
  · exact h2
  · omega
theorem lst_0 (k : Nat) : lst k g A R V L 0 (-1) L := Or.inl ⟨rfl, rfl, fun _ => ⟨fun _ => Or.inl rfl, fun _ => Or.inl rfl⟩⟩
