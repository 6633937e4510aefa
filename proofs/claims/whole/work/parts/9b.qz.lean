/-! the reference's lines -/
def alg (c j : Nat) : Nat := if c < 64 then 64 * c + j else 64 * j + (c - 64)
theorem along_z {c j : Nat} (hc : c < 128) (hj : j ≤ 64) : f_X12_along (zI (c : Nat)) (zI (j : Nat)) = zI ((alg c j : Nat) : Int) := by
  unfold f_X12_along alg
  rw [show (64 : Int32) = zI 64 from rfl, zI_mul, zI_add, zI_sub, zI_mul, zI_add]
  simp (disch := omega) only [zI_le]
  by_cases h : c < 64
  · rw [if_neg (by omega), if_pos h]
    exact congrArg zI (by omega)
  · rw [if_pos (by omega), if_neg h]
    exact congrArg zI (by omega)
theorem alg_lt {c j : Nat} (hc : c < 128) (hj : j < 64) : alg c j < 4096 := by
  unfold alg
  by_cases h : c < 64
  · rw [if_pos h]
    omega
  · rw [if_neg h]
    omega
theorem lnL_skip {w : Nat → Bool} {A : Nat → Nat} {R V : Nat} {L : List ft} {a : Nat} : ∀ b, a ≤ b → (∀ x, a ≤ x → x < b → lhd w x = false) → lnL w A R V b L = lnL w A R V a L := by
  intro b
  induction b with
  | zero =>
    intro h _
    have : a = 0 := by omega
    rw [this]
  | succ b ih =>
    intro h hx
    by_cases hab : a = b + 1
    · rw [hab]
    · rw [lnL_f (by
        unfold lnP
        rw [hx b (by omega) (by omega)]
        rfl)]
      exact ih (by omega) (fun x h1 h2 => hx x h1 (by omega))
/-- a run of s .. j-1 that ends at j: what the list gains -/
theorem lnL_run {w : Nat → Bool} {A : Nat → Nat} {R V : Nat} {L : List ft} {s j : Nat} (hs : s < j) (hj : j ≤ 64) (h1 : ∀ i, s ≤ i → i < j → w i = true) (h2 : s = 0 ∨ w (s - 1) = false) (h3 : j < 64 → w j = false) : lnL w A R V (min (j + 1) 64) L = if j - s < V then lnL w A R V s L ++ [(R, A s, A (j - 1), j - s)] else lnL w A R V s L := by
  have hru : ru w s = j - s := rn_un (ru_rn w (by omega)) ⟨by omega, fun i a b => h1 i a (by omega), fun h => by rw [show s + (j - s) = j by omega]; exact h3 (by omega)⟩
  have hhd : lhd w s = true := by
    unfold lhd
    rw [h1 s (Nat.le_refl _) hs, Bool.true_and]
    rcases h2 with h | h
    · rw [decide_eq_false (by omega)]
      rfl
    · rw [h, Bool.and_false]
      rfl
  rw [lnL_skip (a := s + 1) (min (j + 1) 64) (by omega) (fun x a b => by
    unfold lhd
    by_cases hxj : x < j
    · rw [decide_eq_true (show 1 ≤ x by omega), h1 (x - 1) (by omega) (by omega), Bool.true_and]
      cases w x <;> rfl
    · rw [show x = j by omega, h3 (by omega)]
      rfl)]
  by_cases hV : j - s < V
  · rw [if_pos hV, lnL_t (by
      unfold lnP
      rw [hhd, hru, decide_eq_true hV]
      rfl), hru, show s + (j - s) - 1 = j - 1 by omega]
  · rw [if_neg hV, lnL_f (by
      unfold lnP
      rw [hhd, hru, decide_eq_false hV]
      rfl)]
/-- the state of the scan, but for what was on before -/
def lst (k : Nat) (g : Nat → Bool) (A : Nat → Nat) (R V : Nat) (L : List ft) (j : Nat) (x5 : Int) (Ls : List ft) : Prop :=
  (x5 = -1 ∧ Ls = lnL (wk k g) A R V (min j 64) L ∧ (j < 64 → (k = 0 → j = 0 ∨ g (j - 1) = false) ∧ (k = 1 → j = 0 ∨ g (j - 1) = true ∨ ∀ i, i < j → g i = false))) ∨
  (∃ s : Nat, x5 = s ∧ s < j ∧ j ≤ 64 ∧ Ls = lnL (wk k g) A R V s L ∧ (k = 0 → (∀ i, s ≤ i → i < j → g i = true) ∧ (s = 0 ∨ g (s - 1) = false)) ∧ (k = 1 → (∀ i, s ≤ i → i < j → g i = false) ∧ 1 ≤ s ∧ g (s - 1) = true))
