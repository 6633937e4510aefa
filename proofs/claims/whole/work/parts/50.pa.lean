/-! the pure side: numbers, checks, loops -/
def zI (z : Int) : Int32 := Int32.ofInt z
theorem zI_lit (n : Nat) : (OfNat.ofNat n : Int32) = zI (OfNat.ofNat n : Int) := by
  show Int32.ofNat n = Int32.ofInt (n : Int)
  exact Int32.ofInt_eq_ofNat.symm
theorem zI_nI (n : Nat) : nI n = zI (n : Int) := Int32.ofInt_eq_ofNat.symm
theorem zI_ex (x : Int32) : ∃ z : Int, -2147483648 ≤ z ∧ z < 2147483648 ∧ x = zI z := by
  refine ⟨x.toInt, ?_, ?_, (Int32.ofInt_toInt x).symm⟩
  · have := Int32.le_toInt x
    omega
  · have := Int32.toInt_lt x
    omega
theorem zI_add (a b : Int) : zI a + zI b = zI (a + b) := (Int32.ofInt_add a b).symm
theorem zI_sub (a b : Int) : zI a - zI b = zI (a - b) := (Int32.ofInt_sub a b).symm
theorem zI_mul (a b : Int) : zI a * zI b = zI (a * b) := (Int32.ofInt_mul a b).symm
theorem zI_neg (a : Int) : -zI a = zI (-a) := (Int32.ofInt_neg a).symm
theorem zI_ti {z : Int} (h1 : -2147483648 ≤ z) (h2 : z < 2147483648) : (zI z).toInt = z := Int32.toInt_ofInt_of_le (by omega) (by omega)
theorem zI_lt {a b : Int} (h1 : -2147483648 ≤ a) (h2 : a < 2147483648) (h3 : -2147483648 ≤ b) (h4 : b < 2147483648) : zI a < zI b ↔ a < b := by
  rw [Int32.lt_iff_toInt_lt, zI_ti h1 h2, zI_ti h3 h4]
theorem zI_le {a b : Int} (h1 : -2147483648 ≤ a) (h2 : a < 2147483648) (h3 : -2147483648 ≤ b) (h4 : b < 2147483648) : zI a ≤ zI b ↔ a ≤ b := by
  rw [Int32.le_iff_toInt_le, zI_ti h1 h2, zI_ti h3 h4]
theorem zI_eq {a b : Int} (h1 : -2147483648 ≤ a) (h2 : a < 2147483648) (h3 : -2147483648 ≤ b) (h4 : b < 2147483648) : zI a = zI b ↔ a = b := by
  rw [← Int32.toInt_inj, zI_ti h1 h2, zI_ti h3 h4]
theorem zI_cl {z : Int} (h1 : -2147483648 ≤ z) (h2 : z < 2147483648) : (zI z).toNatClampNeg = z.toNat := by
  show (zI z).toInt.toNat = z.toNat
  rw [zI_ti h1 h2]
theorem zI_tdiv {a b : Int} (h1 : -2147483648 ≤ a) (h2 : a < 2147483648) (h3 : 0 < b) (h4 : b < 2147483648) : zI a / zI b = zI (a.tdiv b) := by
  apply Int32.toInt.inj
  have hb1 : a.tdiv b ≤ a.natAbs := by
    have := Int.natAbs_tdiv_le_natAbs a b
    omega
  have hb2 : -(a.natAbs : Int) ≤ a.tdiv b := by
    have := Int.natAbs_tdiv_le_natAbs a b
    omega
  by_cases hm : a = -2147483648
  · rw [Int32.toInt_div, zI_ti h1 h2, zI_ti (by omega) h4]
    by_cases hb : b = 1
    · subst hb
      subst hm
      decide
    · have h5 : a.tdiv b = -(2147483648 / b) := by
        subst hm
        rw [show (-2147483648 : Int) = -(2147483648) from rfl, Int.neg_tdiv, Int.tdiv_eq_ediv_of_nonneg (by omega)]
      have h6 : 2147483648 / b ≤ 2147483648 / 2 := by
        apply Int.ediv_le_of_le_mul h3
        have : (2:Int) ≤ b := by omega
        calc (2147483648 : Int) = 2147483648 / 2 * 2 := by decide
          _ ≤ 2147483648 / 2 * b := Int.mul_le_mul_of_nonneg_left this (by decide)
      have h7 : 0 ≤ 2147483648 / b := Int.ediv_nonneg (by omega) (by omega)
      rw [zI_ti (by omega) (by omega)]
      exact Int.bmod_eq_of_le (by omega) (by omega)
  · rw [Int32.toInt_div, zI_ti h1 h2, zI_ti (by omega) h4, zI_ti (by omega) (by omega)]
    exact Int.bmod_eq_of_le (by omega) (by omega)
theorem zI_div {a b : Int} (h1 : 0 ≤ a) (h2 : a < 2147483648) (h3 : 0 < b) (h4 : b < 2147483648) : zI a / zI b = zI (a / b) := by
  rw [zI_tdiv (by omega) h2 h3 h4, Int.tdiv_eq_ediv_of_nonneg h1]
theorem zI_eqx {x y : Int32} (h : x.toInt = y.toInt) : x = y := Int32.toInt.inj h
theorem vp_narZ {v : Int32} (h : v = 0 ∨ v = 1) : vp_nar .boolean v = v := by
  rcases h with rfl | rfl <;> rfl
/-! what an answer is, if there is one -/
def wp {α : Type} (x : Option α) (P : α → Prop) : Prop := ∃ a, x = some a ∧ P a
theorem wp_r {α : Type} {a : α} {P : α → Prop} (h : P a) : wp (some a) P := ⟨a, rfl, h⟩
theorem wp_m {α : Type} {x : Option α} {P Q : α → Prop} (h : wp x P) (hp : ∀ a, P a → Q a) : wp x Q := by
  obtain ⟨a, e, h⟩ := h
  exact ⟨a, e, hp a h⟩
theorem wp_c {β : Type} {i : Int32} {N : Nat} {K : Option β} {P : β → Prop} (h0 : 0 ≤ i.toInt) (h1 : i.toInt < N) (h : wp K P) : wp (nm_c i N K) P := by
  unfold nm_c
  rw [if_pos ⟨h0, h1⟩]
  exact h
theorem wp_cz {β : Type} {z : Int} {N : Nat} {K : Option β} {P : β → Prop} (h0 : 0 ≤ z) (h1 : z < N) (h2 : z < 2147483648) (h : wp K P) : wp (nm_c (zI z) N K) P := by
  refine wp_c ?_ ?_ h <;> rw [zI_ti (by omega) h2] <;> assumption
theorem nm_cz {β : Type} {z : Int} {N : Nat} {K : Option β} (h0 : 0 ≤ z) (h1 : z < N) (h2 : z < 2147483648) : nm_c (zI z) N K = K := by
  unfold nm_c
  rw [zI_ti (by omega) h2, if_pos ⟨h0, h1⟩]
theorem nm_l_eq {α β : Type} (v : α) (K : α → β) : nm_l v K = K v := rfl
theorem wp_l {α β : Type} {v : α} {K : α → Option β} {P : β → Prop} (h : wp (K v) P) : wp (nm_l v K) P := h
theorem wp_s1 {α β : Type} {x : Option α} {K : α → Option β} {P : β → Prop} (Q : α → Prop) (h : wp x Q) (hk : ∀ a, Q a → wp (K a) P) : wp (nm_s1 x K) P := by
  obtain ⟨a, e, h⟩ := h
  subst e
  exact hk a h
theorem wp_s2 {α1 α2 β : Type} {x : Option (α1 × α2)} {K : α1 → α2 → Option β} {P : β → Prop} (Q : α1 × α2 → Prop) (h : wp x Q) (hk : ∀ a b, Q (a, b) → wp (K a b) P) : wp (nm_s2 x K) P := by
  obtain ⟨a, e, h⟩ := h
  subst e
  exact hk a.1 a.2 h
theorem wp_s3 {α1 α2 α3 β : Type} {x : Option (α1 × α2 × α3)} {K : α1 → α2 → α3 → Option β} {P : β → Prop} (Q : α1 × α2 × α3 → Prop) (h : wp x Q) (hk : ∀ a b c, Q (a, b, c) → wp (K a b c) P) : wp (nm_s3 x K) P := by
  obtain ⟨a, e, h⟩ := h
  subst e
  exact hk a.1 a.2.1 a.2.2 h
theorem nm_s1_some {α β : Type} (a : α) (K : α → Option β) : nm_s1 (some a) K = K a := rfl
theorem nm_s2_some {α1 α2 β : Type} (a : α1) (b : α2) (K : α1 → α2 → Option β) : nm_s2 (some (a, b)) K = K a b := rfl
theorem nm_s3_some {α1 α2 α3 β : Type} (a : α1) (b : α2) (c : α3) (K : α1 → α2 → α3 → Option β) : nm_s3 (some (a, b, c)) K = K a b c := rfl
theorem wp_if {α : Type} {c : Prop} [Decidable c] {a b : Option α} {P : α → Prop} (h1 : c → wp a P) (h2 : ¬ c → wp b P) : wp (if c then a else b) P := by
  by_cases h : c
  · rw [if_pos h]
    exact h1 h
  · rw [if_neg h]
    exact h2 h
theorem wp_eq {α : Type} {x : Option α} {a : α} (h : wp x (fun b => b = a)) : x = some a := by
  obtain ⟨b, e, h⟩ := h
  rw [e, h]
/-- every loop: what holds as it goes on, and a measure that falls -/
theorem lpm {τ β : Type} (L : Nat → τ → Option β) (P : β → Prop) (Inv : τ → Prop) (m : τ → Nat) (hs : ∀ n t, Inv t → (∀ t', Inv t' → m t' < m t → wp (L n t') P) → wp (L (n + 1) t) P) : ∀ n t, m t < n → Inv t → wp (L n t) P := by
  intro n
  induction n with
  | zero =>
    intro t h _
    omega
  | succ n ih =>
    intro t h hI
    exact hs n t hI (fun t' h1 h2 => ih t' (by omega) h1)
/-- a loop that counts one number up to an end -/
theorem lpc {σ β : Type} (L : Nat → Int32 → σ → Option β) (P : β → Prop) (b : Int) (Inv : Int → σ → Prop) (hs : ∀ n k S, k < b → Inv k S → (∀ S', Inv (k + 1) S' → wp (L n (zI (k + 1)) S') P) → wp (L (n + 1) (zI k) S) P) (he : ∀ n S, Inv b S → wp (L (n + 1) (zI b) S) P) : ∀ (n : Nat) k S, k ≤ b → b - k < n → Inv k S → wp (L n (zI k) S) P := by
  intro n
  induction n with
  | zero =>
    intro k S h1 h2 _
    omega
  | succ n ih =>
    intro k S h1 h2 hI
    by_cases hk : k < b
    · exact hs n k S hk hI (fun S' h => ih (k + 1) S' (by omega) (by omega) h)
    · have e : k = b := by omega
      subst e
      exact he n S hI
theorem nm_F_eq : nm_F = 1000000 := rfl
theorem nm_up_ap (I : Nat → Nat → Int32) (n k : Nat) (v : Int32) (m j : Nat) : nm_up I n k v m j = if m = n ∧ j = k then v else I m j := by
  unfold nm_up va_up upd
  by_cases h1 : m = n
  · subst h1
    by_cases h2 : j = k <;> simp [h2]
  · simp [h1]
theorem nm_upJ_ap (I : Nat → Nat → Int64) (n k : Nat) (v : Int64) (m j : Nat) : nm_upJ I n k v m j = if m = n ∧ j = k then v else I m j := by
  unfold nm_upJ va_up vp_updL
  by_cases h1 : m = n
  · subst h1
    by_cases h2 : j = k <;> simp [h2]
  · simp [h1]
theorem nm_up_n (I : Nat → Nat → Int32) (n k : Nat) (v : Int32) {m : Nat} (h : m ≠ n) : nm_up I n k v m = I m := va_up_ne _ _ h
theorem nm_upJ_n (I : Nat → Nat → Int64) (n k : Nat) (v : Int64) {m : Nat} (h : m ≠ n) : nm_upJ I n k v m = I m := va_up_ne _ _ h
/-! a first trial: the reference's fill -/
theorem rf_fill_row (x1 : Int) (x2 x4 x7 : Int) (v : Int32) (hv : v = 0 ∨ v = 1) (h1 : 0 ≤ x1) (h1b : x1 ≤ 258048) (h2 : -100 ≤ x2) (h2b : x2 ≤ 100) (h4 : 0 ≤ x4) (h4b : x4 ≤ 200) (h7 : 0 ≤ x7) (h7b : x7 < 64) (k0 : Int) (hk0 : 0 ≤ k0) (hk0b : k0 ≤ 64) (I : nm_I) :
    wp (f_X12_fill_L38 (zI x1) (zI x2) (zI x4) v (zI x7) nm_F (zI k0) I) (fun I' => ∀ n j, I' n j = if n = 13 ∧ x1 + 64 * x7 + k0 ≤ j ∧ (j : Int) < x1 + 64 * x7 + 64 ∧ (j : Int) < x1 + 64 * x7 + x2 + x4 then v else I n j) := by
  refine lpc (fun n k S => f_X12_fill_L38 (zI x1) (zI x2) (zI x4) v (zI x7) n k S) _ 64 (fun k S => k0 ≤ k ∧ ∀ n j, S n j = if n = 13 ∧ x1 + 64 * x7 + k0 ≤ j ∧ (j : Int) < x1 + 64 * x7 + k ∧ (j : Int) < x1 + 64 * x7 + x2 + x4 then v else I n j) ?_ ?_ nm_F k0 I hk0b (by rw [nm_F_eq]; omega) ⟨Int.le_refl _, ?_⟩
  · intro n k S hk ⟨hI0, hI⟩ hn
    show wp (f_X12_fill_L38 _ _ _ _ _ (n + 1) _ _) _
    unfold f_X12_fill_L38
    simp (disch := omega) only [zI_lit, zI_add, zI_mul, zI_le, zI_cl, nm_cz, vp_narZ hv, nm_l_eq]
    refine wp_if (fun h => wp_r ?_) (fun h => ?_)
    · intro n j
      rw [hI]
      congr 1
      apply propext
      constructor <;> rintro ⟨a, b, c, d⟩ <;> refine ⟨a, b, ?_, ?_⟩ <;> omega
    rw [if_neg (by omega)]
    refine hn _ ⟨by omega, ?_⟩
    intro n j
    rw [nm_up_ap, hI]
    by_cases hn : n = 13
    · subst hn
      simp only [true_and]
      repeat' split
      all_goals first | rfl | omega
    · simp only [hn, false_and, if_false]
  · intro n S ⟨hI0, hI⟩
    show wp (f_X12_fill_L38 _ _ _ _ _ (n + 1) _ _) _
    unfold f_X12_fill_L38
    simp (disch := omega) only [zI_lit, zI_add, zI_mul, zI_le, zI_cl, nm_cz, nm_l_eq, Int.le_refl, if_true]
    refine wp_if (fun h => wp_r ?_) (fun h => wp_r ?_) <;> exact hI
  · intro n j
    rw [if_neg]
    rintro ⟨-, a, b, -⟩
    omega
