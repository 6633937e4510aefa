/-! the reference: its numbers in range, its parts -/
theorem lg_lt0 (x y : Int64) : lg_cmp x y < 0 ↔ x.toInt < y.toInt := by
  unfold lg_cmp
  by_cases h : x > y
  · rw [if_pos h]
    have h2 : y.toInt < x.toInt := Int64.lt_iff_toInt_lt.mp h
    constructor
    · intro h3
      exact absurd h3 (by decide)
    · intro h3
      omega
  · rw [if_neg h]
    have h2 : ¬ y.toInt < x.toInt := fun h3 => h (Int64.lt_iff_toInt_lt.mpr h3)
    by_cases e : x = y
    · rw [if_pos e]
      subst e
      constructor
      · intro h3
        exact absurd h3 (by decide)
      · intro h3
        omega
    · rw [if_neg e]
      have : x.toInt ≠ y.toInt := fun h3 => e (Int64.toInt.inj h3)
      constructor
      · intro _
        omega
      · intro _
        decide
theorem lg_gt0 (x y : Int64) : 0 < lg_cmp x y ↔ y.toInt < x.toInt := by
  unfold lg_cmp
  by_cases h : x > y
  · rw [if_pos h]
    have h2 : y.toInt < x.toInt := Int64.lt_iff_toInt_lt.mp h
    exact ⟨fun _ => h2, fun _ => by decide⟩
  · rw [if_neg h]
    have h2 : ¬ y.toInt < x.toInt := fun h3 => h (Int64.lt_iff_toInt_lt.mpr h3)
    constructor
    · intro h3
      split at h3 <;> exact absurd h3 (by decide)
    · intro h3
      exact absurd h3 h2
theorem zI_64 {z : Int} (h1 : -2147483648 ≤ z) (h2 : z < 2147483648) : (zI z).toInt64.toInt = z := by
  rw [Int32.toInt_toInt64, zI_ti h1 h2]
theorem isIn_z {z : Int} (h1 : -2147483648 ≤ z) (h2 : z < 2147483648) (a b : Int64) : f_X12_isIn (zI z).toInt64 a b = if a.toInt ≤ z ∧ z ≤ b.toInt then 1 else 0 := by
  unfold f_X12_isIn
  have e1 : (lg_cmp (zI z).toInt64 a < 0) ↔ z < a.toInt := by rw [lg_lt0, zI_64 h1 h2]
  have e2 : (0 < lg_cmp (zI z).toInt64 b) ↔ b.toInt < z := by rw [lg_gt0, zI_64 h1 h2]
  by_cases c1 : z < a.toInt
  · rw [if_pos (e1.mpr c1), if_neg (by omega)]
  · rw [if_neg (fun h => c1 (e1.mp h))]
    by_cases c2 : b.toInt < z
    · rw [if_pos (e2.mpr c2), if_neg (by omega)]
    · rw [if_neg (fun h => c2 (e2.mp h)), if_pos (by omega)]
theorem j64 {n : Nat} (h : n < 4611686018427387904) : (OfNat.ofNat n : Int64).toInt = (n : Int) := by
  show (Int64.ofNat n).toInt = _
  rw [← Int64.ofInt_eq_ofNat, Int64.toInt_ofInt_of_le (by omega) (by omega)]
def oR (I : nm_I) (D : Nat → Bool) : Prop := ∀ p, p < 65536 → I 20 p = if D p = true then 1 else 0
theorem oR_0 {I : nm_I} {D : Nat → Bool} (h : oR I D) {p : Nat} (hp : p < 65536) : I 20 p = 0 ↔ D p = false := by
  rw [h p hp]
  cases D p with
  | true =>
    rw [if_pos rfl]
    constructor
    · intro h
      exact absurd h (by decide)
    · intro h
      exact absurd h (by decide)
  | false =>
    rw [if_neg (by decide)]
    exact ⟨fun _ => rfl, fun _ => rfl⟩
noncomputable def lead (r : Nat → Bool) (C : Nat → Nat → Prop) (q : Nat) : Nat := @dite _ (∃ d, d ≤ q ∧ ldr r C d = true ∧ C q d) (Classical.propDecidable _) (fun h => Classical.choose h) (fun _ => 0)
theorem lead_sp {r : Nat → Bool} {C : Nat → Nat → Prop} {q : Nat} (h : ∃ d, d ≤ q ∧ ldr r C d = true ∧ C q d) : lead r C q ≤ q ∧ ldr r C (lead r C q) = true ∧ C q (lead r C q) := by
  unfold lead
  rw [dif_pos h]
  exact Classical.choose_spec h
noncomputable def lc (r : Nat → Bool) (q : Nat) : Int := if r q = true then ((pc (ldr r (CP r)) (lead r (CP r) q) : Nat) : Int) else -1
theorem leadP {r : Nat → Bool} {q : Nat} (h : r q = true) : lead r (CP r) q ≤ q ∧ ldr r (CP r) (lead r (CP r) q) = true ∧ CP r q (lead r (CP r) q) := lead_sp (ldr_ex CP_sy CP_tr CP_rf q h)
theorem Lab_lc (r : Nat → Bool) (M : Nat) : Lab r (CP r) M (lc r) (pc (ldr r (CP r)) M) := by
  refine ⟨fun q _ h => by simp [lc, h], fun q _ h => ?_, rfl⟩
  obtain ⟨h1, h2, h3⟩ := leadP h
  exact ⟨_, h1, h2, h3, by simp [lc, h]⟩
theorem lead_eq {r : Nat → Bool} {q d : Nat} (h : r q = true) (hd : ldr r (CP r) d = true) : lead r (CP r) q = d ↔ CP r d q := by
  obtain ⟨h1, h2, h3⟩ := leadP h
  constructor
  · intro e
    rw [e] at h3
    exact CP_sy _ _ h3
  · intro e
    exact ldr_un CP_sy h2 hd (CP_sy _ _ (CP_tr _ _ _ e h3))
/-- the search of one part: what is found (v), the row of the found ones (qu) -/
def bI (I : nm_I) (r : Nat → Bool) (s : Nat) (p : Nat) (v : Nat → Bool) (cnt : Nat) (qu : Nat → Nat) : Prop :=
  (∀ q, q < 4096 → I 28 q = zI (if v q = true then (p : Int) else if r q = true ∧ lead r (CP r) q < s then lc r q else -1)) ∧ (∀ q, v q = true → q < 4096 ∧ r q = true ∧ CP r s q) ∧ pc v 4096 = cnt ∧ I 0 34 = zI (cnt : Nat) ∧ (∀ j, j < cnt → qu j < 4096 ∧ v (qu j) = true ∧ I 32 j = zI (qu j : Nat)) ∧ ∀ q, v q = true → ∃ j, j < cnt ∧ qu j = q
def mF (I I' : nm_I) : Prop := ∀ n k, n ≠ 28 → n ≠ 32 → ¬ (n = 0 ∧ k = 34) → I' n k = I n k
theorem w_meets {D : Nat → Bool} {a b : Nat} (ha : a < 16) (hb : b < 16) {I : nm_I} (hO : oR I D) {s p : Nat} (hp : p < 4096) (hs : ldr (rcm D a b) (CP (rcm D a b)) s = true) {v : Nat → Bool} {cnt : Nat} {qu : Nat → Nat} (hB : bI I (rcm D a b) s p v cnt qu) {t : Nat} (ht : t < 4096) (hc : rcm D a b t = true → CP (rcm D a b) s t) :
    wp (f_X12_meets (zI ((4096 * a : Nat) : Int)) (zI (b : Nat)) (zI (t : Nat)) (zI (p : Nat)) I) (fun I' => ∃ v' cnt' qu', bI I' (rcm D a b) s p v' cnt' qu' ∧ (∀ q, v q = true → v' q = true) ∧ (rcm D a b t = true → v' t = true) ∧ cnt ≤ cnt' ∧ (∀ j, j < cnt → qu' j = qu j) ∧ mF I I') := by
  obtain ⟨h1, h2, h3, h4, h5, h6⟩ := hB
  have hrl : ∀ l, l < 16 → rl D l t = D (4096 * l + t) := fun l hl => by simp [rl, ht]
  have hcnt : cnt ≤ 4096 := by
    rw [← h3]
    exact pc_le _ _
  unfold f_X12_meets
  simp (disch := omega) only [zI_lit, zI_mul, zI_add, nm_cz, zI_cl, nm_l_eq]
  rw [show (((4096 * a : Nat) : Int) + ((t : Nat) : Int)).toNat = 4096 * a + t by omega, show (4096 * ((b : Nat) : Int) + ((t : Nat) : Int)).toNat = 4096 * b + t by omega, show ((t : Nat) : Int).toNat = t from rfl]
  have hskip : rcm D a b t = false ∨ v t = true → wp (some I) (fun I' => ∃ v' cnt' qu', bI I' (rcm D a b) s p v' cnt' qu' ∧ (∀ q, v q = true → v' q = true) ∧ (rcm D a b t = true → v' t = true) ∧ cnt ≤ cnt' ∧ (∀ j, j < cnt → qu' j = qu j) ∧ mF I I') := by
    intro h
    refine wp_r ⟨v, cnt, qu, ⟨h1, h2, h3, h4, h5, h6⟩, fun _ h => h, fun hr => ?_, Nat.le_refl _, fun _ _ => rfl, fun _ _ _ _ _ => rfl⟩
    rcases h with h | h
    · rw [h] at hr
      exact absurd hr (by decide)
    · exact h
  have ez : zI 0 = 0 := rfl
  have oa := oR_0 hO (p := 4096 * a + t) (by omega)
  have ob := oR_0 hO (p := 4096 * b + t) (by omega)
  rw [ez]
  refine wp_if (fun h => hskip (Or.inl ?_)) (fun h => ?_)
  · unfold rcm
    rw [hrl a ha, oa.mp h]
    rfl
  refine wp_if (fun h => hskip (Or.inl ?_)) (fun hh => ?_)
  · unfold rcm
    rw [hrl b hb, ob.mp h, Bool.and_false]
  have hr : rcm D a b t = true := by
    unfold rcm
    rw [hrl a ha, hrl b hb]
    have x1 : D (4096 * a + t) = true := by
      cases hd : D (4096 * a + t) with
      | true => rfl
      | false => exact absurd (oa.mpr hd) h
    have x2 : D (4096 * b + t) = true := by
      cases hd : D (4096 * b + t) with
      | true => rfl
      | false => exact absurd (ob.mpr hd) hh
    rw [x1, x2]
    rfl
  have hct := hc hr
  have hlead : lead (rcm D a b) (CP (rcm D a b)) t = s := (lead_eq hr hs).mpr hct
  rw [h1 t ht]
  have hneg : (if v t = true then ((p : Nat) : Int) else if rcm D a b t = true ∧ lead (rcm D a b) (CP (rcm D a b)) t < s then lc (rcm D a b) t else -1) = if v t = true then ((p : Nat) : Int) else -1 := by
    rw [if_neg (show ¬ (rcm D a b t = true ∧ lead (rcm D a b) (CP (rcm D a b)) t < s) by rw [hlead]; omega)]
  rw [hneg]
  cases hv : v t with
  | true =>
    rw [if_pos rfl, ← ez]
    simp (disch := omega) only [zI_lt]
    rw [if_neg (by omega)]
    exact hskip (Or.inr hv)
  | false =>
    rw [if_neg (show ¬ (false = true) by decide), if_pos (show zI (-1) < 0 by decide)]
    have hpc := pc_lt (f := fun q => if q = t then true else v q) (k := t) (n := 4096) ht (by simp)
    have hone := pc_one (f := v) (g := fun q => if q = t then true else v q) (k := t) (n := 4096) ht (fun i hi => by simp [hi]) hv (by simp)
    have hle := pc_le (fun q => if q = t then true else v q) 4096
    have e34 : nm_up I 28 t (zI (p : Nat)) 0 34 = zI (cnt : Nat) := by rw [nm_up_ap, if_neg (by omega)]; exact h4
    rw [e34]
    simp (disch := omega) only [nm_cz, zI_cl]
    rw [show ((cnt : Nat) : Int).toNat = cnt from rfl]
    refine wp_r ⟨fun q => if q = t then true else v q, cnt + 1, fun j => if j = cnt then t else qu j, ⟨?_, ?_, by rw [hone, h3], ?_, ?_, ?_⟩, ?_, ?_, by omega, ?_, ?_⟩
    · intro q hq
      rw [nm_up_ap, if_neg (by omega), nm_up_ap, if_neg (by omega), nm_up_ap]
      by_cases hqt : q = t
      · subst hqt
        simp
      · simp only [hqt, and_false, if_false]
        exact h1 q hq
    · intro q hq
      by_cases hqt : q = t
      · subst hqt
        exact ⟨ht, hr, hct⟩
      · simp only [hqt, if_false] at hq
        exact h2 q hq
    · rw [nm_up_ap, if_pos ⟨rfl, rfl⟩, nm_up_ap, if_neg (by omega), e34, zI_add]
      rfl
    · intro j hj
      by_cases hjc : j = cnt
      · subst hjc
        refine ⟨by simp [ht], by simp, ?_⟩
        rw [nm_up_ap, if_neg (by omega), nm_up_ap]
        simp
      · obtain ⟨x1, x2, x3⟩ := h5 j (by omega)
        simp only [hjc, if_false]
        refine ⟨x1, ?_, ?_⟩
        · by_cases hqt : qu j = t
          · simp [hqt]
          · simp [hqt, x2]
        · rw [nm_up_ap, if_neg (by omega), nm_up_ap, if_neg (by omega), nm_up_ap, if_neg (by omega)]
          exact x3
    · intro q hq
      by_cases hqt : q = t
      · exact ⟨cnt, by omega, by simp [hqt]⟩
      · simp only [hqt, if_false] at hq
        obtain ⟨j, j1, j2⟩ := h6 q hq
        refine ⟨j, by omega, ?_⟩
        have : j ≠ cnt := by omega
        simp [this, j2]
    · intro q hq
      by_cases hqt : q = t <;> simp [hqt, hq]
    · intro _
      simp
    · intro j hj
      have : j ≠ cnt := by omega
      simp [this]
    · intro n k n1 n2 n3
      rw [nm_up_ap, if_neg n3, nm_up_ap, if_neg (by omega), nm_up_ap, if_neg (by omega)]
