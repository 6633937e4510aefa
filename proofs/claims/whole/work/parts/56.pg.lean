/-! Groups.number, and what the numbers are -/
def rk (lk : Nat → Nat) (x : Nat) : Nat := pc (fun j => decide (lk j = j)) x
theorem rk_s (lk : Nat → Nat) (x : Nat) : rk lk (x + 1) = rk lk x + (if lk x = x then 1 else 0) := by
  unfold rk
  rw [pc_s]
  by_cases h : lk x = x <;> simp [h]
theorem rk_le (lk : Nat → Nat) (x : Nat) : rk lk x ≤ x := pc_le _ _
theorem w_number {N : Nat → Nat} {o n : Nat} (hn : n ≤ N (o + 6)) (hb : n ≤ 100000) {M : cm} {lk : Nat → Nat} (hs : M.1 o 7 = zI n) (hL : gL M o n lk) (hd : dn lk) :
    wp (f_X4_number o N M) (fun M' => M'.1 o 1 = zI ((rk lk n : Nat) : Int) ∧ (∀ i, i < n → M'.1 (o + 6) i = zI ((rk lk (rt lk i) : Nat) : Int)) ∧ M'.2 = M.2 ∧ ∀ m k, ¬ ((m = o ∧ k = 1) ∨ m = o + 6) → M'.1 m k = M.1 m k) := by
  unfold f_X4_number
  simp only [nm_l_eq]
  refine wp_s1 (fun M' => M'.1 o 1 = zI ((rk lk n : Nat) : Int) ∧ (∀ i, i < n → M'.1 (o + 6) i = zI ((rk lk (rt lk i) : Nat) : Int)) ∧ M'.2 = M.2 ∧ ∀ m k, ¬ ((m = o ∧ k = 1) ∨ m = o + 6) → M'.1 m k = M.1 m k) ?_ (fun M' h => wp_r h)
  rw [zI_lit]
  refine lpc (fun f => f_X4_number_L7 o N f) _ n (fun k M' => 0 ≤ k ∧ M'.1 o 1 = zI ((rk lk k.toNat : Nat) : Int) ∧ (∀ i : Nat, (i : Int) < k → M'.1 (o + 6) i = zI ((rk lk (rt lk i) : Nat) : Int)) ∧ (∀ i : Nat, k ≤ i → i < n → M'.1 (o + 6) i = zI ((lk i : Nat) : Int)) ∧ M'.2 = M.2 ∧ ∀ m k, ¬ ((m = o ∧ k = 1) ∨ m = o + 6) → M'.1 m k = M.1 m k) ?_ ?_ nm_F 0 _ (by omega) (by rw [nm_F_eq]; omega) ⟨by omega, ?_, fun i hi => by omega, ?_, rfl, ?_⟩
  · rintro f k M1 hk ⟨h0, e1, e2, e3, e4, e5⟩ hn9
    show wp (f_X4_number_L7 o N (f + 1) _ _) _
    obtain ⟨k', rfl⟩ := Int.eq_ofNat_of_zero_le h0
    have ek : ((k' : Nat) : Int).toNat = k' := rfl
    have hkn : k' < n := by omega
    have hlk := hd k'
    have hrk := rk_le lk k'
    rw [f_X4_number_L7, e5 o 7 (by omega), hs]
    simp (disch := omega) only [zI_le, nm_cz, zI_cl, nm_l_eq]
    rw [if_neg (by omega), ek, e3 k' (by omega) hkn]
    rw [ek] at e1
    simp (disch := omega) only [zI_eq, zI_cl, nm_cz, f_X4_number_J65, zI_lit, zI_add]
    refine wp_if (fun h => ?_) (fun h => ?_)
    · have hf : lk k' = k' := by omega
      refine hn9 _ ⟨by omega, ?_, ?_, ?_, e4, ?_⟩
      · show nm_up _ _ _ _ _ _ = _
        rw [nm_up_ap, if_pos ⟨rfl, rfl⟩, nm_up_ap, if_neg (by omega), e1, zI_add, show (((k' : Nat) : Int) + 1).toNat = k' + 1 by omega, rk_s, if_pos hf]
        rfl
      · intro i hi
        show nm_up _ _ _ _ _ _ = _
        rw [nm_up_ap, if_neg (by omega), nm_up_ap]
        by_cases hik : i = k'
        · subst hik
          rw [if_pos ⟨rfl, rfl⟩, e1, rt_fix hf]
        · rw [if_neg (fun h => hik h.2)]
          exact e2 i (by omega)
      · intro i hi1 hi2
        show nm_up _ _ _ _ _ _ = _
        rw [nm_up_ap, if_neg (by omega), nm_up_ap, if_neg (by omega)]
        exact e3 i (by omega) hi2
      · intro m j hm
        show nm_up _ _ _ _ _ _ = _
        rw [nm_up_ap, if_neg (fun h => hm (Or.inl h)), nm_up_ap, if_neg (fun h => hm (Or.inr h.1))]
        exact e5 m j hm
    · have hf : lk k' ≠ k' := by omega
      refine hn9 _ ⟨by omega, ?_, ?_, ?_, e4, ?_⟩
      · show nm_up _ _ _ _ _ _ = _
        rw [nm_up_ap, if_neg (by omega), e1, show (((k' : Nat) : Int) + 1).toNat = k' + 1 by omega, rk_s, if_neg hf]
        rfl
      · intro i hi
        show nm_up _ _ _ _ _ _ = _
        rw [nm_up_ap]
        by_cases hik : i = k'
        · subst hik
          rw [if_pos ⟨rfl, rfl⟩, show ((lk i : Nat) : Int).toNat = lk i from rfl, e2 (lk i) (by omega), rt_lk hd]
        · rw [if_neg (fun h => hik h.2)]
          exact e2 i (by omega)
      · intro i hi1 hi2
        show nm_up _ _ _ _ _ _ = _
        rw [nm_up_ap, if_neg (by omega)]
        exact e3 i (by omega) hi2
      · intro m j hm
        show nm_up _ _ _ _ _ _ = _
        rw [nm_up_ap, if_neg (fun h => hm (Or.inr h.1))]
        exact e5 m j hm
  · rintro f M1 ⟨h0, e1, e2, e3, e4, e5⟩
    show wp (f_X4_number_L7 o N (f + 1) _ _) _
    rw [f_X4_number_L7, e5 o 7 (by omega), hs]
    simp (disch := omega) only [zI_le, Int.le_refl, if_true]
    exact wp_r ⟨e1, fun i hi => e2 i (by omega), e4, e5⟩
  · show nm_up _ _ _ _ _ _ = _
    rw [nm_up_ap, if_pos ⟨rfl, rfl⟩]
    rfl
  · intro i _ hi
    show nm_up _ _ _ _ _ _ = _
    rw [nm_up_ap, if_neg (by omega)]
    exact hL i hi
  · intro m j hm
    show nm_up _ _ _ _ _ _ = _
    rw [nm_up_ap, if_neg (fun h => hm (Or.inl h))]
theorem ldr_root {r : Nat → Bool} {C : Nat → Nat → Prop} {Y : Nat} {lk : Nat → Nat} (hd : dn lk) (hS : gS r C Y lk) (hC : ∀ p q, p < 64 * Y → q < 64 * Y → r p = true → r q = true → C p q → rt lk (stp r p) = rt lk (stp r q)) {d : Nat} (hdY : d < 64 * Y) : ldr r C d = true ↔ hdp r d = true ∧ lk (pc (hdp r) d) = pc (hdp r) d := by
  constructor
  · intro h
    obtain ⟨h1, h2⟩ := bP_t.mp h
    obtain ⟨q, a1, a2, a3, a4, a5, a6⟩ := stp_ex h1
    have hqd : q = d := by
      apply Classical.byContradiction
      intro hne
      exact h2 q (by omega) (a4 q (Nat.le_refl _) a1) (hS q d (by omega) hdY (a4 q (Nat.le_refl _) a1) h1 (by rw [stp_hd a2, a5]))
    subst hqd
    refine ⟨a2, ?_⟩
    have hle := rt_le hd (pc (hdp r) q)
    by_cases he : rt lk (pc (hdp r) q) = pc (hdp r) q
    · have := rt_root hd (pc (hdp r) q)
      rw [he] at this
      exact this
    · exfalso
      obtain ⟨p, p1, p2, p3⟩ := pc_nth (f := hdp r) q (rt lk (pc (hdp r) q)) (by omega)
      have hp : r p = true := by
        unfold hdp at p2
        simp at p2
        exact p2.1
      exact h2 p p1 hp (hS p q (by omega) hdY hp h1 (by rw [stp_hd p2, stp_hd a2, p3, rt_idem hd]))
  · rintro ⟨h1, h2⟩
    have hr : r d = true := by
      unfold hdp at h1
      simp at h1
      exact h1.1
    refine bP_t.mpr ⟨hr, fun q hq hrq hcq => ?_⟩
    have e := hC q d (by omega) hdY hrq hr hcq
    rw [stp_hd h1, rt_fix h2] at e
    have hle := rt_le hd (stp r q)
    obtain ⟨x, a1, a2, a3, a4, a5, a6⟩ := stp_ex hrq
    have := pc_mono (hdp r) (show q + 1 ≤ d by omega)
    omega
theorem Lab_of {r : Nat → Bool} {C : Nat → Nat → Prop} {Y n : Nat} {lk : Nat → Nat} (hn : pc (hdp r) (64 * Y) = n) (hd : dn lk) (hS : gS r C Y lk) (hC : ∀ p q, p < 64 * Y → q < 64 * Y → r p = true → r q = true → C p q → rt lk (stp r p) = rt lk (stp r q)) :
    (∀ d, d ≤ 64 * Y → pc (ldr r C) d = rk lk (pc (hdp r) d)) ∧ Lab r C (64 * Y) (fun q => if r q = true then ((rk lk (rt lk (stp r q)) : Nat) : Int) else -1) (rk lk n) := by
  have key : ∀ d, d ≤ 64 * Y → pc (ldr r C) d = rk lk (pc (hdp r) d) := by
    intro d
    induction d with
    | zero => intro _; rfl
    | succ d ih =>
      intro hdY
      have hlr := ldr_root hd hS hC (d := d) (by omega)
      rw [pc_s, pc_s (hdp r), ih (by omega)]
      cases hh : hdp r d with
      | false =>
        have : ldr r C d = false := by
          cases hl : ldr r C d with
          | false => rfl
          | true =>
            rw [hlr.mp hl |>.1] at hh
            exact hh
        rw [this]
        rfl
      | true =>
        show _ = rk lk (pc (hdp r) d + 1)
        rw [rk_s]
        by_cases hf : lk (pc (hdp r) d) = pc (hdp r) d
        · rw [hlr.mpr ⟨hh, hf⟩, if_pos hf]
          rfl
        · have : ldr r C d = false := by
            cases hl : ldr r C d with
            | false => rfl
            | true => exact absurd (hlr.mp hl).2 hf
          rw [this, if_neg hf]
          rfl
  refine ⟨key, fun q _ hq => by simp [hq], fun q hqM hq => ?_, by rw [key _ (Nat.le_refl _), hn]⟩
  have hlt := stp_lt hqM hq
  have hle := rt_le hd (stp r q)
  obtain ⟨d, d1, d2, d3⟩ := pc_nth (f := hdp r) (64 * Y) (rt lk (stp r q)) (by omega)
  have hrd : r d = true := by
    unfold hdp at d2
    simp at d2
    exact d2.1
  refine ⟨d, ?_, ?_, ?_, ?_⟩
  · apply Classical.byContradiction
    intro hne
    obtain ⟨x, a1, a2, a3, a4, a5, a6⟩ := stp_ex hq
    have := pc_mono (hdp r) (show q + 1 ≤ d by omega)
    omega
  · exact (ldr_root hd hS hC d1).mpr ⟨d2, by rw [d3, rt_root hd]⟩
  · exact hS q d hqM d1 hq hrd (by rw [stp_hd d2, d3, rt_idem hd])
  · show (if r q = true then ((rk lk (rt lk (stp r q)) : Nat) : Int) else -1) = _
    rw [if_pos hq, key d (by omega), d3]
