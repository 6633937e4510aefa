theorem okS_K {M : cm} {K : Nat → Nat} {c pz : Nat} {s : Nat → Int} (ho : okS c s) (h : shM M K pz s) : K pz ≠ 0 ∧ (K pz = 6 ↔ (s 0 = 0 ∨ s 0 = 1 ∨ s 0 = 2)) ∧ (K pz = 5 ↔ s 0 = 3) ∧ (K pz = 7 ↔ s 0 = 4) := by
  obtain ⟨-, -, -, h6, h5, h7⟩ := h
  have h0 := ho.1
  have hh : s 0 = 0 ∨ s 0 = 1 ∨ s 0 = 2 ∨ s 0 = 3 ∨ s 0 = 4 := by omega
  rcases hh with e | e | e | e | e
  · have := (h6 (by omega)).1
    omega
  · have := (h6 (by omega)).1
    omega
  · have := (h6 (by omega)).1
    omega
  · have := (h5 e).1
    omega
  · have := (h7 e).1
    omega
theorem nm_nzp {β : Type} {k : Nat} {X : Option β} (h : k ≠ 0) : nm_nz k X = X := by
  unfold nm_nz
  rw [if_neg h]
theorem nm_is0 {a b : Nat} : nm_is a b = 0 ↔ a ≠ b := by
  unfold nm_is
  by_cases h : a = b
  · rw [if_pos h]
    constructor
    · intro h2
      exact absurd h2 (by decide)
    · intro h2
      exact absurd h h2
  · rw [if_neg h]
    exact ⟨fun _ => h, fun _ => rfl⟩
theorem bP_congr {p q : Prop} (h : p ↔ q) : bP p = bP q := by rw [propext h]
theorem ceM_rW {M M' : cm} {K : Nat → Nat} {c : Nat} {s : Nat → Nat → Int} {n : Nat} (h : ceM M K c s n) (hr : rW (1000 + 100 * c) M M') : ceM M' K c s n := ⟨h.1, by rw [hr.1]; exact h.2.1, fun k hk => ⟨(h.2.2 k hk).1, shM_rW (h.2.2 k hk).2 hr (by have := h.1; omega)⟩⟩
def mkX (s : Nat → Nat → Int) (hb : Bool) (k : Nat) (Q : Prop) (p : Nat) : Prop :=
  if hb = true then Q ∧ ¬ ∃ j, j < k ∧ s j 0 = 1 ∧ s j 1 = ((p / 4096 : Nat) : Int) ∧ cov (s j) (p % 4096 / 64) (p % 64) else Q ∨ ∃ j, j < k ∧ (s j 0 = 0 ∨ s j 0 = 2) ∧ s j 1 = ((p / 4096 : Nat) : Int) ∧ cov (s j) (p % 4096 / 64) (p % 64)
theorem w_markPatches {M : cm} {K : Nat → Nat} {N : Nat → Nat} {c : Nat} (hN : N (1000 + 100 * c + 2) = 512) {s : Nat → Nat → Int} {n : Nat} (hc : ceM M K c s n) {F : Nat → Bool} (hF : pM M (1000 + 100 * c) F) (hb : Bool) : wp (f_X1_markPatches (1000 + 100 * c) N K (if hb = true then 1 else 0) M) (fun M' => rW (1000 + 100 * c) M M' ∧ pM M' (1000 + 100 * c) (fun p => bP (mkX s hb n (F p = true) p))) := by
  have hn16 := hc.1
  unfold f_X1_markPatches
  refine wp_s1 (fun M' => rW (1000 + 100 * c) M M' ∧ pM M' (1000 + 100 * c) (fun p => bP (mkX s hb n (F p = true) p))) ?_ (fun _ h => wp_r h)
  rw [show f_X1_markPatches_L2 (1000 + 100 * c) N K (if hb = true then 1 else 0) nm_F 0 M = f_X1_markPatches_L2 (1000 + 100 * c) N K (if hb = true then 1 else 0) nm_F (zI 0) M from rfl]
  refine lpc (fun f => f_X1_markPatches_L2 (1000 + 100 * c) N K (if hb = true then 1 else 0) f) _ n (fun k M1 => 0 ≤ k ∧ rW (1000 + 100 * c) M M1 ∧ pM M1 (1000 + 100 * c) (fun p => bP (mkX s hb k.toNat (F p = true) p))) ?_ ?_ nm_F 0 M (by omega) (by rw [nm_F_eq]; omega) ⟨by omega, ⟨rfl, fun _ _ => rfl⟩, ?_⟩
  · rintro f k M1 hk ⟨k0, hr, hI⟩ hn9
    obtain ⟨k, rfl⟩ := Int.eq_ofNat_of_zero_le k0
    have hc1 := ceM_rW hc hr
    obtain ⟨o1, o2⟩ := hc1.2.2 k (by omega)
    obtain ⟨K0, K6, K5, K7⟩ := okS_K o1 o2
    rw [show ((k : Nat) : Int).toNat = k from rfl] at hI
    have hgo : ∀ M2, rW (1000 + 100 * c) M M2 → pM M2 (1000 + 100 * c) (fun p => bP (mkX s hb (k + 1) (F p = true) p)) → wp (f_X1_markPatches_J57 (1000 + 100 * c) N K (zI ((k : Nat) : Int)) M2 (f_X1_markPatches_L2 (1000 + 100 * c) N K (if hb = true then 1 else 0) f)) (fun M' => rW (1000 + 100 * c) M M' ∧ pM M' (1000 + 100 * c) (fun p => bP (mkX s hb n (F p = true) p))) := by
      intro M2 r2 p2
      unfold f_X1_markPatches_J57
      rw [zI_inc]
      refine hn9 _ ⟨by omega, r2, ?_⟩
      rw [show (((k : Nat) : Int) + 1).toNat = k + 1 by omega]
      exact p2
    have hskip : (hb = true → s k 0 ≠ 1) → (hb = false → ¬ (s k 0 = 0 ∨ s k 0 = 2)) → pM M1 (1000 + 100 * c) (fun p => bP (mkX s hb (k + 1) (F p = true) p)) := by
      intro h1 h2 y x hy hx
      rw [hI y x hy hx]
      refine bP_congr ?_
      unfold mkX
      cases hb with
      | true =>
        rw [if_pos rfl, if_pos rfl]
        constructor
        · rintro ⟨q1, q2⟩
          refine ⟨q1, ?_⟩
          rintro ⟨j, j1, j2, j3⟩
          by_cases hjk : j = k
          · subst hjk
            exact h1 rfl j2
          · exact q2 ⟨j, by omega, j2, j3⟩
        · rintro ⟨q1, q2⟩
          refine ⟨q1, ?_⟩
          rintro ⟨j, j1, j2, j3⟩
          exact q2 ⟨j, by omega, j2, j3⟩
      | false =>
        rw [if_neg (by decide), if_neg (by decide)]
        constructor
        · rintro (q | ⟨j, j1, j2, j3⟩)
          · exact Or.inl q
          · exact Or.inr ⟨j, by omega, j2, j3⟩
        · rintro (q | ⟨j, j1, j2, j3⟩)
          · exact Or.inl q
          · by_cases hjk : j = k
            · subst hjk
              exact absurd j2 (h2 rfl)
            · exact Or.inr ⟨j, by omega, j2, j3⟩
    have hmark : (hb = true → s k 0 = 1) → (hb = false → (s k 0 = 0 ∨ s k 0 = 2)) → wp (nm_s1 (f_X6_mark (1010 + 100 * c + k) (1000 + 100 * c + 2) N M1) fun M8 => f_X1_markPatches_J57 (1000 + 100 * c) N K (zI ((k : Nat) : Int)) M8 (f_X1_markPatches_L2 (1000 + 100 * c) N K (if hb = true then 1 else 0) f)) (fun M' => rW (1000 + 100 * c) M M' ∧ pM M' (1000 + 100 * c) (fun p => bP (mkX s hb n (F p = true) p))) := by
      intro h1 h2
      refine wp_s1 _ (w_mark hN (by omega) o1 o2 (by cases hb with | true => have := h1 rfl; omega | false => have := h2 rfl; omega) hI) ?_
      rintro M2 ⟨r2, p2⟩
      refine hgo M2 (rW_tr hr r2) (fun y x hy hx => ?_)
      rw [p2 y x hy hx]
      refine bP_congr ?_
      unfold mkX
      simp only [bP_t]
      cases hb with
      | true =>
        rw [if_pos (h1 rfl), if_pos rfl, if_pos rfl]
        constructor
        · rintro ⟨⟨q1, q2⟩, q3⟩
          refine ⟨q1, ?_⟩
          rintro ⟨j, j1, j2, j3⟩
          by_cases hjk : j = k
          · subst hjk
            exact q3 j3
          · exact q2 ⟨j, by omega, j2, j3⟩
        · rintro ⟨q1, q2⟩
          refine ⟨⟨q1, ?_⟩, fun q3 => q2 ⟨k, by omega, h1 rfl, q3⟩⟩
          rintro ⟨j, j1, j2, j3⟩
          exact q2 ⟨j, by omega, j2, j3⟩
      | false =>
        have := h2 rfl
        rw [if_neg (show ¬ s k 0 = 1 by omega), if_neg (by decide), if_neg (by decide)]
        constructor
        · rintro ((q | ⟨j, j1, j2, j3⟩) | q)
          · exact Or.inl q
          · exact Or.inr ⟨j, by omega, j2, j3⟩
          · exact Or.inr ⟨k, by omega, this, q⟩
        · rintro (q | ⟨j, j1, j2, j3⟩)
          · exact Or.inl (Or.inl q)
          · by_cases hjk : j = k
            · subst hjk
              exact Or.inr j3
            · exact Or.inl (Or.inr ⟨j, by omega, j2, j3⟩)
    show wp (f_X1_markPatches_L2 (1000 + 100 * c) N K _ (f + 1) (zI ((k : Nat) : Int)) M1) _
    rw [f_X1_markPatches_L2, hc1.2.1]
    simp (disch := omega) only [zI_le, nm_cz, zI_cl, nm_l_eq]
    rw [if_neg (by omega), show 1000 + 100 * c + 10 + ((k : Nat) : Int).toNat = 1010 + 100 * c + k by omega, nm_nzp K0]
    refine wp_if (fun h => ?_) (fun h => ?_)
    · have h9 : ¬ (s k 0 = 0 ∨ s k 0 = 1 ∨ s k 0 = 2) := fun h8 => (nm_is0.mp h) (K6.mpr h8)
      exact hgo M1 hr (hskip (fun _ => by omega) (fun _ => by omega))
    have h9 : s k 0 = 0 ∨ s k 0 = 1 ∨ s k 0 = 2 := by
      apply K6.mp
      apply Classical.byContradiction
      intro h8
      exact h (nm_is0.mpr h8)
    unfold f_X1_markPatches_J46
    rw [o2.1]
    simp (disch := omega) only [zI_lit, zI_eq]
    refine wp_if (fun h1 => ?_) (fun h1 => ?_)
    · cases hb with
      | true =>
        rw [if_pos rfl, if_pos rfl]
        exact hmark (fun _ => h1) (fun h => absurd h (by decide))
      | false =>
        rw [if_neg (show ¬ ((if false = true then zI 1 else zI 0) = zI 1) by decide)]
        exact hgo M1 hr (hskip (fun h => absurd h (by decide)) (fun _ => by omega))
    · cases hb with
      | true =>
        rw [if_neg (show ¬ ((if true = true then zI 1 else zI 0) = zI 0) by decide)]
        exact hgo M1 hr (hskip (fun _ => h1) (fun h => absurd h (by decide)))
      | false =>
        rw [if_pos (show ((if false = true then zI 1 else zI 0) = zI 0) by decide)]
        exact hmark (fun h => absurd h (by decide)) (fun _ => by omega)
  · rintro f M1 ⟨k0, hr, hI⟩
    have hc1 := ceM_rW hc hr
    show wp (f_X1_markPatches_L2 (1000 + 100 * c) N K _ (f + 1) (zI ((n : Nat) : Int)) M1) _
    rw [f_X1_markPatches_L2, hc1.2.1]
    simp (disch := omega) only [zI_le, Int.le_refl, if_true]
    exact wp_r ⟨hr, hI⟩
  · intro y x hy hx
    rw [hF y x hy hx]
    apply Bool.eq_iff_iff.mpr
    rw [bP_t]
    unfold mkX
    cases hb with
    | true =>
      rw [if_pos rfl]
      constructor
      · intro h
        refine ⟨h, ?_⟩
        rintro ⟨j, j1, -⟩
        exact absurd j1 (Nat.not_lt_zero _)
      · intro h
        exact h.1
    | false =>
      rw [if_neg (by decide)]
      constructor
      · intro h
        exact Or.inl h
      · rintro (h | ⟨j, j1, -⟩)
        · exact h
        · exact absurd j1 (Nat.not_lt_zero _)
theorem w_fillJ {a : Nat} {N : Nat → Nat} (hN : N a ≤ 1000000 - 1) {v : Int64} {M : cm} : f_J7_fill_d0a16 a N v M = some (M.1, va_up M.2 a (fun j => if j < N a then v else M.2 a j)) := by
  apply wp_eq
  unfold f_J7_fill_d0a16
  simp only [nm_l_eq]
  refine wp_s1 (fun M' => M' = (M.1, va_up M.2 a (fun j => if j < N a then v else M.2 a j))) ?_ (fun M' h => wp_r h)
  rw [zI_nI, zI_0]
  refine lpc (fun f => f_J7_fill_d0a16_L6 a N v (zI (N a)) f) _ (N a) (fun k M' => 0 ≤ k ∧ M' = (M.1, va_up M.2 a (fun j => if (j : Int) < k then v else M.2 a j))) ?_ ?_ nm_F 0 M (by omega) (by rw [nm_F_eq]; omega) ⟨by omega, ?_⟩
  · rintro f k M' hk ⟨h0, rfl⟩ hn
    show wp (f_J7_fill_d0a16_L6 a N v (zI (N a)) (f + 1) _ _) _
    rw [f_J7_fill_d0a16_L6]
    simp (disch := omega) only [zI_le, zI_lit, zI_add, nm_cz, zI_cl, nm_l_eq]
    rw [if_neg (by omega)]
    refine hn _ ⟨by omega, ?_⟩
    congr 1
    funext m j
    rw [nm_upJ_ap]
    by_cases hm : m = a
    · subst hm
      rw [va_up_self, va_up_self]
      by_cases hj : j = k.toNat
      · subst hj
        rw [if_pos ⟨rfl, rfl⟩, if_pos (by omega)]
      · rw [if_neg (fun h => hj h.2)]
        by_cases h1 : (j : Int) < k
        · rw [if_pos h1, if_pos (by omega)]
        · rw [if_neg h1, if_neg (by omega)]
    · rw [if_neg (fun h => hm h.1), va_up_ne _ _ hm, va_up_ne _ _ hm]
  · rintro f M' ⟨h0, rfl⟩
    show wp (f_J7_fill_d0a16_L6 a N v (zI (N a)) (f + 1) _ _) _
    rw [f_J7_fill_d0a16_L6]
    simp (disch := omega) only [zI_le, Int.le_refl, if_true]
    refine wp_r ?_
    congr 2
    funext j
    by_cases h : j < N a
    · rw [if_pos h, if_pos (by omega)]
    · rw [if_neg h, if_neg (by omega)]
  · have e : (fun j : Nat => if (j : Int) < 0 then v else M.2 a j) = M.2 a := by
      funext j
      rw [if_neg (by omega)]
    rw [e]
    have e2 : va_up M.2 a (M.2 a) = M.2 := by
      funext m
      unfold va_up
      split
      · next h => rw [h]
      · rfl
    rw [e2]
