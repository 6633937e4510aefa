/-! FLAT of a cell, by its shapes: s k f is number f of shape k (kind, layer, square, one, two, across, down) -/
def rcT (s : Nat → Int) : Int × Int × Int × Int :=
  if s 0 = 2 then
    (if min (s 2 / 64) (s 3 / 64) = max (s 2 / 64) (s 3 / 64) then (min (s 2 % 64) (s 3 % 64), min (s 2 / 64) (s 3 / 64) - (s 4 - 1) / 2, max (s 2 % 64) (s 3 % 64) - min (s 2 % 64) (s 3 % 64) + 1, s 4)
     else (min (s 2 % 64) (s 3 % 64) - (s 4 - 1) / 2, min (s 2 / 64) (s 3 / 64), s 4, max (s 2 / 64) (s 3 / 64) - min (s 2 / 64) (s 3 / 64) + 1))
  else (s 2 % 64, s 2 / 64, s 3 / 100, s 3 % 100)
def cov (s : Nat → Int) (Y X : Nat) : Prop := ((rcT s).1 ≤ X ∧ (X : Int) < (rcT s).1 + (rcT s).2.2.1) ∧ (rcT s).2.1 ≤ Y ∧ (Y : Int) < (rcT s).2.1 + (rcT s).2.2.2
noncomputable def ownB (s : Nat → Nat → Int) (n p : Nat) : Bool := bP ((∃ k, k < n ∧ (s k 0 = 0 ∨ s k 0 = 2) ∧ s k 1 = ((p / 4096 : Nat) : Int) ∧ cov (s k) (p % 4096 / 64) (p % 64)) ∧ ¬ ∃ k, k < n ∧ s k 0 = 1 ∧ s k 1 = ((p / 4096 : Nat) : Int) ∧ cov (s k) (p % 4096 / 64) (p % 64))
def txt (s : Nat → Int) : tx := ((s 1).toNat, (s 2).toNat, (s 3).toNat)
def ownT (s : Nat → Nat → Int) (n : Nat) : List tx := fo (fun k T => if s k 0 = 3 then addT T (txt (s k)) else T) n []
abbrev fl : Type := (Nat → Bool) × List tx
def mirB (s : Nat → Int) : Bool := decide (s 4 = 1)
def tmT (v : Int) : Nat := (v / 200).toNat
def tmF (v : Int) : Int := v % 200 - 100
noncomputable def putS (f2 : fl) (s : Nat → Int) (st : fl) : fl :=
  (brF st.1 f2.1 (s 2).toNat (s 3).toNat (mirB s) (tmT (s 5)) (tmT (s 6)) (tmF (s 5)) (tmF (s 6)), btA f2.2 (s 2).toNat (s 3).toNat (mirB s) (tmT (s 5)) (tmT (s 6)) (tmF (s 5)) (tmF (s 6)) st.2)
noncomputable def flT (tb : Nat → fl) (s : Nat → Nat → Int) (n : Nat) : fl := fo (fun k st => if s k 0 = 4 then putS (tb (s k 1).toNat) (s k) st else st) n (ownB s n, ownT s n)
noncomputable def tab (sd : Nat → Nat → Nat → Int) (cnt : Nat → Nat) : Nat → Nat → fl
  | 0 => fun _ => (fun _ => false, [])
  | c + 1 => fun x => if x = c then flT (tab sd cnt c) (sd c) (cnt c) else tab sd cnt c x
noncomputable def FL (sd : Nat → Nat → Nat → Int) (cnt : Nat → Nat) (c : Nat) : fl := tab sd cnt (c + 1) c
theorem tab_lt {sd : Nat → Nat → Nat → Int} {cnt : Nat → Nat} : ∀ c x, x < c → tab sd cnt c x = FL sd cnt x := by
  intro c
  induction c with
  | zero => intro x h; omega
  | succ c ih =>
    intro x h
    by_cases hx : x = c
    · subst hx
      rfl
    · show (if x = c then _ else tab sd cnt c x) = _
      rw [if_neg hx]
      exact ih x (by omega)
theorem FL_eq (sd : Nat → Nat → Nat → Int) (cnt : Nat → Nat) (c : Nat) : FL sd cnt c = flT (tab sd cnt c) (sd c) (cnt c) := by
  show (if c = c then flT (tab sd cnt c) (sd c) (cnt c) else _) = _
  rw [if_pos rfl]
/-- a shape as the calls let it be, in cell c -/
def okS (c : Nat) (s : Nat → Int) : Prop :=
  (0 ≤ s 0 ∧ s 0 ≤ 4) ∧ (0 ≤ s 1 ∧ s 1 < 16) ∧ (0 ≤ s 2 ∧ s 2 < 4096) ∧ ((s 0 = 0 ∨ s 0 = 1) → s 1 < 8 ∧ 0 ≤ s 3 ∧ s 3 < 2147483648 ∧ (1 ≤ s 3 / 100 ∧ s 3 / 100 ≤ 64) ∧ 1 ≤ s 3 % 100 ∧ s 3 % 100 ≤ 64) ∧ (s 0 = 2 → s 1 < 8 ∧ (0 ≤ s 3 ∧ s 3 < 4096) ∧ (s 2 / 64 = s 3 / 64 ∨ s 2 % 64 = s 3 % 64) ∧ 1 ≤ s 4 ∧ s 4 ≤ 9) ∧ (s 0 = 3 → 1 ≤ s 3 ∧ s 3 ≤ 999) ∧ (s 0 = 4 → s 1 < (c : Int) ∧ (0 ≤ s 3 ∧ s 3 < 4) ∧ (0 ≤ s 4 ∧ s 4 ≤ 1) ∧ ((1 ≤ s 5 / 200 ∧ s 5 / 200 ≤ 4) ∧ -63 ≤ s 5 % 200 - 100 ∧ s 5 % 200 - 100 ≤ 63) ∧ (1 ≤ s 6 / 200 ∧ s 6 / 200 ≤ 4) ∧ -63 ≤ s 6 % 200 - 100 ∧ s 6 % 200 - 100 ≤ 63)
/-- a shape as the program holds it -/
def shM (M : cm) (K : Nat → Nat) (pz : Nat) (s : Nat → Int) : Prop :=
  M.1 pz 0 = zI (s 0) ∧ M.1 pz 1 = zI (s 1) ∧ M.1 pz 2 = zI (s 2) ∧
  ((s 0 = 0 ∨ s 0 = 1 ∨ s 0 = 2) → K pz = 6 ∧ M.1 pz 3 = zI (max (rcT s).2.1 0) ∧ M.1 pz 4 = zI (min ((rcT s).2.1 + (rcT s).2.2.2 - 1) 63) ∧ ∀ x : Nat, x < 64 → bx (M.2 pz 5) x = decide ((rcT s).1 ≤ x ∧ (x : Int) < (rcT s).1 + (rcT s).2.2.1)) ∧
  (s 0 = 3 → K pz = 5 ∧ M.1 pz 3 = zI ((pkt (txt s) : Nat) : Int)) ∧
  (s 0 = 4 → K pz = 7 ∧ putM M pz (s 2).toNat (s 3).toNat (mirB s) (tmT (s 5)) (tmT (s 6)) (tmF (s 5)) (tmF (s 6)))
/-- the cell's shapes, as the program holds them -/
def ceM (M : cm) (K : Nat → Nat) (c : Nat) (s : Nat → Nat → Int) (n : Nat) : Prop := n ≤ 16 ∧ M.1 (1000 + 100 * c) 1 = zI (n : Nat) ∧ ∀ k, k < n → okS c (s k) ∧ shM M K (1010 + 100 * c + k) (s k)
theorem rcT_rng {c : Nat} {s : Nat → Int} (h : okS c s) (hk : s 0 = 0 ∨ s 0 = 1 ∨ s 0 = 2) : (-10 ≤ (rcT s).1 ∧ (rcT s).1 ≤ 63) ∧ (-10 ≤ (rcT s).2.1 ∧ (rcT s).2.1 ≤ 63) ∧ (1 ≤ (rcT s).2.2.1 ∧ (rcT s).2.2.1 ≤ 64) ∧ 1 ≤ (rcT s).2.2.2 ∧ (rcT s).2.2.2 ≤ 64 := by
  obtain ⟨h0, h1, h2, h3, h4, h5, h6⟩ := h
  unfold rcT
  by_cases h9 : s 0 = 2
  · obtain ⟨a1, a2, a3, a4, a5⟩ := h4 h9
    rw [if_pos h9]
    by_cases h8 : min (s 2 / 64) (s 3 / 64) = max (s 2 / 64) (s 3 / 64)
    · rw [if_pos h8]
      simp only
      omega
    · rw [if_neg h8]
      simp only
      omega
  · rw [if_neg h9]
    obtain ⟨a1, a2, a3, a4, a5⟩ := h3 (by omega)
    simp only
    omega
/-- rows alone are another -/
def rW (w : Nat) (M M' : cm) : Prop := M'.1 = M.1 ∧ ∀ m, m ≠ w + 2 → M'.2 m = M.2 m
theorem rW_tr {w : Nat} {M M1 M2 : cm} (h1 : rW w M M1) (h2 : rW w M1 M2) : rW w M M2 := ⟨h2.1.trans h1.1, fun m a => (h2.2 m a).trans (h1.2 m a)⟩
theorem shM_rW {M M' : cm} {K : Nat → Nat} {w pz : Nat} {s : Nat → Int} (h : shM M K pz s) (hr : rW w M M') (hw : pz ≠ w + 2) : shM M' K pz s := by
  unfold shM putM
  rw [hr.1, hr.2 pz hw]
  exact h
theorem w_mark {M : cm} {K : Nat → Nat} {N : Nat → Nat} {w pz c : Nat} (hN : N (w + 2) = 512) (hw : pz ≠ w + 2) {s : Nat → Int} (ho : okS c s) (hs : shM M K pz s) (hk : s 0 = 0 ∨ s 0 = 1 ∨ s 0 = 2) {F : Nat → Bool} (hF : pM M w F) : wp (f_X6_mark pz (w + 2) N M) (fun M' => rW w M M' ∧ pM M' w (fun p => bP (if s 0 = 1 then F p = true ∧ ¬ (s 1 = ((p / 4096 : Nat) : Int) ∧ cov s (p % 4096 / 64) (p % 64)) else F p = true ∨ (s 1 = ((p / 4096 : Nat) : Int) ∧ cov s (p % 4096 / 64) (p % 64))))) := by
  obtain ⟨a1, a2, a3, a4⟩ := rcT_rng ho hk
  obtain ⟨e0, e1, e2, e3, -⟩ := hs
  obtain ⟨-, t3, t4, t5⟩ := e3 hk
  have hl : 0 ≤ s 1 ∧ s 1 < 8 := by
    have := ho.2.1
    rcases hk with h | h | h
    · have := (ho.2.2.2.1 (Or.inl h)).1
      omega
    · have := (ho.2.2.2.1 (Or.inr h)).1
      omega
    · have := (ho.2.2.2.2.1 h).1
      omega
  unfold f_X6_mark
  rw [nm_l_eq, t3]
  refine wp_s1 (fun M' => rW w M M' ∧ pM M' w (fun p => bP (if s 0 = 1 then F p = true ∧ ¬ (s 1 = ((p / 4096 : Nat) : Int) ∧ cov s (p % 4096 / 64) (p % 64)) else F p = true ∨ (s 1 = ((p / 4096 : Nat) : Int) ∧ cov s (p % 4096 / 64) (p % 64))))) ?_ (fun _ h => wp_r h)
  refine lpm (fun f (t : Int32 × cm) => f_X6_mark_L5 pz (w + 2) N f t.1 t.2) _ (fun t => ∃ y : Int, t.1 = zI y ∧ max (rcT s).2.1 0 ≤ y ∧ y ≤ 200 ∧ rW w M t.2 ∧ ∀ Y X, Y < 512 → X < 64 → (bx (t.2.2 (w + 2) Y) X = true ↔ if s 0 = 1 then F (64 * Y + X) = true ∧ ¬ ((s 1 = ((Y / 64 : Nat) : Int) ∧ cov s (Y % 64) X) ∧ ((Y % 64 : Nat) : Int) < y) else F (64 * Y + X) = true ∨ ((s 1 = ((Y / 64 : Nat) : Int) ∧ cov s (Y % 64) X) ∧ ((Y % 64 : Nat) : Int) < y))) (fun t => (300 - t.1.toInt).toNat) ?_ nm_F (zI (max (rcT s).2.1 0), M) ?_ ⟨_, rfl, by omega, by omega, ⟨rfl, fun _ _ => rfl⟩, ?_⟩
  · rintro f ⟨t, M1⟩ ⟨y, he, y1, y2, ⟨d1, d2⟩, hI⟩ hn9
    simp only at he d1 d2 hI
    subst he
    show wp (f_X6_mark_L5 pz (w + 2) N (f + 1) _ _) _
    rw [f_X6_mark_L5, d1, t4, e1, e0, hN]
    simp (disch := omega) only [zI_lit, zI_lt, zI_eq, zI_mul, zI_add, nm_l_eq]
    refine wp_if (fun h => wp_r ⟨⟨d1, d2⟩, fun Y X hY hX => ?_⟩) (fun h => ?_)
    · apply Bool.eq_iff_iff.mpr
      rw [hI Y X hY hX, bP_t, show (64 * Y + X) / 4096 = Y / 64 by omega, show (64 * Y + X) % 4096 / 64 = Y % 64 by omega, show (64 * Y + X) % 64 = X by omega]
      have hc : cov s (Y % 64) X → ((Y % 64 : Nat) : Int) < y := by
        rintro ⟨-, -, h9⟩
        omega
      by_cases h1 : s 0 = 1
      · rw [if_pos h1, if_pos h1]
        constructor
        · rintro ⟨q1, q2⟩
          exact ⟨q1, fun q => q2 ⟨q, hc q.2⟩⟩
        · rintro ⟨q1, q2⟩
          exact ⟨q1, fun q => q2 q.1⟩
      · rw [if_neg h1, if_neg h1]
        constructor
        · rintro (q | q)
          · exact Or.inl q
          · exact Or.inr q.1
        · rintro (q | q)
          · exact Or.inl q
          · exact Or.inr ⟨q, hc q.2⟩
    have hy63 : y ≤ 63 := by omega
    have ei : (64 * s 1 + y).toNat = 64 * (s 1).toNat + y.toNat := by omega
    have hcol : M1.2 pz 5 = M.2 pz 5 := by rw [d2 pz hw]
    have hcv : ∀ X : Nat, X < 64 → (cov s y.toNat X ↔ bx (M.2 pz 5) X = true) := by
      intro X hX
      rw [t5 X hX, decide_eq_true_iff]
      unfold cov
      omega
    have hgo : ∀ v : Int64, (∀ X, X < 64 → (bx v X = true ↔ if s 0 = 1 then bx (M1.2 (w + 2) (64 * (s 1).toNat + y.toNat)) X = true ∧ ¬ bx (M.2 pz 5) X = true else bx (M1.2 (w + 2) (64 * (s 1).toNat + y.toNat)) X = true ∨ bx (M.2 pz 5) X = true)) → wp (f_X6_mark_J56 pz (w + 2) N (zI y) v (zI (64 * s 1 + y)) M1 (f_X6_mark_L5 pz (w + 2) N f)) (fun M' => rW w M M' ∧ pM M' w (fun p => bP (if s 0 = 1 then F p = true ∧ ¬ (s 1 = ((p / 4096 : Nat) : Int) ∧ cov s (p % 4096 / 64) (p % 64)) else F p = true ∨ (s 1 = ((p / 4096 : Nat) : Int) ∧ cov s (p % 4096 / 64) (p % 64))))) := by
      intro v hv
      unfold f_X6_mark_J56
      rw [hN]
      refine wp_cz (by omega) (by omega) (by omega) ?_
      rw [nm_l_eq, zI_inc, zI_cl (by omega) (by omega), ei]
      refine hn9 (_, _) ⟨y + 1, rfl, by omega, by omega, ⟨d1, fun m hm => ?_⟩, fun Y X hY hX => ?_⟩ ?_
      · show nm_upJ M1.2 (w + 2) _ _ m = _
        rw [nm_upJ_n _ _ _ _ hm]
        exact d2 m hm
      · show bx (nm_upJ _ _ _ _ _ _) X = true ↔ _
        rw [nm_upJ_ap]
        by_cases hYe : Y = 64 * (s 1).toNat + y.toNat
        · rw [if_pos ⟨rfl, hYe⟩, hv X hX, ← hYe, hI Y X hY hX, ← hcv X hX]
          have c1 : s 1 = ((Y / 64 : Nat) : Int) := by omega
          have c2 : Y % 64 = y.toNat := by omega
          have c3 : ¬ ((Y % 64 : Nat) : Int) < y := by omega
          have c4 : ((Y % 64 : Nat) : Int) < y + 1 := by omega
          rw [c2] at c3 c4 ⊢
          by_cases h1 : s 0 = 1
          · rw [if_pos h1, if_pos h1, if_pos h1]
            constructor
            · rintro ⟨⟨q1, q2⟩, q3⟩
              exact ⟨q1, fun q => q3 q.1.2⟩
            · rintro ⟨q1, q2⟩
              exact ⟨⟨q1, fun q => c3 q.2⟩, fun q => q2 ⟨⟨c1, q⟩, c4⟩⟩
          · rw [if_neg h1, if_neg h1, if_neg h1]
            constructor
            · rintro ((q | q) | q)
              · exact Or.inl q
              · exact absurd q.2 c3
              · exact Or.inr ⟨⟨c1, q⟩, c4⟩
            · rintro (q | q)
              · exact Or.inl (Or.inl q)
              · exact Or.inr q.1.2
        · rw [if_neg (fun h => hYe h.2), hI Y X hY hX]
          have hne : ((s 1 = ((Y / 64 : Nat) : Int) ∧ cov s (Y % 64) X) ∧ ((Y % 64 : Nat) : Int) < y) ↔ ((s 1 = ((Y / 64 : Nat) : Int) ∧ cov s (Y % 64) X) ∧ ((Y % 64 : Nat) : Int) < y + 1) := by
            constructor
            · rintro ⟨q1, q2⟩
              exact ⟨q1, by omega⟩
            · rintro ⟨q1, q2⟩
              refine ⟨q1, ?_⟩
              have := q1.1
              omega
          by_cases h1 : s 0 = 1
          · rw [if_pos h1, if_pos h1, hne]
          · rw [if_neg h1, if_neg h1, hne]
      · show (300 - (zI (y + 1)).toInt).toNat < (300 - (zI y).toInt).toNat
        rw [zI_ti (by omega) (by omega), zI_ti (by omega) (by omega)]
        omega
    refine wp_if (fun h1 => ?_) (fun h1 => ?_)
    · refine wp_cz (by omega) (by omega) (by omega) (hgo _ (fun X hX => ?_))
      rw [if_pos h1, bx_and, bx_not _ hX, hcol, zI_cl (by omega) (by omega), ei, Bool.and_eq_true, Bool.not_eq_true', Bool.not_eq_true]
    · refine wp_cz (by omega) (by omega) (by omega) (hgo _ (fun X hX => ?_))
      rw [if_neg h1, bx_or, hcol, zI_cl (by omega) (by omega), ei, Bool.or_eq_true]
  · show (300 - (zI _).toInt).toNat < nm_F
    rw [zI_ti (by omega) (by omega), nm_F_eq]
    omega
  · intro Y X hY hX
    show bx (M.2 (w + 2) Y) X = true ↔ _
    rw [hF Y X hY hX]
    have hc : ¬ ((s 1 = ((Y / 64 : Nat) : Int) ∧ cov s (Y % 64) X) ∧ ((Y % 64 : Nat) : Int) < max (rcT s).2.1 0) := by
      rintro ⟨⟨-, -, h1, -⟩, h2⟩
      omega
    by_cases h1 : s 0 = 1
    · rw [if_pos h1]
      exact ⟨fun h => ⟨h, hc⟩, fun h => h.1⟩
    · rw [if_neg h1]
      constructor
      · intro h
        exact Or.inl h
      · rintro (h | h)
        · exact h
        · exact absurd h hc
