/-! a drawing takes a cell's own layers, and makes the other eight -/
abbrev mo : Type := Nat → Int × Nat × Nat
def mR (S : ca) (m : mo) : Prop := ∀ i, i < 8 → S.1.1 103 i = zI (m i).1 ∧ S.1.1 104 i = zI (((m i).2.1 : Nat) : Int) ∧ S.1.1 105 i = zI (((m i).2.2 : Nat) : Int)
def mok (m : mo) : Prop := ∀ i, i < 8 → -1 ≤ (m i).1 ∧ (m i).1 ≤ 5 ∧ (m i).2.1 < 8 + i ∧ (((m i).1 = 3 ∨ (m i).1 = 4) → (m i).2.2 ≤ 9) ∧ (((m i).1 ≠ 3 ∧ (m i).1 ≠ 4) → (m i).2.2 < 8 + i)
def bas (F D : Nat → Bool) (p : Nat) : Bool := if p < 32768 then F p else D p
noncomputable def mkA (m : mo) (D : Nat → Bool) (n : Nat) : Nat → Bool := fo (fun i D => setL D (8 + i) (mkP D (m i).1 (m i).2.1 (m i).2.2)) n D
theorem mkA_s (m : mo) (D : Nat → Bool) (n : Nat) : mkA m D (n + 1) = setL (mkA m D n) (8 + n) (mkP (mkA m D n) (m n).1 (m n).2.1 (m n).2.2) := rfl
theorem pcs_mR {S S' : ca} {m : mo} (h : pcs S S') (hm : mR S m) : mR S' m := fun i hi => by
  rw [h.2.2 _ _ (by omega), h.2.2 _ _ (by omega), h.2.2 _ _ (by omega)]
  exact hm i hi
theorem mkA_low (m : mo) (D : Nat → Bool) (n : Nat) {p : Nat} (hp : p < 32768) : mkA m D n p = D p := by
  induction n with
  | zero => rfl
  | succ n ih =>
    rw [mkA_s]
    unfold setL
    rw [if_neg (by omega), ih]
theorem w_takeL {S : ca} {D : Nat → Bool} {m : mo} (w : Nat) (hc : cO S.2) (hD : dR S D) (hR : mR S m) (hk : mok m) :
    wc sN (f_X3_take_L44 w nm_F (8 : Int32) S) S.2 (fun S' => cO S'.2 ∧ dR S' (mkA m D 8) ∧ pcs S S') := by
  have key : ∀ (f i : Nat) (S1 : ca), i ≤ 8 → 8 - i < f → cO S1.2 → dR S1 (mkA m D i) → pcs S S1 → wc sN (f_X3_take_L44 w f (zI ((8 + i : Nat) : Int)) S1) S1.2 (fun S' => cO S'.2 ∧ dR S' (mkA m D 8) ∧ pcs S S') := by
    intro f
    induction f with
    | zero => intro i S1 h1 h2; omega
    | succ f ih =>
      intro i S1 hi hf hc1 hD1 hp
      rw [f_X3_take_L44, show (16 : Int32) = zI 16 from rfl]
      simp (disch := omega) only [zI_le]
      refine wc_if (fun h => ?_) (fun h => ?_)
      · have : i = 8 := by omega
        subst this
        exact wc_r ⟨hc1, hD1, hp⟩
      · have hi8 : i < 8 := by omega
        obtain ⟨k1, k2, k3, k4, k5⟩ := hk i hi8
        obtain ⟨r1, r2, r3⟩ := pcs_mR hp hR i hi8
        have e8 : zI ((8 + i : Nat) : Int) - (8 : Int32) = zI ((i : Nat) : Int) := by
          rw [zI_lit, zI_sub]
          exact congrArg zI (by omega)
        rw [e8, nm_cz (by omega) (by omega) (by omega), nm_cz (by omega) (by omega) (by omega), nm_cz (by omega) (by omega) (by omega), zI_cl (by omega) (by omega), Int.toNat_natCast, r1, r2, r3, show (64 : Int32) * zI (((m i).2.1 : Nat) : Int) = zI ((64 * (m i).2.1 : Nat) : Int) by rw [zI_lit, zI_mul]; rfl]
        refine wc_a1 _ (w_make (by omega) (by omega) k1 k2 k3 k4 k5 hc1 hD1) ?_
        rintro S2 ⟨q1, q2, q3⟩
        rw [show zI ((8 + i : Nat) : Int) + 1 = zI ((8 + (i + 1) : Nat) : Int) by rw [zI_inc]; rfl]
        refine ih (i + 1) S2 (by omega) (by omega) q2 ?_ (pcs_tr hp q3)
        rw [mkA_s]
        exact q1
  rw [show (8 : Int32) = zI ((8 + 0 : Nat) : Int) from rfl]
  exact key nm_F 0 S (by omega) (by rw [nm_F_eq]; omega) hc hD (pcs_rf S)
theorem pc_rl (D : Nat → Bool) (l : Nat) : pc D (4096 * l + 4096) = pc D (4096 * l) + pc (rl D l) 4096 := by
  rw [pc_add]
  refine congrArg _ (pc_congr fun i hi => ?_)
  unfold rl
  rw [decide_eq_true hi, Bool.true_and]
theorem w_takeT {S : ca} {D : Nat → Bool} (w : Nat) (hD : dR S D) :
    wp (f_X3_take_L100 w nm_F (0 : Int32) (0 : Int32) S) (fun r => r = (zI ((pc D 32768 : Nat) : Int), S)) := by
  have key : ∀ (f i : Nat), i ≤ 8 → 8 - i < f → wp (f_X3_take_L100 w f (zI ((pc D (4096 * i) : Nat) : Int)) (zI ((i : Nat) : Int)) S) (fun r => r = (zI ((pc D 32768 : Nat) : Int), S)) := by
    intro f
    induction f with
    | zero => intro i h1 h2; omega
    | succ f ih =>
      intro i hi hf
      rw [f_X3_take_L100, show (8 : Int32) = zI 8 from rfl]
      simp (disch := omega) only [zI_le]
      refine wp_if (fun h => ?_) (fun h => ?_)
      · have : i = 8 := by omega
        subst this
        exact wp_r rfl
      · have hw : f_X3_squaresOf (zI ((i : Nat) : Int)) S.1 = some (zI ((pc (rl D i) 4096 : Nat) : Int)) := w_squaresOf hD (by omega)
        refine wp_s1 (fun v => v = zI ((pc (rl D i) 4096 : Nat) : Int)) ⟨_, hw, rfl⟩ ?_
        rintro _ rfl
        rw [nm_l_eq, zI_add, zI_inc]
        have := ih (i + 1) (by omega) (by omega)
        rw [show 4096 * (i + 1) = 4096 * i + 4096 by omega, pc_rl] at this
        exact this
  exact key nm_F 0 (by omega) (by rw [nm_F_eq]; omega)
/-- what taking a cell leaves as it was -/
def tkF (S S' : ca) : Prop := (∀ m, m ≠ 101 → m ≠ 111 → S'.1.2 m = S.1.2 m) ∧ (∀ x, x < 112 ∨ 117 < x → S'.2 x = S.2 x) ∧ ∀ m k, m < 110 ∨ 117 < m → m ≠ 102 → ¬ (m = 100 ∧ (k = 0 ∨ k = 3)) → S'.1.1 m k = S.1.1 m k
/-- the texts of the drawing -/
def dT (S : ca) (T : List tx) : Prop := S.1.1 100 3 = zI ((T.length : Nat) : Int) ∧ T.length ≤ 200 ∧ ∀ i, i < T.length → tok (T.getD i d0) ∧ S.1.1 102 i = zI ((pkt (T.getD i d0) : Nat) : Int)
theorem cpyJ (a : Nat → Nat → Int64) (w y : Nat) : va_up a 101 (va_cpy (a w) (a 101) (0 : Int32).toNatClampNeg (0 : Int32).toNatClampNeg (512 : Int32).toNatClampNeg) 101 y = if y < 512 then a w y else a 101 y := by
  rw [va_up_self]
  unfold va_cpy
  rw [show (0 : Int32).toNatClampNeg = 0 from rfl, show (512 : Int32).toNatClampNeg = 512 from rfl]
  by_cases h : y < 512
  · rw [if_pos (by omega), if_pos h, show 0 + (y - 0) = y by omega]
  · rw [if_neg (by omega), if_neg h]
theorem w_take {S : ca} {D : Nat → Bool} {m : mo} {c : Nat} (hc8 : c < 8) {f : fl} (hc : cO S.2) (hD : dR S D) (hR : mR S m) (hk : mok m) (hs : stl S c f) :
    wc iN (f_X3_take (1000 + 100 * c) S) S.2 (fun r => cO r.2.2 ∧ dR r.2 (mkA m (bas f.1 D) 8) ∧ r.1 = zI ((pc f.1 32768 : Nat) : Int) ∧ dT r.2 f.2 ∧ r.2.1.1 100 0 = 1 ∧ tkF S r.2) := by
  obtain ⟨s1, s2, s3, s4, s5, s6⟩ := hs
  have hN101 := cl_l101 hc.1
  have hN102 := cl_l102 hc.1
  unfold f_X3_take
  unfold nm_cp
  rw [if_pos (by rw [s1]; decide)]
  simp only [nm_l_eq]
  rw [if_pos ?hcp]
  case hcp =>
    rw [s4, s2]
    have hn := zI_ti (z := ((f.2.length : Nat) : Int)) (by omega) (by omega)
    rw [hn]
    refine ⟨⟨by decide, by decide, by omega⟩, ?_, ?_⟩ <;> rw [show (0 : Int32).toInt = 0 from rfl] <;> omega
  rw [s4, zI_cl (by omega) (by omega), Int.toNat_natCast]
  have hN5 : ∀ (a : Nat → Nat → Int32) (b : Nat → Nat → Int64), ((a, b), S.2).2 = S.2 := fun _ _ => rfl
  have hD5 : ∀ a : Nat → Nat → Int32, dR ((a, va_up S.1.2 101 (va_cpy (S.1.2 (1000 + 100 * c + 2)) (S.1.2 101) (0 : Int32).toNatClampNeg (0 : Int32).toNatClampNeg (512 : Int32).toNatClampNeg)), S.2) (bas f.1 D) := by
    intro a y x hy hx
    refine (congrArg (fun t => bx t x) (cpyJ S.1.2 (1000 + 100 * c + 2) y)).trans ?_
    unfold bas
    by_cases h : y < 512
    · rw [if_pos h, if_pos (by omega)]
      exact s3 y x h hx
    · rw [if_neg h, if_neg (by omega)]
      exact hD y x hy hx
  have e5 : ∀ g, va_up S.1.1 102 g (1000 + 100 * c) 5 = zI ((f.2.length : Nat) : Int) := fun g => by
    rw [va_up_ne _ _ (by omega)]
    exact s4
  simp only [e5]
  obtain ⟨A, hA⟩ : ∃ A, A = nm_up (va_up S.1.1 102 (va_cpy (S.1.1 (1000 + 100 * c + 3)) (S.1.1 102) (0 : Int32).toNatClampNeg (0 : Int32).toNatClampNeg f.2.length)) 100 3 (zI ((f.2.length : Nat) : Int)) := ⟨_, rfl⟩
  rw [← hA]
  have hA1 : ∀ x j, x ≠ 102 → ¬ (x = 100 ∧ j = 3) → A x j = S.1.1 x j := fun x j a b => by
    rw [hA, nm_up_ap, if_neg b, va_up_ne _ _ a]
  have hA2 : A 100 3 = zI ((f.2.length : Nat) : Int) := by rw [hA, nm_up_ap, if_pos ⟨rfl, rfl⟩]
  have hA3 : ∀ i, i < f.2.length → A 102 i = S.1.1 (1000 + 100 * c + 3) i := fun i hi => by
    rw [hA, nm_up_ap, if_neg (by omega), va_up_self]
    unfold va_cpy
    rw [show (0 : Int32).toNatClampNeg = 0 from rfl, if_pos (by omega), show 0 + (i - 0) = i by omega]
  clear hA
  obtain ⟨B, hB⟩ : ∃ B, B = va_up S.1.2 101 (va_cpy (S.1.2 (1000 + 100 * c + 2)) (S.1.2 101) (0 : Int32).toNatClampNeg (0 : Int32).toNatClampNeg (512 : Int32).toNatClampNeg) := ⟨_, rfl⟩
  have hD6 := hD5 A
  rw [← hB] at hD6 ⊢
  refine wc_a1 _ (w_takeL (m := m) (D := bas f.1 D) (1000 + 100 * c) (S := ((A, B), S.2)) hc hD6 (fun i hi => ?_) hk) ?_
  · show A 103 i = _ ∧ A 104 i = _ ∧ A 105 i = _
    rw [hA1 _ _ (by omega) (by omega), hA1 _ _ (by omega) (by omega), hA1 _ _ (by omega) (by omega)]
    exact hR i hi
  rintro S2 ⟨q1, q2, q3, q4, q5⟩
  have hD2 : dR ((nm_up S2.1.1 100 0 (1 : Int32), S2.1.2), S2.2) (mkA m (bas f.1 D) 8) := q2
  refine wc_s2 _ (w_takeT _ hD2) ?_
  rintro a b h
  obtain ⟨rfl, rfl⟩ := Prod.mk.inj h
  have hpc : pc (mkA m (bas f.1 D) 8) 32768 = pc f.1 32768 := pc_congr fun i hi => by
    rw [mkA_low _ _ _ hi]
    unfold bas
    rw [if_pos hi]
  rw [hpc]
  refine wc_ri ⟨q1, hD2, rfl, ⟨?_, s5, fun i hi => ⟨(s6 i hi).1, ?_⟩⟩, ?_, ?_, ?_, ?_⟩
  · show nm_up S2.1.1 100 0 1 100 3 = _
    rw [nm_up_ap, if_neg (by omega), q5 _ _ (by omega)]
    exact hA2
  · show nm_up S2.1.1 100 0 1 102 i = _
    rw [nm_up_ap, if_neg (by omega), q5 _ _ (by omega)]
    exact (hA3 i hi).trans (s6 i hi).2
  · exact (nm_up_ap S2.1.1 100 0 1 100 0).trans (if_pos ⟨rfl, rfl⟩)
  · intro x a b
    show S2.1.2 x = _
    rw [q3 x a b]
    show B x = _
    rw [hB]
    exact va_up_ne _ _ a
  · exact fun x h => q4 x h
  · intro x k a b d
    show nm_up S2.1.1 100 0 1 x k = _
    rw [nm_up_ap, if_neg (by omega), q5 _ _ a]
    exact hA1 x k b (by omega)
