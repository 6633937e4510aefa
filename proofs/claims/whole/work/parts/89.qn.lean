/-! FLAT, by the program -/
/-- all from 1000 on is as it was -/
def hiX (S S' : ca) : Prop := (∀ m j, 1000 ≤ m → S'.1.1 m j = S.1.1 m j) ∧ (∀ m, 1000 ≤ m → S'.1.2 m = S.1.2 m) ∧ ∀ x, 1000 ≤ x → S'.2 x = S.2 x
theorem cls_hi {S S' : ca} {K : Nat → Nat} {sd : Nat → Nat → Nat → Int} {cnt : Nat → Nat} (h : cls S K sd cnt) (hx : hiX S S') : cls S' K sd cnt := by
  obtain ⟨h1, h2, h3⟩ := hx
  intro c hc
  obtain ⟨⟨a1, a2, a3⟩, b, d⟩ := h c hc
  refine ⟨⟨a1, by rw [h1 _ _ (by omega)]; exact a2, fun k hk => ⟨(a3 k hk).1, shM_fr (a3 k hk).2 (fun j => h1 _ _ (by omega)) (h2 _ (by omega))⟩⟩, ?_, ?_⟩
  · rw [h3 _ (by omega), h3 _ (by omega)]
    exact b
  · rw [h1 _ _ (by omega)]
    rcases d with d | ⟨d1, d2⟩
    · exact Or.inl d
    · refine Or.inr ⟨d1, ?_⟩
      obtain ⟨z1, z2, z3, z4, z5, z6⟩ := d2
      refine ⟨by rw [h3 _ (by omega)]; exact z1, by rw [h3 _ (by omega)]; exact z2, fun y x hy hx => by rw [h2 _ (by omega)]; exact z3 y x hy hx, by rw [h1 _ _ (by omega)]; exact z4, z5, fun i hi => ⟨(z6 i hi).1, by rw [h1 _ _ (by omega)]; exact (z6 i hi).2⟩⟩
/-- what FLAT leaves as it was -/
def flX (S S' : ca) : Prop := (∀ m j, m < 1000 → m ≠ 102 → ¬ (110 ≤ m ∧ m ≤ 117) → ¬ (m = 100 ∧ (j = 0 ∨ j = 3)) → ¬ (m = 200 ∧ j = 1) → ¬ (m = 300 ∧ j = 2) → ¬ (m = 400 ∧ j = 3) → S'.1.1 m j = S.1.1 m j) ∧ (∀ m, m < 1000 → m ≠ 3 → m ≠ 101 → m ≠ 111 → S'.1.2 m = S.1.2 m) ∧ ∀ x, x < 1000 → ¬ (112 ≤ x ∧ x ≤ 117) → S'.2 x = S.2 x
theorem w_flatX {c : Nat} (hc8 : c < 8) {K : Nat → Nat} {sd : Nat → Nat → Nat → Int} {cnt : Nat → Nat} {S : ca} (hc : cO S.2) (hcl : cls S K sd cnt) {D : Nat → Bool} (hD : dR S D) {m : mo} (hR : mR S m) (hk : mok m) :
    wc iN (f_X11_flat K (zI (c : Nat)) S) S.2 (fun r => cO r.2.2 ∧ cls r.2 K sd cnt ∧ dR r.2 (mkA m (bas (FL sd cnt c).1 D) 8) ∧ r.1 = zI ((pc (FL sd cnt c).1 32768 : Nat) : Int) ∧ dT r.2 (FL sd cnt c).2 ∧ (r.2.1.1 100 0 = 1 ∧ r.2.1.1 200 1 = 0 ∧ r.2.1.1 300 2 = 0 ∧ r.2.1.1 400 3 = 0) ∧ flX S r.2) := by
  unfold f_X11_flat
  rw [show (8 : Int32) = zI 8 from rfl, w_outside (by omega) (by omega) (by omega) (by omega), if_pos (show (if 0 ≤ ((c : Nat) : Int) ∧ ((c : Nat) : Int) < 8 then (0 : Int32) else 1) = 0 by rw [if_pos (by omega)]), nm_l_eq]
  refine wc_s2 _ (w_flatA hc8 hc hcl) ?_
  rintro mk S0 ⟨e0, e1, e2⟩
  have e0' : S0 = S := e0
  subst e0'
  refine wc_a1 _ (w_flatB hc8 hc hcl e1 e2) ?_
  rintro S1 ⟨u1, u2, u3, u4⟩
  simp only [nm_l_eq]
  obtain ⟨A, hA⟩ : ∃ A, A = nm_up (nm_up (nm_up S1.1.1 200 1 0) 300 2 0) 400 3 0 := ⟨_, rfl⟩
  rw [← hA]
  have hA1 : ∀ x j, ¬ (x = 200 ∧ j = 1) → ¬ (x = 300 ∧ j = 2) → ¬ (x = 400 ∧ j = 3) → A x j = S1.1.1 x j := fun x j a b d => by
    rw [hA, nm_up_ap, if_neg d, nm_up_ap, if_neg b, nm_up_ap, if_neg a]
  have hA2 : A 200 1 = 0 ∧ A 300 2 = 0 ∧ A 400 3 = 0 := by
    refine ⟨?_, ?_, ?_⟩
    · rw [hA, nm_up_ap, if_neg (by omega), nm_up_ap, if_neg (by omega), nm_up_ap, if_pos ⟨rfl, rfl⟩]
    · rw [hA, nm_up_ap, if_neg (by omega), nm_up_ap, if_pos ⟨rfl, rfl⟩]
    · rw [hA, nm_up_ap, if_pos ⟨rfl, rfl⟩]
  clear hA
  rw [nm_cz (by omega) (by omega) (by omega), zI_cl (by omega) (by omega), Int.toNat_natCast]
  obtain ⟨v1, v2, v3⟩ := u4
  have hcl2 : cls ((A, S1.1.2), S1.2) K sd cnt := cls_hi u2 ⟨fun x j h => hA1 x j (by omega) (by omega) (by omega), fun _ _ => rfl, fun _ _ => rfl⟩
  have hs2 : stl ((A, S1.1.2), S1.2) c (FL sd cnt c) := by
    obtain ⟨z1, z2, z3, z4, z5, z6⟩ := u3
    exact ⟨z1, z2, z3, (hA1 _ _ (by omega) (by omega) (by omega)).trans z4, z5, fun i hi => ⟨(z6 i hi).1, (hA1 _ _ (by omega) (by omega) (by omega)).trans (z6 i hi).2⟩⟩
  have hD2 : dR ((A, S1.1.2), S1.2) D := fun y x hy hx => by
    show bx (S1.1.2 101 y) x = _
    rw [v2 _ (by omega) (by omega)]
    exact hD y x hy hx
  have hR2 : mR ((A, S1.1.2), S1.2) m := fun i hi => by
    show A 103 i = _ ∧ A 104 i = _ ∧ A 105 i = _
    rw [hA1 _ _ (by omega) (by omega) (by omega), hA1 _ _ (by omega) (by omega) (by omega), hA1 _ _ (by omega) (by omega) (by omega), v1 _ _ (by omega), v1 _ _ (by omega), v1 _ _ (by omega)]
    exact hR i hi
  refine wc_a2 _ (w_take hc8 (S := ((A, S1.1.2), S1.2)) u1 hD2 hR2 hk hs2) ?_
  rintro r S2 ⟨q1, q2, q3, q4, q5, q6, q7, q8⟩
  have q6' : ∀ x, x ≠ 101 → x ≠ 111 → S2.1.2 x = S1.1.2 x := q6
  have q7' : ∀ x, x < 112 ∨ 117 < x → S2.2 x = S1.2 x := q7
  have q8' : ∀ x j, x < 110 ∨ 117 < x → x ≠ 102 → ¬ (x = 100 ∧ (j = 0 ∨ j = 3)) → S2.1.1 x j = A x j := q8
  refine wc_ri ⟨q1, cls_hi hcl2 ⟨fun x j h => q8' x j (by omega) (by omega) (by omega), fun x h => q6' x (by omega) (by omega), fun x h => q7' x (by omega)⟩, q2, q3, q4, ⟨q5, ?_, ?_, ?_⟩, ?_, ?_, ?_⟩
  · exact (q8' _ _ (by omega) (by omega) (by omega)).trans hA2.1
  · exact (q8' _ _ (by omega) (by omega) (by omega)).trans hA2.2.1
  · exact (q8' _ _ (by omega) (by omega) (by omega)).trans hA2.2.2
  · intro x j a1 a2 a3 a4 a5 a6 a7
    show S2.1.1 x j = _
    rw [q8' x j (by omega) a2 a4, hA1 x j a5 a6 a7, v1 x j a1]
  · intro x a1 a2 a3 a4
    show S2.1.2 x = _
    rw [q6' x a3 a4, v2 x a1 a2]
  · intro x a1 a2
    show S2.2 x = _
    rw [q7' x (by omega), v3 x a1]
