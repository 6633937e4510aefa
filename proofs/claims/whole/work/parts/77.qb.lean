/-! Cell.settle -/
def seD (c : Nat) (S S' : ca) : Prop := (∀ m j, ¬ (m = 1000 + 100 * c ∧ (j = 5 ∨ j = 2)) → m ≠ 1000 + 100 * c + 3 → S'.1.1 m j = S.1.1 m j) ∧ (∀ m, m ≠ 1000 + 100 * c + 2 → m ≠ 3 → S'.1.2 m = S.1.2 m) ∧ ∀ x, x ≠ 1000 + 100 * c + 2 → x ≠ 1000 + 100 * c + 3 → S'.2 x = S.2 x
/-- a cell that is settled holds what it comes to -/
def stl (S : ca) (c : Nat) (f : fl) : Prop := S.2 (1000 + 100 * c + 2) = 512 ∧ S.2 (1000 + 100 * c + 3) = 200 ∧ pM S.1 (1000 + 100 * c) f.1 ∧ tM S.1 (1000 + 100 * c) f.2
theorem putM_fr {M M' : cm} {pz sq n : Nat} {mir : Bool} {ta td : Nat} {fa fd : Int} (h : putM M pz sq n mir ta td fa fd) (e : ∀ j, M'.1 pz j = M.1 pz j) : putM M' pz sq n mir ta td fa fd := by
  unfold putM
  rw [e, e, e, e, e, e, e]
  exact h
theorem shM_fr {M M' : cm} {K : Nat → Nat} {pz : Nat} {s : Nat → Int} (h : shM M K pz s) (e : ∀ j, M'.1 pz j = M.1 pz j) (e2 : M'.2 pz = M.2 pz) : shM M' K pz s := by
  obtain ⟨h1, h2, h3, h4, h5, h6⟩ := h
  refine ⟨by rw [e]; exact h1, by rw [e]; exact h2, by rw [e]; exact h3, fun a => ?_, fun a => ?_, fun a => ?_⟩
  · rw [e, e, e2]
    exact h4 a
  · rw [e]
    exact h5 a
  · exact ⟨(h6 a).1, putM_fr (h6 a).2 e⟩
theorem cl_dyW {c : Nat} (hc : c < 8) : 1000 + 100 * c + 2 ∈ cl_dy ∧ 1000 + 100 * c + 3 ∈ cl_dy := by
  have h : c = 0 ∨ c = 1 ∨ c = 2 ∨ c = 3 ∨ c = 4 ∨ c = 5 ∨ c = 6 ∨ c = 7 := by omega
  rcases h with h | h | h | h | h | h | h | h <;> subst h <;> decide
theorem tok_txt {c : Nat} {s : Nat → Int} (h : okS c s) (h3 : s 0 = 3) : tok (txt s) := by
  obtain ⟨a0, a1, a2, a3, a4, a5, a6⟩ := h
  have := a5 h3
  refine ⟨?_, ?_, ?_⟩ <;> simp only [txt] <;> omega
theorem put_rng {c : Nat} {s : Nat → Int} (h : okS c s) (h4 : s 0 = 4) : (s 1).toNat < c ∧ s 1 = ((s 1).toNat : Int) ∧ (s 2).toNat < 4096 ∧ (s 3).toNat < 4 ∧ tmT (s 5) ≤ 4 ∧ tmT (s 6) ≤ 4 := by
  obtain ⟨a0, a1, a2, a3, a4, a5, a6⟩ := h
  have := a6 h4
  unfold tmT
  omega
/-- the part behind the making of rows -/
theorem w_settleJ {c : Nat} (hc8 : c < 8) {K : Nat → Nat} {s : Nat → Nat → Int} {n : Nat} {tb : Nat → fl} {S : ca} (hc : cO S.2) (hl2 : S.2 (1000 + 100 * c + 2) = 512) (hl3 : S.2 (1000 + 100 * c + 3) = 200) (hce : ceM S.1 K c s n) (hput : ∀ k, k < n → s k 0 = 4 → stl S (s k 1).toNat (tb (s k 1).toNat)) :
    wc sN (f_X1_settle_J34 (1000 + 100 * c) K S) S.2 (fun S' => S'.2 = S.2 ∧ stl S' c (flT tb s n) ∧ S'.1.1 (1000 + 100 * c) 2 = 1 ∧ seD c S S') := by
  have hn16 := hce.1
  have hN3 := cl_l3 hc.1
  unfold f_X1_settle_J34
  rw [w_fillJ (by omega)]
  simp only [nm_s1_some, nm_l_eq]
  generalize hM1 : ((nm_up S.1.1 (1000 + 100 * c) 5 0, va_up S.1.2 (1000 + 100 * c + 2) (fun j => if j < S.2 (1000 + 100 * c + 2) then 0 else S.1.2 (1000 + 100 * c + 2) j)) : cm) = M1
  have i1 : ∀ m j, ¬ (m = 1000 + 100 * c ∧ j = 5) → M1.1 m j = S.1.1 m j := fun m j h => by
    rw [← hM1]
    show nm_up _ _ _ _ _ _ = _
    rw [nm_up_ap, if_neg h]
  have j1 : ∀ m, m ≠ 1000 + 100 * c + 2 → M1.2 m = S.1.2 m := fun m h => by
    rw [← hM1]
    exact va_up_ne _ _ h
  have hce1 : ceM M1 K c s n := by
    refine ⟨hce.1, by rw [i1 _ _ (by omega)]; exact hce.2.1, fun k hk => ⟨(hce.2.2 k hk).1, shM_fr (hce.2.2 k hk).2 (fun j => i1 _ _ (by omega)) (j1 _ (by omega))⟩⟩
  have p1 : pM M1 (1000 + 100 * c) (fun _ => false) := by
    intro y x hy hx
    rw [← hM1]
    show bx (va_up S.1.2 (1000 + 100 * c + 2) (fun j => if j < S.2 (1000 + 100 * c + 2) then 0 else S.1.2 (1000 + 100 * c + 2) j) (1000 + 100 * c + 2) y) x = false
    rw [va_up_self, if_pos (by omega), bx_0]
  have t1 : tM M1 (1000 + 100 * c) [] := by
    refine ⟨?_, by simp, fun i hi => absurd hi (Nat.not_lt_zero _)⟩
    rw [← hM1]
    show nm_up _ _ _ _ _ _ = _
    rw [nm_up_ap, if_pos ⟨rfl, rfl⟩]
    rfl
  -- boxes and paths, then holes
  rw [show (0 : Int32) = (if false = true then 1 else 0) from rfl]
  refine wc_s1 _ (w_markPatches hl2 hce1 p1 false) ?_
  rintro M2 ⟨r2, p2⟩
  rw [show (1 : Int32) = (if true = true then 1 else 0) from rfl]
  refine wc_s1 _ (w_markPatches hl2 (ceM_rW hce1 r2) p2 true) ?_
  rintro M3 ⟨r3, p3⟩
  have r13 := rW_tr r2 r3
  have p3' : pM M3 (1000 + 100 * c) (ownB s n) := by
    intro y x hy hx
    rw [p3 y x hy hx]
    refine bP_congr ?_
    unfold mkX
    rw [if_pos rfl, bP_t, if_neg (by decide)]
    simp
  have hce3 := ceM_rW hce1 r13
  have t3 : tM M3 (1000 + 100 * c) [] := by unfold tM; rw [r13.1]; exact t1
  -- texts
  have eq0 : (if false = true then (1 : Int32) else 0) = zI 0 := rfl
  simp only [nm_l_eq]
  refine wc_s1 (fun S4 => S4.2 = S.2 ∧ tM S4.1 (1000 + 100 * c) (ownT s n) ∧ xD (1000 + 100 * c) M3 S4.1) ?_ ?_
  · show wp (f_X1_settle_L59 (1000 + 100 * c) K nm_F (zI 0) (M3, S.2)) _
    refine lpc (fun f => f_X1_settle_L59 (1000 + 100 * c) K f) _ n (fun k S4 => 0 ≤ k ∧ S4.2 = S.2 ∧ tM S4.1 (1000 + 100 * c) (ownT s k.toNat) ∧ xD (1000 + 100 * c) M3 S4.1) ?_ ?_ nm_F 0 _ (by omega) (by rw [nm_F_eq]; omega) ⟨by omega, rfl, t3, xD_rf _ _⟩
    · rintro f k S4 hk ⟨k0, e4, hI, hX⟩ hn9
      obtain ⟨k, rfl⟩ := Int.eq_ofNat_of_zero_le k0
      rw [show ((k : Nat) : Int).toNat = k from rfl] at hI
      obtain ⟨o1, o2⟩ := hce3.2.2 k (by omega)
      have o3 : shM S4.1 K (1010 + 100 * c + k) (s k) := shM_fr o2 (fun j => hX.2 _ _ (by omega) (by omega)) (by rw [hX.1])
      obtain ⟨K0, K6, K5, K7⟩ := okS_K o1 o3
      show wp (f_X1_settle_L59 (1000 + 100 * c) K (f + 1) (zI ((k : Nat) : Int)) S4) _
      rw [f_X1_settle_L59, show S4.1.1 (1000 + 100 * c) 1 = zI (n : Nat) by rw [hX.2 _ _ (by omega) (by omega)]; exact hce3.2.1]
      unfold f_X1_settle_J99
      simp (disch := omega) only [zI_le, nm_cz, zI_cl, nm_l_eq, zI_inc]
      rw [if_neg (by omega), show 1000 + 100 * c + 10 + ((k : Nat) : Int).toNat = 1010 + 100 * c + k by omega, nm_nzp K0]
      refine wp_if (fun h => ?_) (fun h => ?_)
      · refine hn9 _ ⟨by omega, e4, ?_, hX⟩
        rw [show (((k : Nat) : Int) + 1).toNat = k + 1 by omega]
        have h3 : s k 0 ≠ 3 := fun h3 => (nm_is0.mp h) (K5.mpr h3)
        show tM S4.1 _ (if s k 0 = 3 then _ else _)
        rw [if_neg h3]
        exact hI
      · have h3 : s k 0 = 3 := by
          apply K5.mp
          apply Classical.byContradiction
          intro h8
          exact h (nm_is0.mpr h8)
        rw [(o3.2.2.2.2.1 h3).2]
        refine wp_s1 _ (w_addText (by rw [e4]; exact hl3) hI (tok_txt o1 h3)) ?_
        rintro M5 ⟨a1, a2⟩
        refine hn9 _ ⟨by omega, e4, ?_, xD_tr hX a2⟩
        rw [show (((k : Nat) : Int) + 1).toNat = k + 1 by omega]
        show tM M5 _ (if s k 0 = 3 then _ else _)
        rw [if_pos h3]
        exact a1
    · rintro f S4 ⟨k0, e4, hI, hX⟩
      show wp (f_X1_settle_L59 (1000 + 100 * c) K (f + 1) (zI ((n : Nat) : Int)) S4) _
      rw [f_X1_settle_L59, show S4.1.1 (1000 + 100 * c) 1 = zI (n : Nat) by rw [hX.2 _ _ (by omega) (by omega)]; exact hce3.2.1]
      simp (disch := omega) only [zI_le, Int.le_refl, if_true]
      exact wp_r ⟨e4, hI, hX⟩
  rintro S4 ⟨e4, t4, x4⟩
  have p4 : pM S4.1 (1000 + 100 * c) (ownB s n) := fun y x hy hx => by rw [x4.1]; exact p3' y x hy hx
  -- what the PUTS bring
  refine wc_s1 (fun S5 => S5.2 = S.2 ∧ pM S5.1 (1000 + 100 * c) (flT tb s n).1 ∧ tM S5.1 (1000 + 100 * c) (flT tb s n).2 ∧ bD (1000 + 100 * c) S4.1 S5.1) ?_ ?_
  · show wp (f_X1_settle_L107 (1000 + 100 * c) K nm_F (zI 0) S4) _
    refine lpc (fun f => f_X1_settle_L107 (1000 + 100 * c) K f) _ n (fun k S5 => 0 ≤ k ∧ S5.2 = S.2 ∧ pM S5.1 (1000 + 100 * c) (fo (fun k st => if s k 0 = 4 then putS (tb (s k 1).toNat) (s k) st else st) k.toNat (ownB s n, ownT s n)).1 ∧ tM S5.1 (1000 + 100 * c) (fo (fun k st => if s k 0 = 4 then putS (tb (s k 1).toNat) (s k) st else st) k.toNat (ownB s n, ownT s n)).2 ∧ bD (1000 + 100 * c) S4.1 S5.1) ?_ ?_ nm_F 0 _ (by omega) (by rw [nm_F_eq]; omega) ⟨by omega, e4, p4, t4, bD_rf _ _⟩
    · rintro f k S5 hk ⟨k0, e5, hP, hT, hB⟩ hn9
      obtain ⟨k, rfl⟩ := Int.eq_ofNat_of_zero_le k0
      rw [show ((k : Nat) : Int).toNat = k from rfl] at hP hT
      generalize hst : fo (fun k st => if s k 0 = 4 then putS (tb (s k 1).toNat) (s k) st else st) k (ownB s n, ownT s n) = st at *
      obtain ⟨o1, o2⟩ := hce3.2.2 k (by omega)
      have o3 : shM S5.1 K (1010 + 100 * c + k) (s k) := shM_fr o2 (fun j => by rw [hB.1 _ _ (by omega) (by omega), x4.2 _ _ (by omega) (by omega)]) (by rw [hB.2 _ (by omega) (by omega), x4.1])
      obtain ⟨K0, K6, K5, K7⟩ := okS_K o1 o3
      have hnext : ∀ st', (if s k 0 = 4 then putS (tb (s k 1).toNat) (s k) st else st) = st' → fo (fun k st => if s k 0 = 4 then putS (tb (s k 1).toNat) (s k) st else st) (((k : Nat) : Int) + 1).toNat (ownB s n, ownT s n) = st' := by
        intro st' h
        rw [show (((k : Nat) : Int) + 1).toNat = k + 1 by omega]
        show (if s k 0 = 4 then putS (tb (s k 1).toNat) (s k) (fo _ k _) else fo _ k _) = st'
        rw [hst]
        exact h
      show wp (f_X1_settle_L107 (1000 + 100 * c) K (f + 1) (zI ((k : Nat) : Int)) S5) _
      rw [f_X1_settle_L107, show S5.1.1 (1000 + 100 * c) 1 = zI (n : Nat) by rw [hB.1 _ _ (by omega) (by omega), x4.2 _ _ (by omega) (by omega)]; exact hce3.2.1]
      unfold f_X1_settle_J152
      simp (disch := omega) only [zI_le, nm_cz, zI_cl, nm_l_eq, zI_inc]
      rw [if_neg (by omega), show 1000 + 100 * c + 10 + ((k : Nat) : Int).toNat = 1010 + 100 * c + k by omega, nm_nzp K0]
      refine wp_if (fun h => ?_) (fun h => ?_)
      · have h4 : s k 0 ≠ 4 := fun h4 => (nm_is0.mp h) (K7.mpr h4)
        have := hnext st (by rw [if_neg h4])
        exact hn9 _ ⟨by omega, e5, by rw [this]; exact hP, by rw [this]; exact hT, hB⟩
      · have h4 : s k 0 = 4 := by
          apply K7.mp
          apply Classical.byContradiction
          intro h8
          exact h (nm_is0.mpr h8)
        obtain ⟨q1, q2, q3, q4, q5, q6⟩ := put_rng o1 h4
        have hp := (o3.2.2.2.2.2 h4).2
        rw [o3.2.1, q2]
        refine wp_cz (by omega) (by omega) (by omega) ?_
        rw [zI_cl (by omega) (by omega), Int.toNat_natCast]
        generalize ho : (s k 1).toNat = o at *
        obtain ⟨z1, z2, z3, z4⟩ := hput k (by omega) h4
        rw [ho] at z1 z2 z3 z4
        have z3' : pM S5.1 (1000 + 100 * o) (tb o).1 := fun y x hy hx => by rw [hB.2 _ (by omega) (by omega), x4.1, r13.2 _ (by omega), j1 _ (by omega)]; exact z3 y x hy hx
        have z4' : tM S5.1 (1000 + 100 * o) (tb o).2 := by
          have e : ∀ j, S5.1.1 (1000 + 100 * o) j = S.1.1 (1000 + 100 * o) j := fun j => by rw [hB.1 _ _ (by omega) (by omega), x4.2 _ _ (by omega) (by omega), r13.1, i1 _ _ (by omega)]
          have e2 : ∀ j, S5.1.1 (1000 + 100 * o + 3) j = S.1.1 (1000 + 100 * o + 3) j := fun j => by rw [hB.1 _ _ (by omega) (by omega), x4.2 _ _ (by omega) (by omega), r13.1, i1 _ _ (by omega)]
          obtain ⟨w1, w2, w3⟩ := z4
          exact ⟨by rw [e]; exact w1, w2, fun i hi => ⟨(w3 i hi).1, by rw [e2]; exact (w3 i hi).2⟩⟩
        refine wp_s1 _ (w_bring (by omega) (by omega) (by omega) (by omega) (by omega) (by omega) (by omega) (by rw [e5]; exact hl3) (by rw [e5]; exact z2) (by rw [e5]; exact hl2) (by rw [e5]; exact z1) (by rw [e5]; exact hN3) hp hT z4' hP z3') ?_
        rintro M6 ⟨b1, b2, b3⟩
        have := hnext (putS (tb o) (s k) st) (by rw [if_pos h4])
        exact hn9 _ ⟨by omega, e5, by rw [this]; exact b1, by rw [this]; exact b2, bD_tr hB b3⟩
    · rintro f S5 ⟨k0, e5, hP, hT, hB⟩
      show wp (f_X1_settle_L107 (1000 + 100 * c) K (f + 1) (zI ((n : Nat) : Int)) S5) _
      rw [f_X1_settle_L107, show S5.1.1 (1000 + 100 * c) 1 = zI (n : Nat) by rw [hB.1 _ _ (by omega) (by omega), x4.2 _ _ (by omega) (by omega)]; exact hce3.2.1]
      simp (disch := omega) only [zI_le, Int.le_refl, if_true]
      exact wp_r ⟨e5, hP, hT, hB⟩
  rintro S5 ⟨e5, hP, hT, hB⟩
  rw [show S.2 = S5.2 from e5.symm]
  refine wc_r ⟨rfl, ⟨by show S5.2 _ = _; rw [e5]; exact hl2, by show S5.2 _ = _; rw [e5]; exact hl3, hP, ?_⟩, ?_, ?_⟩
  · obtain ⟨w1, w2, w3⟩ := hT
    refine ⟨?_, w2, fun i hi => ⟨(w3 i hi).1, ?_⟩⟩
    · show nm_up _ _ _ _ _ _ = _
      rw [nm_up_ap, if_neg (by omega)]
      exact w1
    · show nm_up _ _ _ _ _ _ = _
      rw [nm_up_ap, if_neg (by omega)]
      exact (w3 i hi).2
  · show nm_up _ _ _ _ _ _ = _
    rw [nm_up_ap, if_pos ⟨rfl, rfl⟩]
  · refine ⟨fun m j a b => ?_, fun m a b => ?_, fun x _ _ => by show S5.2 x = _; rw [e5]⟩
    · show nm_up _ _ _ _ _ _ = _
      rw [nm_up_ap, if_neg (by omega), hB.1 _ _ (by omega) b, x4.2 _ _ (by omega) b, r13.1, i1 _ _ (by omega)]
    · show S5.1.2 m = _
      rw [hB.2 _ a b, x4.1, r13.2 _ a, j1 _ a]
