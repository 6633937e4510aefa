/-! calls, told of both sides: small ones -/
theorem oif {α : Type} {P : Prop} [Decidable P] (a b : α) : (if (if P then (0 : Int32) else 1) = 0 then a else b) = if P then a else b := by
  by_cases h : P
  · rw [if_pos h, if_pos h, if_pos rfl]
  · rw [if_neg h, if_neg h, if_neg (by decide)]
theorem iif {α : Type} {P : Prop} [Decidable P] (a b : α) : (if (if P then (1 : Int32) else 0) = 0 then a else b) = if P then b else a := by
  by_cases h : P
  · rw [if_pos h, if_pos h, if_neg (by decide)]
  · rw [if_neg h, if_neg h, if_pos rfl]
theorem isLayer_z {z : Int} (h1 : -2147483648 ≤ z) (h2 : z < 2147483648) : f_X12_isLayer (zI z) = if 0 ≤ z ∧ z < 16 then 1 else 0 := by
  unfold f_X12_isLayer
  rw [show (0 : Int32) = zI 0 from rfl, show (16 : Int32) = zI 16 from rfl]
  simp (disch := omega) only [zI_lt, zI_le]
  by_cases a : z < 0
  · rw [if_pos a, if_neg (by omega)]
  · rw [if_neg a]
    by_cases b : (16 : Int) ≤ z
    · rw [if_pos b, if_neg (by omega)]
    · rw [if_neg b, if_pos (by omega)]
theorem isSquare_z {z : Int} (h1 : -2147483648 ≤ z) (h2 : z < 2147483648) : f_X12_isSquare (zI z) = if 0 ≤ z ∧ z < 4096 then 1 else 0 := by
  unfold f_X12_isSquare
  rw [show (0 : Int32) = zI 0 from rfl, show (4096 : Int32) = zI 4096 from rfl]
  simp (disch := omega) only [zI_lt, zI_le]
  by_cases a : z < 0
  · rw [if_pos a, if_neg (by omega)]
  · rw [if_neg a]
    by_cases b : (4096 : Int) ≤ z
    · rw [if_pos b, if_neg (by omega)]
    · rw [if_neg b, if_pos (by omega)]
theorem isCell_i {z : Int} (h1 : -2147483648 ≤ z) (h2 : z < 2147483648) : f_X12_isCell (zI z) = if 0 ≤ z ∧ z < 8 then 1 else 0 := by
  unfold f_X12_isCell
  rw [show (0 : Int32) = zI 0 from rfl, show (8 : Int32) = zI 8 from rfl]
  simp (disch := omega) only [zI_lt, zI_le]
  by_cases a : z < 0
  · rw [if_pos a, if_neg (by omega)]
  · rw [if_neg a]
    by_cases b : (8 : Int) ≤ z
    · rw [if_pos b, if_neg (by omega)]
    · rw [if_neg b, if_pos (by omega)]
theorem out_z {z : Int} {n : Nat} (h1 : -2147483648 ≤ z) (h2 : z < 2147483648) (h3 : n < 2147483648) : f_X11_outside (zI z) (zI (n : Nat)) = if 0 ≤ z ∧ z < n then 0 else 1 := w_outside h1 h2 (by omega) (by omega)
theorem bq_0 (b : Bool) : bq b = 0 ↔ b = false := ite_z b
theorem bit_one (w : Int64) {x : Nat} (hx : x < 64) : (nm_shr w (zI (x : Nat)) &&& (1 : Int64)).toInt32 = bq (bx w x) := by
  have b1 : ∀ y, y < 64 → bx 1 y = decide (y = 0) := by decide +kernel
  have hv : ∀ j, j < 64 → bx (nm_shr w (zI (x : Nat)) &&& (1 : Int64)) j = (bx w x && decide (j = 0)) := fun j hj => by
    rw [bx_and, bx_shr w hx, b1 j hj]
    by_cases hj0 : j = 0
    · subst hj0
      rw [Nat.zero_add]
    · rw [decide_eq_false hj0, Bool.and_false, Bool.and_false]
  cases hb : bx w x with
  | true =>
    have e : (nm_shr w (zI (x : Nat)) &&& (1 : Int64)) = 1 := bx_ext (fun j hj => by rw [hv j hj, hb, b1 j hj, Bool.true_and])
    rw [e]
    decide
  | false =>
    have e : (nm_shr w (zI (x : Nat)) &&& (1 : Int64)) = 0 := bx_ext (fun j hj => by rw [hv j hj, hb, bx_0, Bool.false_and])
    rw [e]
    decide
section
variable {S : ca} {K : Nat → Nat} {I : nm_I}
theorem simP_no (h : RR S K I) {x : Int32} {b : Int} (hx : x = zI b) (b1 : -9 ≤ b) (b2 : b ≤ -2) : simP K S.2 (nm_s2 (f_X11_refuse x S.1) fun r M' => some (r, M')) (nm_s2 (f_X12_no x I) fun r I' => some (r, I')) := by
  subst hx
  obtain ⟨M', I', e1, e2, e3⟩ := w_refuse h b1 b2
  rw [e1, e2, nm_s2_some, nm_s2_some]
  exact ⟨_, M', I', rfl, rfl, e3⟩
theorem simP_q (h : RR S K I) {r r' : Int32} (e : r = r') : simP K S.2 (some (r, S.1)) (some (r', I)) := ⟨r, S.1, I, rfl, by rw [e], h⟩
theorem s_area (h : RR S K I) (x : Int32) : simP K S.2 (f_X11_area x S.1) (f_X12_area x I) := by
  obtain ⟨z, z1, z2, rfl⟩ := zI_ex x
  obtain ⟨hc, ⟨hA, hB, hU, hE, hJ, hG, hL, hZ⟩, D, T, fo, nets, dn, dev, hC, hF, hW⟩ := id h
  obtain ⟨⟨kn, k1, k2⟩, hD, hO, hT, hTO⟩ := hC
  unfold f_X11_area f_X12_area
  rw [show (16 : Int32) = zI ((16 : Nat) : Int) from rfl, out_z z1 z2 (by omega), isLayer_z z1 z2, oif, iif, k1, k2]
  by_cases hz : 0 ≤ z ∧ z < 16
  · obtain ⟨l, rfl⟩ := Int.eq_ofNat_of_zero_le hz.1
    rw [if_pos (by omega), if_pos hz, w_squaresOf hD (by omega), w_areaOf hO (by omega), nm_s1_some, nm_s1_some]
    cases kn with
    | false => exact simP_no h (b := -2) rfl (by decide) (by decide)
    | true => exact simP_q h rfl
  · rw [if_neg (by omega), if_neg hz]
    exact simP_no h (b := -3) rfl (by decide) (by decide)
theorem s_covered (h : RR S K I) (x y : Int32) : simP K S.2 (f_X11_covered x y S.1) (f_X12_covered x y I) := by
  obtain ⟨z, z1, z2, rfl⟩ := zI_ex x
  obtain ⟨w, w1, w2, rfl⟩ := zI_ex y
  obtain ⟨hc, ⟨hA, hB, hU, hE, hJ, hG, hL, hZ⟩, D, T, fo, nets, dn, dev, hC, hF, hW⟩ := id h
  obtain ⟨⟨kn, k1, k2⟩, hD, hO, hT, hTO⟩ := hC
  unfold f_X11_covered f_X12_covered
  rw [show (16 : Int32) = zI ((16 : Nat) : Int) from rfl, show (4096 : Int32) = zI ((4096 : Nat) : Int) from rfl, out_z z1 z2 (by omega), out_z w1 w2 (by omega), isLayer_z z1 z2, isSquare_z w1 w2, oif, iif, oif, iif, k1, k2]
  by_cases hz : 0 ≤ z ∧ z < 16
  · obtain ⟨l, rfl⟩ := Int.eq_ofNat_of_zero_le hz.1
    rw [if_pos (by omega), if_pos hz]
    by_cases hw : 0 ≤ w ∧ w < 4096
    · obtain ⟨q, rfl⟩ := Int.eq_ofNat_of_zero_le hw.1
      rw [if_pos (by omega), if_pos hw]
      cases kn with
      | false => exact simP_no h (b := -2) rfl (by decide) (by decide)
      | true =>
        rw [if_neg (show ¬ bq true = 0 by decide), if_neg (show ¬ bq true = 0 by decide), show (64 : Int32) = zI 64 from rfl, md (by omega) (by omega) (by omega) (by omega), zI_div (by omega) (by omega) (by omega) (by omega), zI_mul, zI_add, zI_mul, zI_add, nm_cz (by omega) (by omega) (by omega), nm_cz (by omega) (by omega) (by omega), zI_cl (by omega) (by omega), zI_cl (by omega) (by omega), show (64 * ((l : Nat) : Int) + ((q : Nat) : Int) / 64).toNat = 64 * l + q / 64 by omega, show (((4096 : Nat) : Int) * ((l : Nat) : Int) + ((q : Nat) : Int)).toNat = 4096 * l + q by omega, show ((q : Nat) : Int) % 64 = ((q % 64 : Nat) : Int) by omega, bit_one _ (by omega), hD _ _ (by omega) (by omega), hO _ (by omega), show 64 * (64 * l + q / 64) + q % 64 = 4096 * l + q by omega]
        cases D (4096 * l + q) with
        | false => exact simP_q h rfl
        | true => exact simP_q h rfl
    · rw [if_neg (by omega), if_neg hw]
      exact simP_no h (b := -3) rfl (by decide) (by decide)
  · rw [if_neg (by omega), if_neg hz]
    exact simP_no h (b := -3) rfl (by decide) (by decide)
theorem s_tries (h : RR S K I) : f_X11_tries S.1 = f_X12_tries I := by
  obtain ⟨hc, ⟨hA, hB, hU, hE, hJ, hG, hL, hZ⟩, D, T, fo, nets, dn, dev, hC, hF, ws, n, a, b, c, ⟨tv, t1, t2⟩, d⟩ := h
  unfold f_X11_tries f_X12_tries
  rw [t1, t2]
theorem s_status (h : RR S K I) (x : Int32) : simP K S.2 (f_X11_status x S.1) (f_X12_status x I) := by
  obtain ⟨z, z1, z2, rfl⟩ := zI_ex x
  obtain ⟨hc, ⟨hA, hB, hU, hE, hJ, hG, hL, hZ⟩, hrest⟩ := id h
  unfold f_X11_status f_X12_status
  rw [isIn_z z1 z2, show (-9 : Int64).toInt = -9 by decide, show (-2 : Int64).toInt = -2 by decide, iif]
  by_cases hz : -9 ≤ z ∧ z ≤ -2
  · obtain ⟨k, hk⟩ : ∃ k : Nat, z = -2 - (k : Int) := ⟨(-2 - z).toNat, by omega⟩
    rw [if_pos hz, if_neg (by
      rw [show (-2 : Int32) = zI (-2) from rfl, zI_lt (by omega) (by omega) (by omega) (by omega)]
      omega), if_pos (by
      rw [show (-9 : Int32) = zI (-9) from rfl, zI_le (by omega) (by omega) (by omega) (by omega)]
      omega), show (-2 : Int32) = zI (-2) from rfl, zI_sub, zI_neg, nm_cz (by omega) (by omega) (by omega), nm_cz (by omega) (by omega) (by omega), zI_cl (by omega) (by omega), zI_cl (by omega) (by omega), show (-2 - z).toNat = k by omega, show (-z).toNat = k + 2 by omega]
    exact simP_q h (hZ k (by omega))
  · rw [if_neg hz]
    by_cases hz2 : -2 < z
    · rw [if_pos (by
        rw [show (-2 : Int32) = zI (-2) from rfl, zI_lt (by omega) (by omega) (by omega) (by omega)]
        exact hz2)]
      exact simP_no h (b := -7) rfl (by decide) (by decide)
    · rw [if_neg (by
        rw [show (-2 : Int32) = zI (-2) from rfl, zI_lt (by omega) (by omega) (by omega) (by omega)]
        exact hz2), if_neg (by
        rw [show (-9 : Int32) = zI (-9) from rfl, zI_le (by omega) (by omega) (by omega) (by omega)]
        omega)]
      exact simP_no h (b := -7) rfl (by decide) (by decide)
theorem s_row (h : RR S K I) (x : Int32) : simP K S.2 (f_X11_row x S.1) (f_X12_row x I) := by
  obtain ⟨z, z1, z2, rfl⟩ := zI_ex x
  obtain ⟨hc, ⟨hA, hB, hU, hE, hJ, hG, ⟨hr, l1, l2, l3⟩, hZ⟩, hrest⟩ := id h
  unfold f_X11_row f_X12_row
  rw [show (64 : Int32) = zI ((64 : Nat) : Int) from rfl, out_z z1 z2 (by omega), isIn63 z1 z2, oif, iif, l1, l2]
  cases hr with
  | false => exact simP_no h (b := -2) rfl (by decide) (by decide)
  | true =>
    rw [if_neg (show ¬ bq true = 0 by decide), if_neg (show ¬ bq true = 0 by decide)]
    obtain ⟨ln, l4⟩ := l3 rfl
    by_cases hz : 0 ≤ z ∧ z < 64
    · obtain ⟨i, rfl⟩ := Int.eq_ofNat_of_zero_le hz.1
      obtain ⟨a, b⟩ := l4 i (by omega)
      rw [if_pos (by omega), if_pos (by omega), bit_one _ (by omega), nm_cz (by omega) (by omega) (by omega), zI_cl (by omega) (by omega), Int.toNat_natCast, a, b]
      exact simP_q h rfl
    · rw [if_neg (by omega), if_neg (by omega)]
      exact simP_no h (b := -3) rfl (by decide) (by decide)
theorem s_tear (h : RR S K I) : simP K S.2 (f_X11_tear S.1) (f_X12_tear I) := by
  obtain ⟨hc, ⟨hA, hB, hU, hE, hJ, hG, ⟨hr, l1, l2, l3⟩, hZ⟩, D, T, fo, nets, dn, dev, hC, hF, hW⟩ := id h
  have hgo : ∀ r : Int32, simP K S.2 (some (r, (nm_up S.1.1 0 8 (0 : Int32), S.1.2))) (some (r, nm_up I 0 79 (0 : Int32))) := by
    intro r
    obtain ⟨A, hA9⟩ : ∃ A, A = nm_up S.1.1 0 8 (0 : Int32) := ⟨_, rfl⟩
    obtain ⟨J, hJ9⟩ : ∃ J, J = nm_up I 0 79 (0 : Int32) := ⟨_, rfl⟩
    rw [← hA9, ← hJ9]
    have a1 : ∀ m j, ¬ (m = 0 ∧ j = 8) → A m j = S.1.1 m j := fun m j h => by rw [hA9, nm_up_ap, if_neg h]
    have a2 : A 0 8 = 0 := by rw [hA9, nm_up_ap, if_pos ⟨rfl, rfl⟩]
    have j1 : ∀ m j, ¬ (m = 0 ∧ j = 79) → J m j = I m j := fun m j h => by rw [hJ9, nm_up_ap, if_neg h]
    have j2 : J 0 79 = 0 := by rw [hJ9, nm_up_ap, if_pos ⟨rfl, rfl⟩]
    clear hA9 hJ9
    exact ⟨r, (A, S.1.2), J, rfl, rfl, hc, ⟨RA_fr hA ⟨fun m j h => a1 m j (by omega), fun _ _ => rfl, fun _ _ => rfl⟩ (fun m j _ _ => j1 m j (by omega)), RB_fr hB (fun m j _ _ => a1 m j (by omega)) (fun m j _ _ => j1 m j (by omega)), RU_fr hU (fun m j _ _ => a1 m j (by omega)) rfl (fun m j _ => j1 m j (by omega)), RE_fr hE (a1 _ _ (by omega)) (fun j => j1 _ _ (by omega)), RJ_fr hJ (fun m j _ => a1 m j (by omega)) (fun m j _ => j1 m j (by omega)), RG_fr hG (fun j _ _ => a1 _ _ (by omega)) (fun j _ _ => j1 _ _ (by omega)), ⟨false, a2, j2, fun h => absurd h (by decide)⟩, RZ_fr hZ (fun k => a1 _ _ (by omega)) (fun k => j1 _ _ (by omega))⟩, D, T, fo, nets, dn, dev, RC_fr hC (fun m j _ => a1 m j (by omega)) rfl (fun m j _ => j1 m j (by omega)), RF_fr hF (fun m j _ => a1 m j (by omega)) (fun _ _ => rfl) (fun _ _ _ => rfl) (fun m j _ => j1 m j (by omega)), RW_fr hW (fun m j _ _ => a1 m j (by omega)) (fun m j _ => j1 m j (by omega))⟩
  unfold f_X11_tear f_X12_tear
  rw [l1, l2]
  simp only [nm_l_eq]
  cases hr with
  | false => exact hgo 0
  | true => exact hgo 1
end
