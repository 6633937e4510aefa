/-! calls, told of both sides: boxes, holes, paths -/
section
variable {S : ca} {K : Nat → Nat} {I : nm_I}
/-- an oblong, as the program keeps it -/
theorem shM_ob {M' : cm} {K' : Nat → Nat} {pz : Nat} {s : Nat → Int} {k0 k1 k2 k3 k4 k5 : Int32} {cols : Int64} (e1 : M'.1 pz = mk_i [k0, k1, k2, k3, k4, k5]) (e2 : M'.2 pz = fun _ => cols) (e3 : K' pz = 6) (h3 : s 0 ≠ 3) (h4 : s 0 ≠ 4) (a0 : k0 = zI (s 0)) (a1 : k1 = zI (s 1)) (a2 : k2 = zI (s 2)) (a3 : k3 = zI (max (rcT s).2.1 0)) (a4 : k4 = zI (min ((rcT s).2.1 + (rcT s).2.2.2 - 1) 63)) (a5 : cols = f_X0_span (zI (max (rcT s).1 0)) (zI (min ((rcT s).1 + (rcT s).2.2.1 - 1) 63 - max (rcT s).1 0 + 1))) (r1 : -10 ≤ (rcT s).1) (r2 : (rcT s).1 ≤ 63) (r3 : 1 ≤ (rcT s).2.2.1) (r4 : (rcT s).2.2.1 ≤ 64) (r5 : 1 ≤ (rcT s).1 + (rcT s).2.2.1) : shM M' K' pz s := by
  refine ⟨by rw [e1, ← a0]; rfl, by rw [e1, ← a1]; rfl, by rw [e1, ← a2]; rfl, fun _ => ⟨e3, by rw [e1, ← a3]; rfl, by rw [e1, ← a4]; rfl, fun x hx => ?_⟩, fun e => absurd e h3, fun e => absurd e h4⟩
  rw [e2, a5]
  exact w_cols r1 r2 r3 r4 r5 hx
theorem mm_max {a b : Int} (h1 : -2147483648 ≤ a) (h2 : a < 2147483648) (h3 : -2147483648 ≤ b) (h4 : b < 2147483648) : nm_max (zI a) (zI b) = zI (max a b) := nm_maxZ h1 h2 h3 h4
theorem mm_min {a b : Int} (h1 : -2147483648 ≤ a) (h2 : a < 2147483648) (h3 : -2147483648 ≤ b) (h4 : b < 2147483648) : nm_min (zI a) (zI b) = zI (min a b) := nm_minZ h1 h2 h3 h4
theorem s_box (h : RR S K I) (x y u v : Int32) (hole : Bool) : simB K S.2 (f_X11_box K x y u v (bq hole) S.1) (f_X12_box x y u v (bq hole) I) := by
  obtain ⟨z, z1, z2, rfl⟩ := zI_ex x
  obtain ⟨l, l1, l2, rfl⟩ := zI_ex y
  obtain ⟨q, q1, q2, rfl⟩ := zI_ex u
  obtain ⟨w, w1, w2, rfl⟩ := zI_ex v
  obtain ⟨sd, cnt, hcl, hcO⟩ := id h.2.1.1
  have hno3 := simB_no h (x := -3) (b := -3) rfl (by decide) (by decide)
  have hno7 := simB_no h (x := -7) (b := -7) rfl (by decide) (by decide)
  unfold f_X11_box f_X12_box
  obtain ⟨hb, ehb⟩ : ∃ hb, hb = bq hole := ⟨_, rfl⟩
  rw [← ehb]
  rw [show ∀ z, f_X11_outside (zI z) 8 = f_X11_outside (zI z) (zI ((8 : Nat) : Int)) from fun _ => rfl, show ∀ z, f_X11_outside (zI z) 8 = f_X11_outside (zI z) (zI ((8 : Nat) : Int)) from fun _ => rfl, show f_X11_outside (zI q) 4096 = f_X11_outside (zI q) (zI ((4096 : Nat) : Int)) from rfl, out_z z1 z2 (by omega), out_z l1 l2 (by omega), out_z q1 q2 (by omega), oif, oif, oif, isCell_i z1 z2, isIn_z l1 l2, isSquare_z q1 q2, iif, iif, iif, show (0 : Int64).toInt = 0 by decide, show (7 : Int64).toInt = 7 by decide]
  by_cases hz : ¬ (0 ≤ z ∧ z < 8)
  · rw [if_neg (by omega), if_neg hz]
    exact hno3
  replace hz := Classical.not_not.mp hz
  rw [if_pos (show 0 ≤ z ∧ z < ((8 : Nat) : Int) by omega), if_pos hz]
  by_cases hl : ¬ (0 ≤ l ∧ l ≤ 7)
  · rw [if_neg (by omega), if_neg hl]
    exact hno3
  replace hl := Classical.not_not.mp hl
  rw [if_pos (show 0 ≤ l ∧ l < ((8 : Nat) : Int) by omega), if_pos hl]
  by_cases hq : ¬ (0 ≤ q ∧ q < 4096)
  · rw [if_neg (by omega), if_neg hq]
    exact hno3
  replace hq := Classical.not_not.mp hq
  rw [if_pos (show 0 ≤ q ∧ q < ((4096 : Nat) : Int) by omega), if_pos hq, nm_l_eq, nm_l_eq]
  have t0 : zI w < 0 ↔ w < 0 := by rw [show (0 : Int32) = zI 0 from rfl, zI_lt (by omega) (by omega) (by omega) (by omega)]
  by_cases hw0 : w < 0
  · have e : w.tdiv 100 = -((-w) / 100) := by
      have := Int.neg_tdiv (-w) 100
      rw [Int.neg_neg] at this
      rw [this, Int.tdiv_eq_ediv_of_nonneg (by omega)]
    have f1 : zI w / (100 : Int32) < (1 : Int32) := by
      rw [show (100 : Int32) = zI 100 from rfl, zI_tdiv w1 w2 (by omega) (by omega), e, show (1 : Int32) = zI 1 from rfl, zI_lt (by omega) (by omega) (by omega) (by omega)]
      omega
    rw [if_pos f1, if_pos (t0.mpr hw0)]
    exact hno7
  have g1 : zI w / (100 : Int32) = zI (w / 100) := by rw [show (100 : Int32) = zI 100 from rfl, zI_div (by omega) (by omega) (by omega) (by omega)]
  have g2 : zI w - zI w / (100 : Int32) * (100 : Int32) = zI (w % 100) := by rw [show (100 : Int32) = zI 100 from rfl, md (by omega) (by omega) (by omega) (by omega)]
  rw [if_neg (fun e => hw0 (t0.mp e)), g2, g1, isIn_z (by omega) (by omega), isIn_z (by omega) (by omega), iif, iif, show (1 : Int64).toInt = 1 by decide, show (64 : Int64).toInt = 64 by decide]
  have u1 : zI (w / 100) < (1 : Int32) ↔ w / 100 < 1 := by rw [show (1 : Int32) = zI 1 from rfl, zI_lt (by omega) (by omega) (by omega) (by omega)]
  have u2 : (64 : Int32) < zI (w / 100) ↔ 64 < w / 100 := by rw [show (64 : Int32) = zI 64 from rfl, zI_lt (by omega) (by omega) (by omega) (by omega)]
  have u3 : zI (w % 100) < (1 : Int32) ↔ w % 100 < 1 := by rw [show (1 : Int32) = zI 1 from rfl, zI_lt (by omega) (by omega) (by omega) (by omega)]
  have u4 : zI (w % 100) ≤ (64 : Int32) ↔ w % 100 ≤ 64 := by rw [show (64 : Int32) = zI 64 from rfl, zI_le (by omega) (by omega) (by omega) (by omega)]
  by_cases b1 : w / 100 < 1
  · rw [if_pos (u1.mpr b1), if_neg (by omega)]
    exact hno7
  rw [if_neg (fun e => b1 (u1.mp e))]
  by_cases b2 : 64 < w / 100
  · rw [if_pos (u2.mpr b2), if_neg (by omega)]
    exact hno7
  rw [if_neg (fun e => b2 (u2.mp e)), if_pos (show 1 ≤ w / 100 ∧ w / 100 ≤ 64 by omega)]
  by_cases b3 : w % 100 < 1
  · rw [if_pos (u3.mpr b3), if_neg (by omega)]
    exact hno7
  rw [if_neg (fun e => b3 (u3.mp e))]
  by_cases b4 : ¬ w % 100 ≤ 64
  · rw [if_neg (fun e => b4 (u4.mp e)), if_neg (by omega)]
    exact hno7
  replace b4 := Classical.not_not.mp b4
  rw [if_pos (u4.mpr b4), if_pos (show 1 ≤ w % 100 ∧ w % 100 ≤ 64 by omega)]
  obtain ⟨c, rfl⟩ := Int.eq_ofNat_of_zero_le hz.1
  rw [nm_cz (by omega) (by omega) (by omega), nm_l_eq, zI_cl (by omega) (by omega), Int.toNat_natCast]
  have d1 : zI q / (64 : Int32) = zI (q / 64) := by rw [show (64 : Int32) = zI 64 from rfl, zI_div (by omega) (by omega) (by omega) (by omega)]
  have d2 : zI q - zI q / (64 : Int32) * (64 : Int32) = zI (q % 64) := by rw [show (64 : Int32) = zI 64 from rfl, md (by omega) (by omega) (by omega) (by omega)]
  rw [nm_l_eq, nm_l_eq, nm_l_eq, nm_l_eq, d2, d1]
  have main : ∀ kd : Int, kd = 0 ∨ kd = 1 → simB K S.2 (if S.1.1 (1000 + 100 * c) 1 < (16 : Int32) then nm_s3 (f_X11_drawn (zI (c : Nat)) (mk_i [zI kd, zI l, zI q, nm_max (zI (q / 64)) 0, nm_min (zI (q / 64) + zI (w % 100) - (1 : Int32)) 63, 0]) (fun _ => f_X0_span (nm_max (zI (q % 64)) 0) (nm_min (zI (q % 64) + zI (w / 100) - (1 : Int32)) 63 - nm_max (zI (q % 64)) 0 + 1)) S.1) fun r M' pz => some (r, M', va_up K pz 6) else nm_s2 (f_X11_refuse (-8) S.1) fun r M' => some (r, M', K)) (nm_s2 (f_X12_adds (zI (c : Nat)) (zI kd) (zI l) (zI q) (zI w) (zI 0) I) fun r I' => some (r, I')) := by
    intro kd hkd
    have hrc : rcT (s7 kd l q w 0) = (q % 64, q / 64, w / 100, w % 100) := by
      unfold rcT
      simp only [show ∀ a b c d e, s7 a b c d e 0 = a from fun _ _ _ _ _ => rfl, show ∀ a b c d e, s7 a b c d e 1 = b from fun _ _ _ _ _ => rfl, show ∀ a b c d e, s7 a b c d e 2 = c from fun _ _ _ _ _ => rfl, show ∀ a b c d e, s7 a b c d e 3 = d from fun _ _ _ _ _ => rfl, show ∀ a b c d e, s7 a b c d e 4 = e from fun _ _ _ _ _ => rfl, show ∀ a b c d e, s7 a b c d e 5 = 300 from fun _ _ _ _ _ => rfl, show ∀ a b c d e, s7 a b c d e 6 = 300 from fun _ _ _ _ _ => rfl]
      rw [if_neg (by omega)]
    refine s_full h hcl hcO (by omega) (ci := 5) (a0 := kd) (a1 := l) (a2 := q) (a3 := w) (a4 := 0) ?_ (fun M' K' pz e1 e2 e3 => ?_)
    · unfold okS
      simp only [show ∀ a b c d e, s7 a b c d e 0 = a from fun _ _ _ _ _ => rfl, show ∀ a b c d e, s7 a b c d e 1 = b from fun _ _ _ _ _ => rfl, show ∀ a b c d e, s7 a b c d e 2 = c from fun _ _ _ _ _ => rfl, show ∀ a b c d e, s7 a b c d e 3 = d from fun _ _ _ _ _ => rfl, show ∀ a b c d e, s7 a b c d e 4 = e from fun _ _ _ _ _ => rfl, show ∀ a b c d e, s7 a b c d e 5 = 300 from fun _ _ _ _ _ => rfl, show ∀ a b c d e, s7 a b c d e 6 = 300 from fun _ _ _ _ _ => rfl]
      omega
    · have m1 : nm_max (zI (q / 64)) 0 = zI (max (q / 64) 0) := mm_max (a := q / 64) (b := 0) (by omega) (by omega) (by omega) (by omega)
      have m2 : nm_max (zI (q % 64)) 0 = zI (max (q % 64) 0) := mm_max (a := q % 64) (b := 0) (by omega) (by omega) (by omega) (by omega)
      have m3 : nm_min (zI (q / 64) + zI (w % 100) - (1 : Int32)) 63 = zI (min (q / 64 + w % 100 - 1) 63) := by
        rw [show (1 : Int32) = zI 1 from rfl, zI_add, zI_sub]
        exact mm_min (a := q / 64 + w % 100 - 1) (b := 63) (by omega) (by omega) (by omega) (by omega)
      have m4 : nm_min (zI (q % 64) + zI (w / 100) - (1 : Int32)) 63 - zI (max (q % 64) 0) + (1 : Int32) = zI (min (q % 64 + w / 100 - 1) 63 - max (q % 64) 0 + 1) := by
        rw [show (1 : Int32) = zI 1 from rfl, zI_add, zI_sub, show (63 : Int32) = zI 63 from rfl, mm_min (by omega) (by omega) (by omega) (by omega), zI_sub, zI_add]
      refine shM_ob e1 e2 e3 ?_ ?_ ?_ ?_ ?_ ?_ ?_ ?_ ?_ ?_ ?_ ?_ ?_
      · show kd ≠ 3
        omega
      · show kd ≠ 4
        omega
      · rfl
      · rfl
      · rfl
      · rw [hrc]
        exact m1
      · rw [hrc]
        exact m3
      · rw [hrc, m2, m4]
      · rw [hrc]
        show -10 ≤ q % 64
        omega
      · rw [hrc]
        show q % 64 ≤ 63
        omega
      · rw [hrc]
        show 1 ≤ w / 100
        omega
      · rw [hrc]
        show w / 100 ≤ 64
        omega
      · rw [hrc]
        show 1 ≤ q % 64 + w / 100
        omega
  rw [ehb]
  cases hole with
  | false =>
    rw [if_pos (show bq false = 0 by decide), if_pos (show bq false = 0 by decide)]
    exact main 0 (Or.inl rfl)
  | true =>
    rw [if_neg (show ¬ bq true = 0 by decide), if_neg (show ¬ bq true = 0 by decide)]
    exact main 1 (Or.inr rfl)
end
