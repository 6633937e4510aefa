/-! calls, told of both sides: paths -/
section
variable {S : ca} {K : Nat → Nat} {I : nm_I}
theorem s_pathJ (h : RR S K I) {c : Nat} (hc8 : c < 8) {l q r w : Int} (hl : 0 ≤ l ∧ l ≤ 7) (hq : 0 ≤ q ∧ q < 4096) (hr : 0 ≤ r ∧ r < 4096) (w1 : -2147483648 ≤ w) (w2 : w < 2147483648) {fl : Bool} (hfl : fl = decide (q / 64 = r / 64)) (hline : q / 64 = r / 64 ∨ q % 64 = r % 64) : simB K S.2 (f_X11_path_J94 K (zI (c : Nat)) (zI l) (zI q) (zI r) (zI w) (bq fl) S.1) (f_X12_path_J65 (zI (c : Nat)) (zI l) (zI q) (zI r) (zI w) I) := by
  obtain ⟨sd, cnt, hcl, hcO⟩ := id h.2.1.1
  have hno7 := simB_no h (x := -7) (b := -7) rfl (by decide) (by decide)
  unfold f_X11_path_J94 f_X12_path_J65
  have u1 : zI w < (1 : Int32) ↔ w < 1 := by rw [show (1 : Int32) = zI 1 from rfl, zI_lt (by omega) (by omega) (by omega) (by omega)]
  have u2 : zI w ≤ (9 : Int32) ↔ w ≤ 9 := by rw [show (9 : Int32) = zI 9 from rfl, zI_le (by omega) (by omega) (by omega) (by omega)]
  rw [isIn_z w1 w2, iif, show (1 : Int64).toInt = 1 by decide, show (9 : Int64).toInt = 9 by decide]
  by_cases b1 : w < 1
  · rw [if_pos (u1.mpr b1), if_neg (by omega)]
    exact hno7
  rw [if_neg (fun e => b1 (u1.mp e))]
  by_cases b2 : ¬ w ≤ 9
  · rw [if_neg (fun e => b2 (u2.mp e)), if_neg (by omega)]
    exact hno7
  replace b2 := Classical.not_not.mp b2
  have v22 : (zI w - (1 : Int32)) / (2 : Int32) = zI ((w - 1) / 2) := by rw [show (1 : Int32) = zI 1 from rfl, zI_sub, show (2 : Int32) = zI 2 from rfl, zI_div (by omega) (by omega) (by omega) (by omega)]
  have v23 : zI w / (2 : Int32) = zI (w / 2) := by rw [show (2 : Int32) = zI 2 from rfl, zI_div (by omega) (by omega) (by omega) (by omega)]
  have v24 : nm_min (zI q) (zI r) = zI (min q r) := mm_min (by omega) (by omega) (by omega) (by omega)
  have v25 : nm_max (zI q) (zI r) = zI (max q r) := mm_max (by omega) (by omega) (by omega) (by omega)
  have dv : ∀ a : Int, 0 ≤ a → a < 4096 → zI a / (64 : Int32) = zI (a / 64) := fun a h1 h2 => by rw [show (64 : Int32) = zI 64 from rfl, zI_div (by omega) (by omega) (by omega) (by omega)]
  have dm : ∀ a : Int, 0 ≤ a → a < 4096 → zI a - zI (a / 64) * (64 : Int32) = zI (a % 64) := fun a h1 h2 => by rw [← dv a h1 h2, show (64 : Int32) = zI 64 from rfl, md (by omega) (by omega) (by omega) (by omega)]
  rw [if_pos (u2.mpr b2), if_pos (show 1 ≤ w ∧ w ≤ 9 by omega), nm_cz (by omega) (by omega) (by omega), nm_l_eq, zI_cl (by omega) (by omega), Int.toNat_natCast, nm_l_eq, nm_l_eq, nm_l_eq, nm_l_eq, nm_l_eq, nm_l_eq, v22, v23, v24, v25, dv _ (by omega) (by omega), dv _ (by omega) (by omega), dm _ (by omega) (by omega), dm _ (by omega) (by omega)]
  obtain ⟨s, hs⟩ : ∃ s, s = s7 2 l q r w := ⟨_, rfl⟩
  have hok : okS c (s7 2 l q r w) := by
    unfold okS
    simp only [show ∀ a b c d e, s7 a b c d e 0 = a from fun _ _ _ _ _ => rfl, show ∀ a b c d e, s7 a b c d e 1 = b from fun _ _ _ _ _ => rfl, show ∀ a b c d e, s7 a b c d e 2 = c from fun _ _ _ _ _ => rfl, show ∀ a b c d e, s7 a b c d e 3 = d from fun _ _ _ _ _ => rfl, show ∀ a b c d e, s7 a b c d e 4 = e from fun _ _ _ _ _ => rfl, show ∀ a b c d e, s7 a b c d e 5 = 300 from fun _ _ _ _ _ => rfl, show ∀ a b c d e, s7 a b c d e 6 = 300 from fun _ _ _ _ _ => rfl]
    omega
  have hrc : rcT (s7 2 l q r w) = if q / 64 = r / 64 then (min (q % 64) (r % 64), q / 64 - (w - 1) / 2, max (q % 64) (r % 64) - min (q % 64) (r % 64) + 1, w) else (q % 64 - (w - 1) / 2, min (q / 64) (r / 64), w, max (q / 64) (r / 64) - min (q / 64) (r / 64) + 1) := by
    unfold rcT
    simp only [show ∀ a b c d e, s7 a b c d e 0 = a from fun _ _ _ _ _ => rfl, show ∀ a b c d e, s7 a b c d e 1 = b from fun _ _ _ _ _ => rfl, show ∀ a b c d e, s7 a b c d e 2 = c from fun _ _ _ _ _ => rfl, show ∀ a b c d e, s7 a b c d e 3 = d from fun _ _ _ _ _ => rfl, show ∀ a b c d e, s7 a b c d e 4 = e from fun _ _ _ _ _ => rfl, show ∀ a b c d e, s7 a b c d e 5 = 300 from fun _ _ _ _ _ => rfl, show ∀ a b c d e, s7 a b c d e 6 = 300 from fun _ _ _ _ _ => rfl]
    rw [if_pos True.intro]
    by_cases he : q / 64 = r / 64
    · rw [if_pos (by omega), if_pos he, show min (q / 64) (r / 64) = q / 64 by omega]
    · rw [if_neg (by omega), if_neg he, show min (q % 64) (r % 64) = q % 64 by omega]
  clear hs
  have m1 : ∀ a b : Int, -100000 ≤ a → a < 100000 → zI a - zI b = zI (a - b) := fun a b _ _ => zI_sub a b
  by_cases hf : q / 64 = r / 64
  · rw [if_neg (show ¬ bq fl = 0 by rw [hfl, decide_eq_true hf]; decide)]
    rw [if_pos hf] at hrc
    refine s_full h hcl hcO hc8 (ci := 5) (a0 := 2) (a1 := l) (a2 := q) (a3 := r) (a4 := w) hok (fun M' K' pz e1 e2 e3 => ?_)
    refine shM_ob e1 e2 e3 (show (2 : Int) ≠ 3 by decide) (show (2 : Int) ≠ 4 by decide) rfl rfl rfl ?_ ?_ ?_ ?_ ?_ ?_ ?_ ?_
    · rw [hrc, zI_sub]
      show nm_max (zI (min q r / 64 - (w - 1) / 2)) (zI 0) = zI (max (q / 64 - (w - 1) / 2) 0)
      rw [mm_max (by omega) (by omega) (by omega) (by omega)]
      exact congrArg zI (by omega)
    · rw [hrc, zI_add]
      show nm_min (zI (min q r / 64 + w / 2)) (zI 63) = zI (min (q / 64 - (w - 1) / 2 + w - 1) 63)
      rw [mm_min (by omega) (by omega) (by omega) (by omega)]
      exact congrArg zI (by omega)
    · rw [hrc]
      show f_X0_span (nm_max (zI (min q r % 64)) (zI 0)) (nm_min (zI (max q r % 64)) (zI 63) - nm_max (zI (min q r % 64)) (zI 0) + zI 1) = f_X0_span (zI (max (min (q % 64) (r % 64)) 0)) (zI (min (min (q % 64) (r % 64) + (max (q % 64) (r % 64) - min (q % 64) (r % 64) + 1) - 1) 63 - max (min (q % 64) (r % 64)) 0 + 1))
      rw [mm_max (by omega) (by omega) (by omega) (by omega), mm_min (by omega) (by omega) (by omega) (by omega), zI_sub, zI_add]
      rw [show max (min q r % 64) 0 = max (min (q % 64) (r % 64)) 0 by omega, show min (max q r % 64) 63 - max (min (q % 64) (r % 64)) 0 + 1 = min (min (q % 64) (r % 64) + (max (q % 64) (r % 64) - min (q % 64) (r % 64) + 1) - 1) 63 - max (min (q % 64) (r % 64)) 0 + 1 by omega]
    · rw [hrc]
      show -10 ≤ min (q % 64) (r % 64)
      omega
    · rw [hrc]
      show min (q % 64) (r % 64) ≤ 63
      omega
    · rw [hrc]
      show 1 ≤ max (q % 64) (r % 64) - min (q % 64) (r % 64) + 1
      omega
    · rw [hrc]
      show max (q % 64) (r % 64) - min (q % 64) (r % 64) + 1 ≤ 64
      omega
    · rw [hrc]
      show 1 ≤ min (q % 64) (r % 64) + (max (q % 64) (r % 64) - min (q % 64) (r % 64) + 1)
      omega
  · have hcol : q % 64 = r % 64 := hline.resolve_left hf
    rw [if_pos (show bq fl = 0 by rw [hfl, decide_eq_false hf]; decide)]
    rw [if_neg hf] at hrc
    refine s_full h hcl hcO hc8 (ci := 5) (a0 := 2) (a1 := l) (a2 := q) (a3 := r) (a4 := w) hok (fun M' K' pz e1 e2 e3 => ?_)
    refine shM_ob e1 e2 e3 (show (2 : Int) ≠ 3 by decide) (show (2 : Int) ≠ 4 by decide) rfl rfl rfl ?_ ?_ ?_ ?_ ?_ ?_ ?_ ?_
    · rw [hrc]
      show nm_max (zI (min q r / 64)) (zI 0) = zI (max (min (q / 64) (r / 64)) 0)
      rw [mm_max (by omega) (by omega) (by omega) (by omega)]
      exact congrArg zI (by omega)
    · rw [hrc]
      show nm_min (zI (max q r / 64)) (zI 63) = zI (min (min (q / 64) (r / 64) + (max (q / 64) (r / 64) - min (q / 64) (r / 64) + 1) - 1) 63)
      rw [mm_min (by omega) (by omega) (by omega) (by omega)]
      exact congrArg zI (by omega)
    · rw [hrc]
      show f_X0_span (nm_max (zI (min q r % 64) - zI ((w - 1) / 2)) (zI 0)) (nm_min (zI (min q r % 64) + zI (w / 2)) (zI 63) - nm_max (zI (min q r % 64) - zI ((w - 1) / 2)) (zI 0) + zI 1) = f_X0_span (zI (max (q % 64 - (w - 1) / 2) 0)) (zI (min (q % 64 - (w - 1) / 2 + w - 1) 63 - max (q % 64 - (w - 1) / 2) 0 + 1))
      rw [zI_sub, zI_add, mm_max (by omega) (by omega) (by omega) (by omega), mm_min (by omega) (by omega) (by omega) (by omega), zI_sub, zI_add]
      rw [show max (min q r % 64 - (w - 1) / 2) 0 = max (q % 64 - (w - 1) / 2) 0 by omega, show min (min q r % 64 + w / 2) 63 = min (q % 64 - (w - 1) / 2 + w - 1) 63 by omega]
    · rw [hrc]
      show -10 ≤ q % 64 - (w - 1) / 2
      omega
    · rw [hrc]
      show q % 64 - (w - 1) / 2 ≤ 63
      omega
    · rw [hrc]
      show 1 ≤ w
      omega
    · rw [hrc]
      show w ≤ 64
      omega
    · rw [hrc]
      show 1 ≤ q % 64 - (w - 1) / 2 + w
      omega
theorem s_path (h : RR S K I) (x y u v t : Int32) : simB K S.2 (f_X11_path K x y u v t S.1) (f_X12_path x y u v t I) := by
  obtain ⟨z, z1, z2, rfl⟩ := zI_ex x
  obtain ⟨l, l1, l2, rfl⟩ := zI_ex y
  obtain ⟨q, q1, q2, rfl⟩ := zI_ex u
  obtain ⟨r, r1, r2, rfl⟩ := zI_ex v
  obtain ⟨w, w1, w2, rfl⟩ := zI_ex t
  have hno3 := simB_no h (x := -3) (b := -3) rfl (by decide) (by decide)
  have hno7 := simB_no h (x := -7) (b := -7) rfl (by decide) (by decide)
  unfold f_X11_path f_X12_path
  rw [show ∀ z, f_X11_outside (zI z) 8 = f_X11_outside (zI z) (zI ((8 : Nat) : Int)) from fun _ => rfl, show ∀ z, f_X11_outside (zI z) 8 = f_X11_outside (zI z) (zI ((8 : Nat) : Int)) from fun _ => rfl, show f_X11_outside (zI q) 4096 = f_X11_outside (zI q) (zI ((4096 : Nat) : Int)) from rfl, show f_X11_outside (zI r) 4096 = f_X11_outside (zI r) (zI ((4096 : Nat) : Int)) from rfl, out_z z1 z2 (by omega), out_z l1 l2 (by omega), out_z q1 q2 (by omega), out_z r1 r2 (by omega), oif, oif, oif, oif, isCell_i z1 z2, isIn_z l1 l2, isSquare_z q1 q2, isSquare_z r1 r2, iif, iif, iif, iif, show (0 : Int64).toInt = 0 by decide, show (7 : Int64).toInt = 7 by decide]
  by_cases hz : ¬ (0 ≤ z ∧ z < 8)
  · rw [if_neg (by omega), if_neg hz]
    exact hno3
  replace hz := Classical.not_not.mp hz
  rw [if_pos (show 0 ≤ z ∧ z < ((8 : Nat) : Int) by omega), if_pos hz]
  by_cases hl : ¬ (0 ≤ l ∧ l ≤ 7)
  · rw [if_neg (by omega), if_neg hl]
    exact hno3
  replace hl := Classical.not_not.mp hl
  rw [if_pos (show 0 ≤ l ∧ l < ((8 : Nat) : Int) by omega), if_pos hl]
  by_cases hq : ¬ (0 ≤ q ∧ q < 4096)
  · rw [if_neg (by omega), if_neg hq]
    exact hno3
  replace hq := Classical.not_not.mp hq
  rw [if_pos (show 0 ≤ q ∧ q < ((4096 : Nat) : Int) by omega), if_pos hq]
  by_cases hr : ¬ (0 ≤ r ∧ r < 4096)
  · rw [if_neg (by omega), if_neg hr]
    exact hno3
  replace hr := Classical.not_not.mp hr
  rw [if_pos (show 0 ≤ r ∧ r < ((4096 : Nat) : Int) by omega), if_pos hr]
  obtain ⟨c, rfl⟩ := Int.eq_ofNat_of_zero_le hz.1
  have d1 : ∀ a : Int, 0 ≤ a → a < 4096 → zI a / (64 : Int32) = zI (a / 64) := fun a h1 h2 => by rw [show (64 : Int32) = zI 64 from rfl, zI_div (by omega) (by omega) (by omega) (by omega)]
  have d2 : ∀ a : Int, 0 ≤ a → a < 4096 → zI a - zI a / (64 : Int32) * (64 : Int32) = zI (a % 64) := fun a h1 h2 => by rw [show (64 : Int32) = zI 64 from rfl, md (by omega) (by omega) (by omega) (by omega)]
  have eR : zI q / (64 : Int32) = zI r / (64 : Int32) ↔ q / 64 = r / 64 := by rw [d1 q hq.1 hq.2, d1 r hr.1 hr.2, zI_eq (by omega) (by omega) (by omega) (by omega)]
  have eC : zI q - zI q / (64 : Int32) * (64 : Int32) = zI r - zI r / (64 : Int32) * (64 : Int32) ↔ q % 64 = r % 64 := by rw [d2 q hq.1 hq.2, d2 r hr.1 hr.2, zI_eq (by omega) (by omega) (by omega) (by omega)]
  have hc8 : c < 8 := by omega
  unfold f_X11_path_J63 f_X11_path_J82
  rw [if_neg (show ¬ (1 : Int32) = 0 by decide), if_pos (show (0 : Int32) = 0 from rfl)]
  by_cases hf : q / 64 = r / 64
  · have := s_pathJ h hc8 hl hq hr w1 w2 (fl := true) (decide_eq_true hf).symm (Or.inl hf)
    rw [if_pos (eR.mpr hf), if_pos (eR.mpr hf)]
    by_cases hg : q % 64 = r % 64
    · rw [if_pos (eC.mpr hg)]
      exact this
    · rw [if_neg (fun e => hg (eC.mp e))]
      exact this
  · rw [if_neg (fun e => hf (eR.mp e)), if_neg (fun e => hf (eR.mp e))]
    by_cases hg : q % 64 = r % 64
    · rw [if_pos (eC.mpr hg), if_pos (eC.mpr hg)]
      exact s_pathJ h hc8 hl hq hr w1 w2 (fl := false) (decide_eq_false hf).symm (Or.inr hg)
    · rw [if_neg (fun e => hg (eC.mp e)), if_neg (fun e => hg (eC.mp e))]
      exact hno7
end
