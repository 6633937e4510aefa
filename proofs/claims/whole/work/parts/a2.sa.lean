/-! calls, told of both sides: wishes, rows -/
section
variable {S : ca} {K : Nat → Nat} {I : nm_I}
set_option maxHeartbeats 1000000 in
theorem s_wish (h : RR S K I) (x y : Int32) : simP K S.2 (f_X11_wish x y S.1) (f_X12_wish x y I) := by
  obtain ⟨z, z1, z2, rfl⟩ := zI_ex x
  obtain ⟨w, w1, w2, rfl⟩ := zI_ex y
  obtain ⟨hc, ⟨hA, hB, hU, hE, hJ, hG, hL, hZ⟩, D, T, fo, nets, dn, dev, hC, hF, hW⟩ := id h
  obtain ⟨ws, n, ⟨hn12, q1⟩, ⟨x0, x1⟩, ⟨y0, y1⟩, ⟨tv, t1, t2⟩, pv, p1, p2, p3⟩ := id hW
  have hno7 := simP_no h (x := -7) (b := -7) rfl (by decide) (by decide)
  unfold f_X11_wish f_X12_wish
  rw [isIn_z z1 z2, isIn_z w1 w2, show (0 : Int64).toInt = 0 by decide, show (13823 : Int64).toInt = 13823 by decide, show (4096 : Int64).toInt = 4096 by decide, iif, iif, show (13824 : Int32) = zI ((13824 : Nat) : Int) from rfl, out_z z1 z2 (by omega), oif, show (4096 : Int32) = zI 4096 from rfl]
  have hw0 : (zI w < 0) = (zI w < zI 0) := rfl
  simp only [hw0]
  simp (disch := omega) only [zI_lt, zI_le]
  by_cases hz : ¬ (0 ≤ z ∧ z < 13824)
  · rw [if_neg (by omega), if_neg (by omega)]
    exact hno7
  replace hz := Classical.not_not.mp hz
  rw [if_pos (show 0 ≤ z ∧ z < ((13824 : Nat) : Int) by omega), if_pos (show 0 ≤ z ∧ z ≤ 13823 by omega)]
  by_cases hw : ¬ (0 ≤ w ∧ w ≤ 4096)
  · rw [if_neg hw]
    by_cases hwn : w < 0
    · rw [if_pos hwn]
      exact hno7
    · rw [if_neg hwn, if_neg (by omega)]
      exact hno7
  replace hw := Classical.not_not.mp hw
  rw [if_pos hw, if_neg (by omega), if_pos hw.2, x0, y0, show (12 : Int32) = zI 12 from rfl]
  by_cases hn : n = 12
  · rw [if_neg (by
      rw [zI_lt (by omega) (by omega) (by omega) (by omega)]
      omega), if_pos (by rw [hn]; rfl)]
    exact simP_no h (b := -8) rfl (by decide) (by decide)
  rw [if_pos (by
    rw [zI_lt (by omega) (by omega) (by omega) (by omega)]
    omega), if_neg (by
    rw [zI_eq (by omega) (by omega) (by omega) (by omega)]
    omega)]
  obtain ⟨zn, rfl⟩ := Int.eq_ofNat_of_zero_le hz.1
  obtain ⟨wn, rfl⟩ := Int.eq_ofNat_of_zero_le hw.1
  unfold f_X10_add
  have hcn : ∀ {β : Type} (Kf : Option β), nm_c (zI (n : Nat)) 12 Kf = Kf := fun Kf => nm_cz (by omega) (by omega) (by omega)
  have hcl : (zI (n : Nat)).toNatClampNeg = n := by
    rw [zI_cl (by omega) (by omega), Int.toNat_natCast]
  have hinc : zI (n : Nat) + (1 : Int32) = zI ((n + 1 : Nat) : Int) := zI_inc _
  have hdec : zI ((n + 1 : Nat) : Int) - (1 : Int32) = zI (n : Nat) := by
    rw [show (1 : Int32) = zI 1 from rfl, zI_sub]
    exact congrArg zI (by omega)
  have g1 : zI (zn : Nat) / (576 : Int32) = zI ((zn / 576 : Nat) : Int) := by
    rw [show (576 : Int32) = zI 576 from rfl, zI_div (by omega) (by omega) (by omega) (by omega)]
    rfl
  have g2 : zI (zn : Nat) / (24 : Int32) - zI (zn : Nat) / (24 : Int32) / (24 : Int32) * (24 : Int32) = zI ((zn / 24 % 24 : Nat) : Int) := by
    rw [show (24 : Int32) = zI 24 from rfl, zI_div (by omega) (by omega) (by omega) (by omega), md (by omega) (by omega) (by omega) (by omega)]
    rfl
  have g3 : zI (zn : Nat) - zI (zn : Nat) / (24 : Int32) * (24 : Int32) = zI ((zn % 24 : Nat) : Int) := by
    rw [show (24 : Int32) = zI 24 from rfl, md (by omega) (by omega) (by omega) (by omega)]
    rfl
  obtain ⟨M1, m11, m12, m13, m14⟩ := nm_put S.1 401 n (zI (zn : Nat))
  obtain ⟨M2, m21, m22, m23, m24⟩ := nm_put M1 402 n (zI (wn : Nat))
  obtain ⟨M3, m31, m32, m33, m34⟩ := nm_put M2 400 0 (zI ((n + 1 : Nat) : Int))
  obtain ⟨M4, m41, m42, m43, m44⟩ := nm_put M3 400 3 0
  have c1 : M1.1 400 0 = zI (n : Nat) := (m13 _ _ (by omega)).trans x0
  have c2 : M2.1 400 0 = zI (n : Nat) := (m23 _ _ (by omega)).trans c1
  have c4 : M4.1 400 0 = zI ((n + 1 : Nat) : Int) := (m43 _ _ (by omega)).trans m32
  rw [x0, hcn, hcl, ← m11, nm_l_eq, c1, hcn, hcl, ← m21, nm_l_eq, c2, hinc, ← m31, nm_l_eq, ← m41, nm_l_eq, c4, hdec, nm_s2_some, g1, g2, g3]
  obtain ⟨I1, o11, o12, o13⟩ := nm_putO I 67 n (zI ((zn / 576 : Nat) : Int))
  obtain ⟨I2, o21, o22, o23⟩ := nm_putO I1 68 n (zI ((zn / 24 % 24 : Nat) : Int))
  obtain ⟨I3, o31, o32, o33⟩ := nm_putO I2 69 n (zI ((zn % 24 : Nat) : Int))
  obtain ⟨I4, o41, o42, o43⟩ := nm_putO I3 70 n (zI (wn : Nat))
  obtain ⟨I5, o51, o52, o53⟩ := nm_putO I4 0 70 (zI ((n + 1 : Nat) : Int))
  obtain ⟨I6, o61, o62, o63⟩ := nm_putO I5 0 72 0
  have d1 : I1 0 70 = zI (n : Nat) := (o13 _ _ (by omega)).trans y0
  have d2 : I2 0 70 = zI (n : Nat) := (o23 _ _ (by omega)).trans d1
  have d3 : I3 0 70 = zI (n : Nat) := (o33 _ _ (by omega)).trans d2
  have d4 : I4 0 70 = zI (n : Nat) := (o43 _ _ (by omega)).trans d3
  have d6 : I6 0 70 = zI ((n + 1 : Nat) : Int) := (o63 _ _ (by omega)).trans o52
  rw [hcn, ← o11, nm_l_eq, d1, hcn, hcl, ← o21, nm_l_eq, d2, hcn, hcl, ← o31, nm_l_eq, d3, hcn, hcl, ← o41, nm_l_eq, d4, hinc, ← o51, nm_l_eq, ← o61, nm_l_eq, d6, hdec]
  have hM42 : M4.2 = S.1.2 := by rw [m44, m34, m24, m14]
  have hM4 : M4 = (M4.1, S.1.2) := by rw [← hM42]
  rw [hM4]
  obtain ⟨A, hA9⟩ : ∃ A, A = M4.1 := ⟨_, rfl⟩
  rw [← hA9]
  have a0 : ∀ m j, ¬ (m = 400 ∧ (j = 0 ∨ j = 3)) → ¬ ((401 ≤ m ∧ m ≤ 402) ∧ j = n) → A m j = S.1.1 m j := fun m j h h2 => by rw [hA9, m43 m j (by omega), m33 m j (by omega), m23 m j (by omega), m13 m j (by omega)]
  have a2 : A 400 0 = zI ((n + 1 : Nat) : Int) := by rw [hA9, c4]
  have a4 : A 400 3 = 0 := by rw [hA9, m42]
  have a3 : A 401 n = zI (zn : Nat) ∧ A 402 n = zI (wn : Nat) := by
    rw [hA9]
    refine ⟨?_, ?_⟩
    · rw [m43 _ _ (by omega), m33 _ _ (by omega), m23 _ _ (by omega), m12]
    · rw [m43 _ _ (by omega), m33 _ _ (by omega), m22]
  have j0 : ∀ m j, ¬ (m = 0 ∧ (j = 70 ∨ j = 72)) → ¬ ((67 ≤ m ∧ m ≤ 70) ∧ j = n) → I6 m j = I m j := fun m j h h2 => by rw [o63 m j (by omega), o53 m j (by omega), o43 m j (by omega), o33 m j (by omega), o23 m j (by omega), o13 m j (by omega)]
  have j3 : I6 67 n = zI ((zn / 576 : Nat) : Int) ∧ I6 68 n = zI ((zn / 24 % 24 : Nat) : Int) ∧ I6 69 n = zI ((zn % 24 : Nat) : Int) ∧ I6 70 n = zI (wn : Nat) := by
    refine ⟨?_, ?_, ?_, ?_⟩
    · rw [o63 _ _ (by omega), o53 _ _ (by omega), o43 _ _ (by omega), o33 _ _ (by omega), o23 _ _ (by omega), o12]
    · rw [o63 _ _ (by omega), o53 _ _ (by omega), o43 _ _ (by omega), o33 _ _ (by omega), o22]
    · rw [o63 _ _ (by omega), o53 _ _ (by omega), o43 _ _ (by omega), o32]
    · rw [o63 _ _ (by omega), o53 _ _ (by omega), o42]
  clear hA9 hM4
  have hn : RW ((A, S.1.2), S.2) I6 fo nets dn dev := by
    refine ⟨fun i => if i = n then (zn / 576, zn / 24 % 24, zn % 24, wn) else ws i, n + 1, ⟨by omega, fun i hi => ?_⟩, ⟨a2, fun i hi => ?_⟩, ⟨d6, fun i hi => ?_⟩, ⟨tv, (a0 _ _ (by omega) (by omega)).trans t1, (j0 _ _ (by omega) (by omega)).trans t2⟩, false, a4, o62, fun e => absurd e (by decide)⟩
    · by_cases hin : i = n
      · simp only [if_pos hin]
        exact ⟨by omega, by omega, by omega, by omega⟩
      · simp only [if_neg hin]
        exact q1 i (by omega)
    · show A 401 i = _ ∧ A 402 i = _
      by_cases hin : i = n
      · simp only [if_pos hin]
        rw [hin]
        exact ⟨a3.1.trans (congrArg zI (by omega)), a3.2⟩
      · simp only [if_neg hin]
        rw [a0 _ _ (by omega) (by omega), a0 _ _ (by omega) (by omega)]
        exact x1 i (by omega)
    · by_cases hin : i = n
      · simp only [if_pos hin]
        rw [hin]
        exact j3
      · simp only [if_neg hin]
        rw [j0 _ _ (by omega) (by omega), j0 _ _ (by omega) (by omega), j0 _ _ (by omega) (by omega), j0 _ _ (by omega) (by omega)]
        exact y1 i (by omega)
  have a1 : ∀ m j, ¬ (400 ≤ m ∧ m ≤ 402) → A m j = S.1.1 m j := fun m j h => a0 m j (by omega) (by omega)
  have j1 : ∀ m j, ¬ ((m = 0 ∧ (j = 70 ∨ j = 72)) ∨ (67 ≤ m ∧ m ≤ 70)) → I6 m j = I m j := fun m j h => j0 m j (by omega) (by omega)
  exact ⟨zI (n : Nat), (A, S.1.2), I6, rfl, rfl, hc, ⟨RA_fr hA ⟨fun m j h => a1 m j (by omega), fun _ _ => rfl, fun _ _ => rfl⟩ (fun m j _ _ => j1 m j (by omega)), RB_fr hB (fun m j _ _ => a1 m j (by omega)) (fun m j _ _ => j1 m j (by omega)), RU_fr hU (fun m j _ _ => a1 m j (by omega)) rfl (fun m j _ => j1 m j (by omega)), RE_fr hE (a1 _ _ (by omega)) (fun j => j1 _ _ (by omega)), RJ_fr hJ (fun m j _ => a1 m j (by omega)) (fun m j _ => j1 m j (by omega)), RG_fr hG (fun j _ _ => a1 _ _ (by omega)) (fun j _ _ => j1 _ _ (by omega)), RLn_fr hL (a1 _ _ (by omega)) rfl (fun m j _ => j1 m j (by omega)), RZ_fr hZ (fun k => a1 _ _ (by omega)) (fun k => j1 _ _ (by omega))⟩, D, T, fo, nets, dn, dev, RC_fr hC (fun m j _ => a1 m j (by omega)) rfl (fun m j _ => j1 m j (by omega)), RF_fr hF (fun m j _ => a1 m j (by omega)) (fun _ _ => rfl) (fun _ _ _ => rfl) (fun m j _ => j1 m j (by omega)), hn⟩
theorem s_unwish (h : RR S K I) : simP K S.2 (f_X11_unwish S.1) (f_X12_unwish I) := by
  obtain ⟨hc, ⟨hA, hB, hU, hE, hJ, hG, hL, hZ⟩, D, T, fo, nets, dn, dev, hC, hF, hW⟩ := id h
  obtain ⟨ws, n, ⟨hn12, q1⟩, ⟨x0, x1⟩, ⟨y0, y1⟩, ⟨tv, t1, t2⟩, pv, p1, p2, p3⟩ := id hW
  unfold f_X11_unwish f_X12_unwish
  rw [x0, y0]
  simp only [nm_l_eq]
  obtain ⟨A, hA9⟩ : ∃ A, A = nm_up (nm_up S.1.1 400 0 0) 400 3 0 := ⟨_, rfl⟩
  obtain ⟨J, hJ9⟩ : ∃ J, J = nm_up (nm_up I 0 70 0) 0 72 0 := ⟨_, rfl⟩
  rw [← hA9, ← hJ9]
  have a1 : ∀ m j, ¬ (m = 400 ∧ (j = 0 ∨ j = 3)) → A m j = S.1.1 m j := fun m j h => by rw [hA9, nm_up_ap, if_neg (by omega), nm_up_ap, if_neg (by omega)]
  have a2 : A 400 0 = 0 ∧ A 400 3 = 0 := by
    rw [hA9]
    refine ⟨?_, ?_⟩
    · rw [nm_up_ap, if_neg (by omega), nm_up_ap, if_pos ⟨rfl, rfl⟩]
    · rw [nm_up_ap, if_pos ⟨rfl, rfl⟩]
  have j1 : ∀ m j, ¬ (m = 0 ∧ (j = 70 ∨ j = 72)) → J m j = I m j := fun m j h => by rw [hJ9, nm_up_ap, if_neg (by omega), nm_up_ap, if_neg (by omega)]
  have j2 : J 0 70 = 0 ∧ J 0 72 = 0 := by
    rw [hJ9]
    refine ⟨?_, ?_⟩
    · rw [nm_up_ap, if_neg (by omega), nm_up_ap, if_pos ⟨rfl, rfl⟩]
    · rw [nm_up_ap, if_pos ⟨rfl, rfl⟩]
  clear hA9 hJ9
  have hn : RW ((A, S.1.2), S.2) J fo nets dn dev := ⟨ws, 0, ⟨Nat.zero_le _, fun i hi => absurd hi (Nat.not_lt_zero _)⟩, ⟨a2.1, fun i hi => absurd hi (Nat.not_lt_zero _)⟩, ⟨j2.1, fun i hi => absurd hi (Nat.not_lt_zero _)⟩, ⟨tv, (a1 _ _ (by omega)).trans t1, (j1 _ _ (by omega)).trans t2⟩, false, a2.2, j2.2, fun e => absurd e (by decide)⟩
  exact ⟨zI (n : Nat), (A, S.1.2), J, rfl, rfl, hc, ⟨RA_fr hA ⟨fun m j h => a1 m j (by omega), fun _ _ => rfl, fun _ _ => rfl⟩ (fun m j _ _ => j1 m j (by omega)), RB_fr hB (fun m j _ _ => a1 m j (by omega)) (fun m j _ _ => j1 m j (by omega)), RU_fr hU (fun m j _ _ => a1 m j (by omega)) rfl (fun m j _ => j1 m j (by omega)), RE_fr hE (a1 _ _ (by omega)) (fun j => j1 _ _ (by omega)), RJ_fr hJ (fun m j _ => a1 m j (by omega)) (fun m j _ => j1 m j (by omega)), RG_fr hG (fun j _ _ => a1 _ _ (by omega)) (fun j _ _ => j1 _ _ (by omega)), RLn_fr hL (a1 _ _ (by omega)) rfl (fun m j _ => j1 m j (by omega)), RZ_fr hZ (fun k => a1 _ _ (by omega)) (fun k => j1 _ _ (by omega))⟩, D, T, fo, nets, dn, dev, RC_fr hC (fun m j _ => a1 m j (by omega)) rfl (fun m j _ => j1 m j (by omega)), RF_fr hF (fun m j _ => a1 m j (by omega)) (fun _ _ => rfl) (fun _ _ _ => rfl) (fun m j _ => j1 m j (by omega)), hn⟩
theorem s_lay (h : RR S K I) (x y : Int32) : simP K S.2 (f_X11_lay x y S.1) (f_X12_lay x y I) := by
  obtain ⟨z, z1, z2, rfl⟩ := zI_ex x
  obtain ⟨w, w1, w2, rfl⟩ := zI_ex y
  obtain ⟨hc, ⟨hA, hB, hU, hE, hJ, hG, hL, hZ⟩, D, T, fo, nets, dn, dev, hC, hF, hW⟩ := id h
  obtain ⟨⟨kn, k1, k2⟩, hD, hO, hT, hTO⟩ := id hC
  have hno3 := simP_no h (x := -3) (b := -3) rfl (by decide) (by decide)
  unfold f_X11_lay f_X12_lay
  rw [show (16 : Int32) = zI ((16 : Nat) : Int) from rfl, show (64 : Int32) = zI ((64 : Nat) : Int) from rfl, out_z z1 z2 (by omega), out_z w1 w2 (by omega), isLayer_z z1 z2, isIn63 w1 w2, oif, iif, oif, iif, k1, k2]
  by_cases hz : ¬ (0 ≤ z ∧ z < 16)
  · rw [if_neg (by omega), if_neg hz]
    exact hno3
  replace hz := Classical.not_not.mp hz
  rw [if_pos (show 0 ≤ z ∧ z < ((16 : Nat) : Int) by omega), if_pos hz]
  by_cases hw : ¬ (0 ≤ w ∧ w < 64)
  · rw [if_neg (by omega), if_neg (by omega)]
    exact hno3
  replace hw := Classical.not_not.mp hw
  rw [if_pos (show 0 ≤ w ∧ w < ((64 : Nat) : Int) by omega), if_pos (show 0 ≤ w ∧ w ≤ 63 by omega)]
  cases kn with
  | false => exact simP_no h (b := -2) rfl (by decide) (by decide)
  | true =>
    obtain ⟨l, rfl⟩ := Int.eq_ofNat_of_zero_le hz.1
    obtain ⟨q, rfl⟩ := Int.eq_ofNat_of_zero_le hw.1
    rw [if_neg (show ¬ bq true = 0 by decide), if_neg (show ¬ bq true = 0 by decide), zI_mul, zI_add, nm_cz (by omega) (by omega) (by omega), zI_cl (by omega) (by omega), show (((64 : Nat) : Int) * ((l : Nat) : Int) + ((q : Nat) : Int)).toNat = 64 * l + q by omega, nm_l_eq, nm_l_eq, nm_l_eq]
    obtain ⟨ln, hln⟩ : ∃ ln : Nat → Bool, ln = fun x => D (4096 * l + 64 * q + x) := ⟨_, rfl⟩
    have key : ∀ (f k : Nat) (Z : nm_I), k ≤ 64 → 64 - k < f → (∀ i, i < k → Z 78 i = bq (ln i)) → (∀ m j, m ≠ 78 → Z m j = nm_up I 0 79 1 m j) → wp (f_X12_lay_L50 (zI (l : Nat)) (zI (q : Nat)) f (zI ((pc ln k : Nat) : Int)) (zI (k : Nat)) Z) (fun r => r.1 = zI ((pc ln 64 : Nat) : Int) ∧ (∀ i, i < 64 → r.2 78 i = bq (ln i)) ∧ ∀ m j, m ≠ 78 → r.2 m j = nm_up I 0 79 1 m j) := by
      intro f
      induction f with
      | zero => intro k Z h1 h2; omega
      | succ f ih =>
        intro k Z hk hf hI hF9
        have hpc := pc_le ln k
        rw [f_X12_lay_L50, show (64 : Int32) = zI 64 from rfl, show (4096 : Int32) = zI 4096 from rfl]
        simp (disch := omega) only [zI_le]
        refine wp_if (fun h => ?_) (fun h => ?_)
        · have : k = 64 := by omega
          subst this
          exact wp_r ⟨rfl, hI, hF9⟩
        rw [zI_mul, zI_mul, zI_add, zI_add, nm_cz (by omega) (by omega) (by omega), zI_cl (by omega) (by omega), show (4096 * ((l : Nat) : Int) + 64 * ((q : Nat) : Int) + ((k : Nat) : Int)).toNat = 4096 * l + 64 * q + k by omega, hF9 _ _ (by omega), nm_up_n _ _ _ _ (show 20 ≠ 0 by omega), hO _ (by omega)]
        unfold f_X12_lay_J89
        have hcn : ∀ {β : Type} (Kf : Option β), nm_c (zI (k : Nat)) 64 Kf = Kf := fun Kf => nm_cz (by omega) (by omega) (by omega)
        have hcl : (zI (k : Nat)).toNatClampNeg = k := by
          rw [zI_cl (by omega) (by omega), Int.toNat_natCast]
        simp only [hcn, hcl]
        have hgo : ∀ b : Bool, b = ln k → wp (nm_l (nm_up Z 78 k (bq b)) fun I12 => nm_l (zI ((pc ln k : Nat) : Int) + I12 78 k) fun v14 => f_X12_lay_L50 (zI (l : Nat)) (zI (q : Nat)) f v14 (zI (k : Nat) + 1) I12) (fun r => r.1 = zI ((pc ln 64 : Nat) : Int) ∧ (∀ i, i < 64 → r.2 78 i = bq (ln i)) ∧ ∀ m j, m ≠ 78 → r.2 m j = nm_up I 0 79 1 m j) := by
          intro b hb
          rw [nm_l_eq, nm_l_eq, nm_up_ap, if_pos ⟨rfl, rfl⟩, zI_inc]
          have hsum : zI ((pc ln k : Nat) : Int) + bq b = zI ((pc ln (k + 1) : Nat) : Int) := by
            rw [pc_s, ← hb]
            cases b
            · rw [show bq false = zI 0 from rfl, zI_add]
              exact congrArg zI (by simp)
            · rw [show bq true = zI 1 from rfl, zI_add]
              rfl
          rw [hsum]
          refine ih (k + 1) _ (by omega) (by omega) (fun i hi => ?_) (fun m j hm => ?_)
          · rw [nm_up_ap]
            by_cases hik : i = k
            · rw [if_pos ⟨rfl, hik⟩, hik, hb]
            · rw [if_neg (fun e => hik e.2)]
              exact hI i (by omega)
          · rw [nm_up_ap, if_neg (fun e => hm e.1)]
            exact hF9 m j hm
        have hlk : ln k = D (4096 * l + 64 * q + k) := by rw [hln]
        cases hd : D (4096 * l + 64 * q + k) with
        | false => exact hgo false (by rw [hlk, hd])
        | true => exact hgo true (by rw [hlk, hd])
    obtain ⟨r, er, k3, k4, k5⟩ := key nm_F 0 (nm_up I 0 79 1) (by omega) (by rw [nm_F_eq]; omega) (fun i hi => absurd hi (Nat.not_lt_zero _)) (fun _ _ _ => rfl)
    have er' : f_X12_lay_L50 (zI (l : Nat)) (zI (q : Nat)) nm_F 0 0 (nm_up I 0 79 1) = some (r.1, r.2) := er
    rw [er', nm_s2_some]
    obtain ⟨A, hA9⟩ : ∃ A, A = nm_up S.1.1 0 8 (1 : Int32) := ⟨_, rfl⟩
    obtain ⟨B, hB9⟩ : ∃ B, B = nm_upJ S.1.2 0 7 (S.1.2 101 (64 * l + q)) := ⟨_, rfl⟩
    show simP K S.2 (some (f_J13_bitCount_95d88 (nm_upJ S.1.2 0 7 (S.1.2 101 (64 * l + q)) 0 7), (nm_up S.1.1 0 8 (1 : Int32), nm_upJ S.1.2 0 7 (S.1.2 101 (64 * l + q))))) _
    rw [← hA9, ← hB9]
    have a1 : ∀ m j, ¬ (m = 0 ∧ j = 8) → A m j = S.1.1 m j := fun m j h => by rw [hA9, nm_up_ap, if_neg h]
    have a2 : A 0 8 = 1 := by rw [hA9, nm_up_ap, if_pos ⟨rfl, rfl⟩]
    have b1 : ∀ m, m ≠ 0 → B m = S.1.2 m := fun m h => by rw [hB9, nm_upJ_n _ _ _ _ h]
    have b2 : B 0 7 = S.1.2 101 (64 * l + q) := by rw [hB9, nm_upJ_ap, if_pos ⟨rfl, rfl⟩]
    clear hA9 hB9
    have j1 : ∀ m j, ¬ (m = 78 ∨ (m = 0 ∧ j = 79)) → r.2 m j = I m j := fun m j h => by rw [k5 m j (by omega), nm_up_ap, if_neg (by omega)]
    have j2 : r.2 0 79 = 1 := by rw [k5 _ _ (by omega), nm_up_ap, if_pos ⟨rfl, rfl⟩]
    have hbits : ∀ x, x < 64 → bx (B 0 7) x = ln x := fun x hx => by
      rw [b2, hD _ _ (by omega) hx, hln]
      exact congrArg D (by omega)
    have hn : RLn ((A, B), S.2) r.2 := ⟨true, a2, j2, fun _ => ⟨ln, fun x hx => ⟨hbits x hx, k4 x hx⟩⟩⟩
    have hA' : RA ((A, B), S.2) K r.2 := RA_fr hA ⟨fun m j h => a1 m j (by omega), fun m h => b1 m (by omega), fun _ _ => rfl⟩ (fun m j _ _ => j1 m j (by omega))
    refine ⟨r.1, (A, B), r.2, ?_, rfl, hc, ⟨hA', RB_fr hB (fun m j _ _ => a1 m j (by omega)) (fun m j _ _ => j1 m j (by omega)), RU_fr hU (fun m j _ _ => a1 m j (by omega)) rfl (fun m j _ => j1 m j (by omega)), RE_fr hE (a1 _ _ (by omega)) (fun j => j1 _ _ (by omega)), RJ_fr hJ (fun m j _ => a1 m j (by omega)) (fun m j _ => j1 m j (by omega)), RG_fr hG (fun j _ _ => a1 _ _ (by omega)) (fun j _ _ => j1 _ _ (by omega)), hn, RZ_fr hZ (fun k => a1 _ _ (by omega)) (fun k => j1 _ _ (by omega))⟩, D, T, fo, nets, dn, dev, RC_fr hC (fun m j _ => a1 m j (by omega)) (b1 101 (by omega)) (fun m j _ => j1 m j (by omega)), RF_fr hF (fun m j _ => a1 m j (by omega)) (fun m _ => b1 m (by omega)) (fun _ _ _ => rfl) (fun m j _ => j1 m j (by omega)), RW_fr hW (fun m j _ _ => a1 m j (by omega)) (fun m j _ => j1 m j (by omega))⟩
    rw [k3, bc_eq, pc_congr hbits]
end
