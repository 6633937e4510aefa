/-! calls, told of both sides: rules, faults -/
section
variable {S : ca} {K : Nat → Nat} {I : nm_I}
set_option maxHeartbeats 1000000 in
theorem s_ruleT (h : RR S K I) {kd a vn : Nat} (hkd : kd ≤ 4) (ha : a < 16) (hv : vn ≤ 4096) (x3 : Int32) (h2 : kd = 2 → vn ≤ 9 ∧ ∃ b : Nat, b < 16 ∧ x3 = zI (b : Nat)) :
    simP K S.2 (if (S.1.1 200 0) < (16 : Int32) then nm_s2 (f_X8_add (zI (kd : Nat)) (zI (a : Nat)) x3 (zI (vn : Nat)) S.1) fun r18 M16 => some (r18, M16) else nm_s2 (f_X11_refuse (-8 : Int32) S.1) fun r21 M19 => some (r21, M19))
      (if (I 0 39) = (16 : Int32) then nm_s2 (f_X12_no (-8 : Int32) I) fun r19 I17 => some (r19, I17) else nm_c (I 0 39) 16 (nm_l (nm_up I 36 ((I 0 39).toNatClampNeg) (zI (kd : Nat))) fun I9 => nm_c (I9 0 39) 16 (nm_l (nm_up I9 37 ((I9 0 39).toNatClampNeg) (zI (a : Nat))) fun I11 => nm_c (I11 0 39) 16 (nm_l (nm_up I11 38 ((I11 0 39).toNatClampNeg) x3) fun I13 => nm_c (I13 0 39) 16 (nm_l (nm_up I13 39 ((I13 0 39).toNatClampNeg) (zI (vn : Nat))) fun I15 => nm_l (nm_up I15 0 39 ((I15 0 39) + (1 : Int32))) fun I16 => some ((I16 0 39) - (1 : Int32), I16)))))) := by
  obtain ⟨hc, ⟨hA, hB, hU, hE, hJ, hG, hL, hZ⟩, D, T, fo, nets, dn, dev, hC, hF, hW⟩ := id h
  obtain ⟨q, n, ⟨q0, q1⟩, ⟨x0, x1⟩, ⟨y0, y1⟩, ran, r1, r2, r3⟩ := id hU
  rw [x0, y0, show (16 : Int32) = zI 16 from rfl]
  by_cases hn16 : n = 16
  · rw [if_neg (by
      rw [zI_lt (by omega) (by omega) (by omega) (by omega)]
      omega), if_pos (by rw [hn16]; rfl)]
    exact simP_no h (b := -8) rfl (by decide) (by decide)
  rw [if_pos (by
    rw [zI_lt (by omega) (by omega) (by omega) (by omega)]
    omega), if_neg (by
    rw [zI_eq (by omega) (by omega) (by omega) (by omega)]
    omega)]
  unfold f_X8_add
  obtain ⟨M1, m11, m12, m13, m14⟩ := nm_put S.1 204 n (zI (kd : Nat))
  obtain ⟨M2, m21, m22, m23, m24⟩ := nm_put M1 205 n (zI (a : Nat))
  obtain ⟨M3, m31, m32, m33, m34⟩ := nm_put M2 206 n x3
  obtain ⟨M4, m41, m42, m43, m44⟩ := nm_put M3 207 n (zI (vn : Nat))
  obtain ⟨M5, m51, m52, m53, m54⟩ := nm_put M4 200 0 (zI ((n + 1 : Nat) : Int))
  have c1 : M1.1 200 0 = zI (n : Nat) := (m13 _ _ (by omega)).trans x0
  have c2 : M2.1 200 0 = zI (n : Nat) := (m23 _ _ (by omega)).trans c1
  have c3 : M3.1 200 0 = zI (n : Nat) := (m33 _ _ (by omega)).trans c2
  have c4 : M4.1 200 0 = zI (n : Nat) := (m43 _ _ (by omega)).trans c3
  have hcn : ∀ {β : Type} (Kf : Option β), nm_c (zI (n : Nat)) 16 Kf = Kf := fun Kf => nm_cz (by omega) (by omega) (by omega)
  have hcl : (zI (n : Nat)).toNatClampNeg = n := by
    rw [zI_cl (by omega) (by omega), Int.toNat_natCast]
  have hinc : zI (n : Nat) + (1 : Int32) = zI ((n + 1 : Nat) : Int) := zI_inc _
  have hdec : zI ((n + 1 : Nat) : Int) - (1 : Int32) = zI (n : Nat) := by
    rw [show (1 : Int32) = zI 1 from rfl, zI_sub]
    exact congrArg zI (by omega)
  rw [x0, hcn, hcl, ← m11, nm_l_eq, c1, hcn, hcl, ← m21, nm_l_eq, c2, hcn, hcl, ← m31, nm_l_eq, c3, hcn, hcl, ← m41, nm_l_eq, c4, hinc, ← m51, nm_l_eq, m52, hdec, nm_s2_some]
  obtain ⟨I1, o11, o12, o13⟩ := nm_putO I 36 n (zI (kd : Nat))
  obtain ⟨I2, o21, o22, o23⟩ := nm_putO I1 37 n (zI (a : Nat))
  obtain ⟨I3, o31, o32, o33⟩ := nm_putO I2 38 n x3
  obtain ⟨I4, o41, o42, o43⟩ := nm_putO I3 39 n (zI (vn : Nat))
  obtain ⟨I5, o51, o52, o53⟩ := nm_putO I4 0 39 (zI ((n + 1 : Nat) : Int))
  have d1 : I1 0 39 = zI (n : Nat) := (o13 _ _ (by omega)).trans y0
  have d2 : I2 0 39 = zI (n : Nat) := (o23 _ _ (by omega)).trans d1
  have d3 : I3 0 39 = zI (n : Nat) := (o33 _ _ (by omega)).trans d2
  have d4 : I4 0 39 = zI (n : Nat) := (o43 _ _ (by omega)).trans d3
  rw [hcn, ← o11, nm_l_eq, d1, hcn, hcl, ← o21, nm_l_eq, d2, hcn, hcl, ← o31, nm_l_eq, d3, hcn, hcl, ← o41, nm_l_eq, d4, hinc, ← o51, nm_l_eq, o52, hdec]
  have hM52 : M5.2 = S.1.2 := by rw [m54, m44, m34, m24, m14]
  have hM5 : M5 = (M5.1, S.1.2) := by rw [← hM52]
  rw [hM5]
  obtain ⟨A, hA9⟩ : ∃ A, A = M5.1 := ⟨_, rfl⟩
  rw [← hA9]
  have a0 : ∀ m j, ¬ (m = 200 ∧ j = 0) → ¬ ((204 ≤ m ∧ m ≤ 207) ∧ j = n) → A m j = S.1.1 m j := fun m j h h2 => by rw [hA9, m53 m j h, m43 m j (by omega), m33 m j (by omega), m23 m j (by omega), m13 m j (by omega)]
  have a2 : A 200 0 = zI ((n + 1 : Nat) : Int) := by rw [hA9, m52]
  have a3 : A 204 n = zI (kd : Nat) ∧ A 205 n = zI (a : Nat) ∧ A 206 n = x3 ∧ A 207 n = zI (vn : Nat) := by
    rw [hA9]
    refine ⟨?_, ?_, ?_, ?_⟩
    · rw [m53 _ _ (by omega), m43 _ _ (by omega), m33 _ _ (by omega), m23 _ _ (by omega), m12]
    · rw [m53 _ _ (by omega), m43 _ _ (by omega), m33 _ _ (by omega), m22]
    · rw [m53 _ _ (by omega), m43 _ _ (by omega), m32]
    · rw [m53 _ _ (by omega), m42]
  have j0 : ∀ m j, ¬ (m = 0 ∧ j = 39) → ¬ ((36 ≤ m ∧ m ≤ 39) ∧ j = n) → I5 m j = I m j := fun m j h h2 => by rw [o53 m j h, o43 m j (by omega), o33 m j (by omega), o23 m j (by omega), o13 m j (by omega)]
  have j3 : I5 36 n = zI (kd : Nat) ∧ I5 37 n = zI (a : Nat) ∧ I5 38 n = x3 ∧ I5 39 n = zI (vn : Nat) := by
    refine ⟨?_, ?_, ?_, ?_⟩
    · rw [o53 _ _ (by omega), o43 _ _ (by omega), o33 _ _ (by omega), o23 _ _ (by omega), o12]
    · rw [o53 _ _ (by omega), o43 _ _ (by omega), o33 _ _ (by omega), o22]
    · rw [o53 _ _ (by omega), o43 _ _ (by omega), o32]
    · rw [o53 _ _ (by omega), o42]
  clear hA9 hM5
  obtain ⟨bn, hbn⟩ : ∃ bn : Nat, kd = 2 → bn < 16 ∧ x3 = zI (bn : Nat) := by
    by_cases hk2 : kd = 2
    · obtain ⟨_, b, hb⟩ := h2 hk2
      exact ⟨b, fun _ => hb⟩
    · exact ⟨0, fun e => absurd e hk2⟩
  have hn : RU ((A, S.1.2), S.2) I5 := by
    refine ⟨fun i => if i = n then (kd, a, bn, vn) else q i, n + 1, ⟨by omega, fun i hi => ?_⟩, ⟨a2, fun i hi => ?_⟩, ⟨o52, fun i hi => ?_⟩, ran, (a0 _ _ (by omega) (by omega)).trans r1, (j0 _ _ (by omega) (by omega)).trans r2, fun hr => ?_⟩
    · by_cases hin : i = n
      · simp only [if_pos hin]
        exact ⟨hkd, ha, fun e => ⟨(hbn e).1, (h2 e).1⟩, hv⟩
      · simp only [if_neg hin]
        exact q1 i (by omega)
    · show A 204 i = _ ∧ A 205 i = _ ∧ (_ → A 206 i = _) ∧ A 207 i = _
      by_cases hin : i = n
      · simp only [if_pos hin]
        rw [hin]
        exact ⟨a3.1, a3.2.1, fun e => a3.2.2.1.trans (hbn e).2, a3.2.2.2⟩
      · simp only [if_neg hin]
        rw [a0 _ _ (by omega) (by omega), a0 _ _ (by omega) (by omega), a0 _ _ (by omega) (by omega), a0 _ _ (by omega) (by omega)]
        exact x1 i (by omega)
    · by_cases hin : i = n
      · simp only [if_pos hin]
        rw [hin]
        exact ⟨j3.1, j3.2.1, fun e => j3.2.2.1.trans (hbn e).2, j3.2.2.2⟩
      · simp only [if_neg hin]
        rw [j0 _ _ (by omega) (by omega), j0 _ _ (by omega) (by omega), j0 _ _ (by omega) (by omega), j0 _ _ (by omega) (by omega)]
        exact y1 i (by omega)
    · obtain ⟨e1, L, e2, ⟨f1, f2, f3, f4⟩, g1, g2, g3, g4⟩ := r3 hr
      refine ⟨e1, L, e2, ⟨f1, (a0 _ _ (by omega) (by omega)).trans f2, fun i x y => ?_, fun r hr => ?_⟩, g1, (j0 _ _ (by omega) (by omega)).trans g2, fun i x y => ?_, fun r hr => ?_⟩
      · show A 201 _ = _ ∧ A 201 _ = _ ∧ A 201 _ = _ ∧ A 201 _ = _
        rw [a0 _ _ (by omega) (by omega), a0 _ _ (by omega) (by omega), a0 _ _ (by omega) (by omega), a0 _ _ (by omega) (by omega)]
        exact f3 i x y
      · show A 202 _ = _ ∧ A 203 _ = _
        rw [a0 _ _ (by omega) (by omega), a0 _ _ (by omega) (by omega)]
        exact f4 r hr
      · rw [j0 _ _ (by omega) (by omega), j0 _ _ (by omega) (by omega), j0 _ _ (by omega) (by omega), j0 _ _ (by omega) (by omega)]
        exact g3 i x y
      · rw [j0 _ _ (by omega) (by omega), j0 _ _ (by omega) (by omega)]
        exact g4 r hr
  have a1 : ∀ m j, ¬ ((m = 200 ∧ j = 0) ∨ (204 ≤ m ∧ m ≤ 207)) → A m j = S.1.1 m j := fun m j h => a0 m j (by omega) (by omega)
  have j1 : ∀ m j, ¬ ((m = 0 ∧ j = 39) ∨ (36 ≤ m ∧ m ≤ 39)) → I5 m j = I m j := fun m j h => j0 m j (by omega) (by omega)
  exact ⟨zI (n : Nat), (A, S.1.2), I5, rfl, rfl, hc, ⟨RA_fr hA ⟨fun m j h => a1 m j (by omega), fun _ _ => rfl, fun _ _ => rfl⟩ (fun m j _ _ => j1 m j (by omega)), RB_fr hB (fun m j _ _ => a1 m j (by omega)) (fun m j _ _ => j1 m j (by omega)), hn, RE_fr hE (a1 _ _ (by omega)) (fun j => j1 _ _ (by omega)), RJ_fr hJ (fun m j _ => a1 m j (by omega)) (fun m j _ => j1 m j (by omega)), RG_fr hG (fun j _ _ => a1 _ _ (by omega)) (fun j _ _ => j1 _ _ (by omega)), RLn_fr hL (a1 _ _ (by omega)) rfl (fun m j _ => j1 m j (by omega)), RZ_fr hZ (fun k => a1 _ _ (by omega)) (fun k => j1 _ _ (by omega))⟩, D, T, fo, nets, dn, dev, RC_fr hC (fun m j _ => a1 m j (by omega)) rfl (fun m j _ => j1 m j (by omega)), RF_fr hF (fun m j _ => a1 m j (by omega)) (fun _ _ => rfl) (fun _ _ _ => rfl) (fun m j _ => j1 m j (by omega)), RW_fr hW (fun m j _ _ => a1 m j (by omega)) (fun m j _ => j1 m j (by omega))⟩
theorem s_rule (h : RR S K I) (x y u v : Int32) : simP K S.2 (f_X11_rule x y u v S.1) (f_X12_rule x y u v I) := by
  obtain ⟨k, k1, k2, rfl⟩ := zI_ex x
  obtain ⟨a, a1, a2, rfl⟩ := zI_ex y
  obtain ⟨b, b1, b2, rfl⟩ := zI_ex u
  obtain ⟨w, w1, w2, rfl⟩ := zI_ex v
  have hno3 := simP_no h (x := -3) (b := -3) rfl (by decide) (by decide)
  have hno7 := simP_no h (x := -7) (b := -7) rfl (by decide) (by decide)
  unfold f_X11_rule f_X12_rule
  have hz0 : (zI k < 0) = (zI k < zI 0) := rfl
  simp only [hz0]
  rw [isIn_z k1 k2, show (0 : Int64).toInt = 0 by decide, show (4 : Int64).toInt = 4 by decide, show (16 : Int32) = zI ((16 : Nat) : Int) from rfl, out_z a1 a2 (by omega), out_z b1 b2 (by omega), isLayer_z a1 a2, isLayer_z b1 b2, oif, oif, iif, iif, iif, show (4 : Int32) = zI 4 from rfl, show (2 : Int32) = zI 2 from rfl]
  simp (disch := omega) only [zI_lt, zI_le, zI_eq]
  by_cases hk : ¬ (0 ≤ k ∧ k ≤ 4)
  · rw [if_neg hk]
    by_cases hk0 : k < 0
    · rw [if_pos hk0]
      exact hno7
    · rw [if_neg hk0, if_neg (by omega)]
      exact hno7
  replace hk := Classical.not_not.mp hk
  rw [if_pos hk, if_neg (by omega), if_pos hk.2]
  by_cases ha : ¬ (0 ≤ a ∧ a < 16)
  · rw [if_neg ha, if_neg (by omega)]
    exact hno3
  replace ha := Classical.not_not.mp ha
  rw [if_pos ha, if_pos (show 0 ≤ a ∧ a < ((16 : Nat) : Int) by omega)]
  obtain ⟨kd, rfl⟩ := Int.eq_ofNat_of_zero_le hk.1
  obtain ⟨an, rfl⟩ := Int.eq_ofNat_of_zero_le ha.1
  have h46 : (kd = 2 → 0 ≤ b ∧ b < 16) → simP K S.2 (f_X11_rule_J46 (zI (kd : Nat)) (zI (an : Nat)) (zI b) (zI w) S.1) (f_X12_rule_J45 (zI (kd : Nat)) (zI (an : Nat)) (zI b) (zI w) I) := by
    intro hb
    have hgr : f_X8_greatest (zI (kd : Nat)) = zI (if kd < 2 then 64 else if kd = 2 then 9 else 4096) := by
      rcases (show kd = 0 ∨ kd = 1 ∨ kd = 2 ∨ kd = 3 ∨ kd = 4 by omega) with rfl | rfl | rfl | rfl | rfl <;> decide
    have h45 : f_X12_rule_J45 (zI (kd : Nat)) (zI (an : Nat)) (zI b) (zI w) I = f_X12_rule_J74 (zI (kd : Nat)) (zI (an : Nat)) (zI b) (zI w) (if kd < 2 then 64 else if kd = 2 then 9 else 4096) 0 (zI w).toInt64 I := by
      rcases (show kd = 0 ∨ kd = 1 ∨ kd = 2 ∨ kd = 3 ∨ kd = 4 by omega) with rfl | rfl | rfl | rfl | rfl <;> rfl
    have hbd : (if kd < 2 then (64 : Int64) else if kd = 2 then 9 else 4096).toInt = if kd < 2 then 64 else if kd = 2 then 9 else 4096 := by
      rcases (show kd = 0 ∨ kd = 1 ∨ kd = 2 ∨ kd = 3 ∨ kd = 4 by omega) with rfl | rfl | rfl | rfl | rfl <;> decide
    obtain ⟨G, hG9⟩ : ∃ G : Int, G = if kd < 2 then 64 else if kd = 2 then 9 else 4096 := ⟨_, rfl⟩
    have hGr : G ≤ 4096 ∧ (kd = 2 → G = 9) := by
      rw [hG9]
      rcases (show kd = 0 ∨ kd = 1 ∨ kd = 2 ∨ kd = 3 ∨ kd = 4 by omega) with rfl | rfl | rfl | rfl | rfl <;> decide
    have hG0 : 0 ≤ G := by
      rw [hG9]
      rcases (show kd = 0 ∨ kd = 1 ∨ kd = 2 ∨ kd = 3 ∨ kd = 4 by omega) with rfl | rfl | rfl | rfl | rfl <;> decide
    rw [h45]
    unfold f_X11_rule_J46 f_X12_rule_J74
    rw [isIn_z w1 w2, hbd, hgr, ← hG9, show (0 : Int64).toInt = 0 by decide, iif]
    have hw0 : (zI w < 0) = (zI w < zI 0) := rfl
    simp only [hw0]
    simp (disch := omega) only [zI_lt, zI_le]
    by_cases hw : 0 ≤ w ∧ w ≤ G
    · obtain ⟨wn, rfl⟩ := Int.eq_ofNat_of_zero_le hw.1
      rw [if_neg (by omega), if_pos hw.2, if_pos hw]
      refine s_ruleT h (by omega) (by omega) (by omega) _ (fun e => ?_)
      obtain ⟨h0, h16⟩ := hb e
      obtain ⟨bn, rfl⟩ := Int.eq_ofNat_of_zero_le h0
      exact ⟨by have := hGr.2 e; omega, bn, by omega, rfl⟩
    · rw [if_neg hw]
      by_cases hwn : w < 0
      · rw [if_pos hwn]
        exact hno7
      · rw [if_neg hwn, if_neg (by omega)]
        exact hno7
  by_cases h2 : ((kd : Nat) : Int) = 2
  · rw [if_pos h2, if_pos h2]
    by_cases hb : 0 ≤ b ∧ b < 16
    · rw [if_pos hb, if_pos (show 0 ≤ b ∧ b < ((16 : Nat) : Int) by omega)]
      exact h46 (fun _ => hb)
    · rw [if_neg hb, if_neg (by omega)]
      exact hno3
  · rw [if_neg h2, if_neg h2]
    exact h46 (fun e => absurd (by rw [e]; rfl) h2)
theorem s_fault (h : RR S K I) (x y : Int32) : simP K S.2 (f_X11_fault S.2 x y S.1) (f_X12_fault_ x y I) := by
  obtain ⟨z, z1, z2, rfl⟩ := zI_ex x
  obtain ⟨w, w1, w2, rfl⟩ := zI_ex y
  obtain ⟨hc, ⟨hA, hB, hU, hE, hJ, hG, hL, hZ⟩, D, T, fo, nets, dn, dev, hC, hF, hW⟩ := id h
  obtain ⟨q, n, q0, x0, y0, ran, r1, r2, r3⟩ := id hU
  have hno3 := simP_no h (x := -3) (b := -3) rfl (by decide) (by decide)
  have hno7 := simP_no h (x := -7) (b := -7) rfl (by decide) (by decide)
  unfold f_X11_fault f_X12_fault_
  rw [r1, r2]
  cases ran with
  | false => exact simP_no h (b := -2) rfl (by decide) (by decide)
  | true =>
    rw [if_neg (show ¬ bq true = 0 by decide), if_neg (show ¬ bq true = 0 by decide)]
    obtain ⟨e1, L, e2, ⟨f1, f2, f3, f4⟩, g1, g2, g3, g4⟩ := r3 rfl
    obtain ⟨k, hk⟩ : ∃ k : Nat, k = min L.length 600 := ⟨_, rfl⟩
    have hO : (if (600 : Int32) ≤ (I 0 46) then f_X12_fault__J37 (zI z) (zI w) (600 : Int32) (0 : Int64) (zI z).toInt64 I else f_X12_fault__J37 (zI z) (zI w) (I 0 46) (0 : Int64) (zI z).toInt64 I) = f_X12_fault__J37 (zI z) (zI w) (zI (k : Nat)) (0 : Int64) (zI z).toInt64 I := by
      rw [g2, show (600 : Int32) = zI 600 from rfl, hk]
      simp (disch := omega) only [zI_le]
      by_cases hl : (600 : Int) ≤ ((L.length : Nat) : Int)
      · rw [if_pos hl, show min L.length 600 = 600 by omega]
        rfl
      · rw [if_neg hl, show min L.length 600 = L.length by omega]
    rw [hO, f2, show (600 : Int32) = zI 600 from rfl, nm_minZ (by omega) (by omega) (by omega) (by omega), show min ((L.length : Nat) : Int) 600 = ((k : Nat) : Int) by omega, show (4 : Int32) = zI ((4 : Nat) : Int) from rfl, out_z z1 z2 (by omega), out_z w1 w2 (by omega), oif, oif]
    unfold f_X12_fault__J37
    rw [isIn_z z1 z2, show zI ((k : Nat) : Int) - (1 : Int32) = zI (((k : Nat) : Int) - 1) from zI_sub _ 1, zI_64 (by omega) (by omega), show (0 : Int64).toInt = 0 by decide, iif]
    by_cases hz : ¬ (0 ≤ z ∧ z < (k : Int))
    · rw [if_neg hz, if_neg (by omega)]
      exact hno3
    replace hz := Classical.not_not.mp hz
    rw [if_pos hz, if_pos (show 0 ≤ z ∧ z ≤ ((k : Nat) : Int) - 1 by omega)]
    obtain ⟨i, rfl⟩ := Int.eq_ofNat_of_zero_le hz.1
    obtain ⟨s1, s2, s3, s4⟩ := f3 i (by omega) (by omega)
    obtain ⟨t1, t2, t3, t4⟩ := g3 i (by omega) (by omega)
    rw [show (1 : Int32) = zI 1 from rfl, show (2 : Int32) = zI 2 from rfl, show (3 : Int32) = zI 3 from rfl, show (0 : Int32) = zI 0 from rfl]
    simp (disch := omega) only [zI_eq, nm_cz, zI_cl]
    rw [Int.toNat_natCast]
    by_cases hw : ¬ (0 ≤ w ∧ w < 4)
    · rw [if_neg (by omega), if_neg (by omega), if_neg (by omega), if_neg (by omega), if_neg (by omega)]
      exact hno7
    replace hw := Classical.not_not.mp hw
    rw [if_pos (show 0 ≤ w ∧ w < ((4 : Nat) : Int) by omega), zI_mul, zI_add, nm_cz (by omega) (by omega) (by omega), zI_cl (by omega) (by omega)]
    by_cases c0 : w = 0
    · rw [if_pos c0, show (((4 : Nat) : Int) * ((i : Nat) : Int) + w).toNat = 4 * i by omega]
      exact simP_q h (s1.trans t1.symm)
    rw [if_neg c0]
    by_cases c1 : w = 1
    · rw [if_pos c1, show (((4 : Nat) : Int) * ((i : Nat) : Int) + w).toNat = 4 * i + 1 by omega]
      exact simP_q h (s2.trans t2.symm)
    rw [if_neg c1]
    by_cases c2 : w = 2
    · rw [if_pos c2, show (((4 : Nat) : Int) * ((i : Nat) : Int) + w).toNat = 4 * i + 2 by omega]
      exact simP_q h (s3.trans t3.symm)
    rw [if_neg c2, if_pos (by omega), show (((4 : Nat) : Int) * ((i : Nat) : Int) + w).toNat = 4 * i + 3 by omega]
    exact simP_q h (s4.trans t4.symm)
theorem s_faults (h : RR S K I) (x y : Int32) : simP K S.2 (f_X11_faults x y S.1) (f_X12_faults x y I) := by
  obtain ⟨z, z1, z2, rfl⟩ := zI_ex x
  obtain ⟨w, w1, w2, rfl⟩ := zI_ex y
  obtain ⟨hc, ⟨hA, hB, hU, hE, hJ, hG, hL, hZ⟩, D, T, fo, nets, dn, dev, hC, hF, hW⟩ := id h
  obtain ⟨q, n, ⟨q0, q1⟩, ⟨x0, x1⟩, ⟨y0, y1⟩, ran, r1, r2, r3⟩ := id hU
  have hno3 := simP_no h (x := -3) (b := -3) rfl (by decide) (by decide)
  have hno7 := simP_no h (x := -7) (b := -7) rfl (by decide) (by decide)
  unfold f_X11_faults f_X12_faults
  rw [x0, y0, r1, r2, show (2 : Int32) = zI ((2 : Nat) : Int) from rfl, out_z z1 z2 (by omega), out_z w1 w2 (by omega), isIn_z z1 z2, isIn_z w1 w2, show zI ((n : Nat) : Int) - (1 : Int32) = zI (((n : Nat) : Int) - 1) from zI_sub _ 1, zI_64 (by omega) (by omega), show (0 : Int64).toInt = 0 by decide, show (1 : Int64).toInt = 1 by decide]
  by_cases hz : ¬ (0 ≤ z ∧ z < (n : Int))
  · rw [if_neg hz, if_neg (show ¬ (0 ≤ z ∧ z ≤ ((n : Nat) : Int) - 1) by omega)]
    exact hno3
  replace hz := Classical.not_not.mp hz
  rw [if_pos hz, if_pos (show 0 ≤ z ∧ z ≤ ((n : Nat) : Int) - 1 by omega), if_pos (show (0 : Int32) = 0 from rfl), if_neg (show ¬ (1 : Int32) = 0 by decide)]
  obtain ⟨i, rfl⟩ := Int.eq_ofNat_of_zero_le hz.1
  cases ran with
  | false => exact simP_no h (b := -2) rfl (by decide) (by decide)
  | true =>
    rw [if_neg (show ¬ bq true = 0 by decide), if_neg (show ¬ bq true = 0 by decide), oif, iif]
    obtain ⟨e1, L, e2, ⟨f1, f2, f3, f4⟩, g1, g2, g3, g4⟩ := r3 rfl
    obtain ⟨s1, s2⟩ := f4 i (by omega)
    obtain ⟨t1, t2⟩ := g4 i (by omega)
    by_cases hw : ¬ (0 ≤ w ∧ w < 2)
    · rw [if_neg (by omega), if_neg (by omega)]
      exact hno7
    replace hw := Classical.not_not.mp hw
    rw [if_pos (show 0 ≤ w ∧ w < ((2 : Nat) : Int) by omega), if_pos (show 0 ≤ w ∧ w ≤ 1 by omega), nm_cz (by omega) (by omega) (by omega), nm_cz (by omega) (by omega) (by omega), nm_cz (by omega) (by omega) (by omega), nm_cz (by omega) (by omega) (by omega), zI_cl (by omega) (by omega), Int.toNat_natCast, s1, s2, t1, t2]
    have hc : (zI w = 0) = (zI w = zI 0) := rfl
    by_cases c0 : zI w = 0
    · rw [if_pos c0, if_pos c0]
      exact simP_q h rfl
    · rw [if_neg c0, if_neg c0]
      exact simP_q h rfl
end
