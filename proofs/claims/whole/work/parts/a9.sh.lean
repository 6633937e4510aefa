/-! calls, told of both sides: the circuit found, a cell laid flat -/
section
variable {S : ca} {K : Nat → Nat} {I : nm_I}
theorem s_circuit (h : RR S K I) : simA K S.2 (f_X11_circuit S) (f_X12_circuit I) := by
  obtain ⟨hc, ⟨hA, hB, hU, hE, hJ, hG, hL, hZ⟩, D, T, fo, nets, dn, dev, hC, hF, hW⟩ := id h
  obtain ⟨⟨kn, k1, k2⟩, hD, hO, hT, hTO⟩ := id hC
  obtain ⟨cd, c1, c2⟩ := id hE
  obtain ⟨jl, jn, hj, hjX, hjO⟩ := id hJ
  obtain ⟨gt, hgk, hgX, hgO⟩ := id hG
  refine simA_wc ?_
  cases kn with
  | false =>
    unfold f_X11_circuit f_X12_circuit
    rw [k1, k2]
    exact wc_no h (b := -2) rfl (by decide) (by decide)
  | true =>
    by_cases hcc : ¬ ∀ t, gt = some t → cd t.2.2 = true
    · obtain ⟨t, ht⟩ := Classical.not_forall.mp hcc
      obtain ⟨ht1, ht2⟩ := Classical.not_imp.mp ht
      subst ht1
      have hcf : cd t.2.2 = false := by
        cases hq : cd t.2.2 with
        | false => rfl
        | true => exact absurd hq ht2
      obtain ⟨g1, g2, g3⟩ := hgk t rfl
      obtain ⟨x1, x2, x3⟩ := hgX
      obtain ⟨o1, o2, o3⟩ := hgO
      have hlk : f_X2_lacksConductor S.1 = 1 := by
        unfold f_X2_lacksConductor
        rw [x3, if_neg (by
          rw [show (-1 : Int32) = zI (-1) from rfl, zI_eq (by omega) (by omega) (by omega) (by omega)]
          omega), if_pos ((bi_0 _ (by omega)).mpr ((c1 _ g3).trans hcf))]
      unfold f_X11_circuit f_X12_circuit
      rw [k1, k2, hlk, o1, o3, if_neg (show ¬ bq true = 0 by decide), if_neg (show ¬ bq true = 0 by decide), if_neg (show ¬ (1 : Int32) = 0 by decide), if_neg (by
        rw [show (0 : Int32) = zI 0 from rfl, zI_lt (by omega) (by omega) (by omega) (by omega)]
        omega), nm_cz (by omega) (by omega) (by omega), zI_cl (by omega) (by omega), Int.toNat_natCast, c2 _ g3, hcf]
      exact wc_no h (b := -7) rfl (by decide) (by decide)
    replace hcc := Classical.not_not.mp hcc
    have hJ40 : f_X12_circuit I = f_X12_circuit_J40 I := by
      unfold f_X12_circuit
      rw [k2, if_neg (show ¬ bq true = 0 by decide)]
      cases gt with
      | none =>
        have o1 : I 0 54 = zI (-1) := hgO
        rw [o1, if_pos (by decide)]
      | some t =>
        obtain ⟨g1, g2, g3⟩ := hgk t rfl
        obtain ⟨o1, o2, o3⟩ := hgO
        rw [o1, o3, if_neg (by
          rw [show (0 : Int32) = zI 0 from rfl, zI_lt (by omega) (by omega) (by omega) (by omega)]
          omega), nm_cz (by omega) (by omega) (by omega), zI_cl (by omega) (by omega), Int.toNat_natCast, c2 _ g3, hcc t rfl, if_neg (by decide)]
    obtain ⟨r, e, o1, o2, o3, o4, o5⟩ := w_circuitO hgk hj hO c2 hjO hgO
    rw [hJ40, e]
    refine wc_m (w_circuitX hgk hj hc hD c1 hjX hgX (by rw [k1]; decide) hcc) ?_
    rintro ⟨r', S1⟩ ⟨x1, x2, x3, hc1, x4, x5, b1', n1', a1'⟩
    have a1 : ∀ m j, ¬ ((m = 300 ∧ (j = 2 ∨ j = 3 ∨ j = 9)) ∨ (m = 400 ∧ j = 3) ∨ (m = 310 ∧ (j = 1 ∨ j = 7)) ∨ m = 315 ∨ m = 316 ∨ (302 ≤ m ∧ m ≤ 304) ∨ (320 ≤ m ∧ m ≤ 326)) → S1.1.1 m j = S.1.1 m j := fun m j p => a1' m j (by omega) (by omega) (by omega) (by omega) (by omega) (by omega) (by omega)
    have b1 : ∀ m, ¬ (m = 311 ∨ m = 321) → S1.1.2 m = S.1.2 m := fun m p => b1' m (by omega) (by omega)
    have n1 : ∀ x, ¬ (x = 316 ∨ (302 ≤ x ∧ x ≤ 304) ∨ (322 ≤ x ∧ x ≤ 326)) → S1.2 x = S.2 x := fun x hx => n1' x (by omega) (by omega) (by omega)
    have j1 : ∀ m j, ¬ (m = 50 ∨ m = 59 ∨ m = 60 ∨ (28 ≤ m ∧ m ≤ 32) ∨ (62 ≤ m ∧ m ≤ 65) ∨ (m = 0 ∧ (j = 22 ∨ j = 33 ∨ j = 34 ∨ j = 57 ∨ j = 60 ∨ j = 65 ∨ j = 72))) → r.2 m j = I m j := fun m j p => o5 m j (by omega) (by omega) (by omega) (by omega) (by omega) (by omega)
    have hF' : RF S1 r.2 D true (nnC D cd jl jn) (dvN D gt) (dvF D cd jl jn gt) := ⟨x4, o3, fun _ => ⟨cd, jl, jn, gt, x2, o2, x3, rfl, rfl, rfl, dvB_ok x3⟩⟩
    have hW' : RW S1 r.2 true (nnC D cd jl jn) (dvN D gt) (dvF D cd jl jn gt) := by
      obtain ⟨ws, n, hwo, hwx, hws, ⟨tv, t1, t2⟩, -⟩ := hW
      refine ⟨ws, n, hwo, ⟨(a1 _ _ (by omega)).trans hwx.1, fun i hi => ⟨(a1 _ _ (by omega)).trans (hwx.2 i hi).1, (a1 _ _ (by omega)).trans (hwx.2 i hi).2⟩⟩, ⟨(j1 _ _ (by omega)).trans hws.1, fun i hi => ?_⟩, ⟨tv, (a1 _ _ (by omega)).trans t1, (j1 _ _ (by omega)).trans t2⟩, false, x5, o4, fun e => absurd e (by decide)⟩
      obtain ⟨y1, y2, y3, y4⟩ := hws.2 i hi
      exact ⟨(j1 _ _ (by omega)).trans y1, (j1 _ _ (by omega)).trans y2, (j1 _ _ (by omega)).trans y3, (j1 _ _ (by omega)).trans y4⟩
    have hRR : RR S1 K r.2 := ⟨hc1, ⟨RA_fr hA ⟨fun m j h => a1 m j (by omega), fun m h => b1 m (by omega), fun x h => n1 x (by omega)⟩ (fun m j _ _ => j1 m j (by omega)), RB_fr hB (fun m j _ _ => a1 m j (by omega)) (fun m j _ _ => j1 m j (by omega)), RU_fr hU (fun m j _ _ => a1 m j (by omega)) (n1 201 (by omega)) (fun m j _ => j1 m j (by omega)), RE_fr hE (a1 _ _ (by omega)) (fun j => j1 _ _ (by omega)), RJ_fr hJ (fun m j _ => a1 m j (by omega)) (fun m j _ => j1 m j (by omega)), RG_fr hG (fun j _ _ => a1 _ _ (by omega)) (fun j _ _ => j1 _ _ (by omega)), RLn_fr hL (a1 _ _ (by omega)) (b1 0 (by omega)) (fun m j _ => j1 m j (by omega)), RZ_fr hZ (fun k => a1 _ _ (by omega)) (fun k => j1 _ _ (by omega))⟩, D, T, true, _, _, _, RC_fr hC (fun m j _ => a1 m j (by omega)) (b1 101 (by omega)) (fun m j _ => j1 m j (by omega)), hF', hW'⟩
    refine ⟨r.2, ?_, hRR⟩
    show some r = some (r', r.2)
    rw [show r' = r.1 from x1.trans o1.symm]
theorem s_flat (h : RR S K I) (x : Int32) : simA K S.2 (f_X11_flat K x S) (f_X12_flat x I) := by
  obtain ⟨z, z1, z2, rfl⟩ := zI_ex x
  obtain ⟨hc, ⟨hA, hB, hU, hE, hJ, hG, hL, hZ⟩, D, T, fo, nets, dn, dev, hC, hF, hW⟩ := id h
  obtain ⟨⟨kn, k1, k2⟩, hD, hO, hT, hTO⟩ := id hC
  obtain ⟨sd, cnt, hcl, hcO⟩ := id hA
  obtain ⟨m, hmk, hmX, hmO⟩ := id hB
  refine simA_wc ?_
  by_cases hz : ¬ (0 ≤ z ∧ z < 8)
  · unfold f_X11_flat f_X12_flat
    rw [show f_X11_outside (zI z) 8 = f_X11_outside (zI z) (zI ((8 : Nat) : Int)) from rfl, out_z z1 z2 (by omega), oif, if_neg (by omega), isCell_i z1 z2, iif, if_neg hz]
    exact wc_no h (b := -3) rfl (by decide) (by decide)
  replace hz := Classical.not_not.mp hz
  obtain ⟨c, rfl⟩ := Int.eq_ofNat_of_zero_le hz.1
  obtain ⟨r, e, o1, o2, o3, ⟨o4, o5, o6, o7⟩, o8⟩ := w_flatO (c := c) (by omega) hcO hO hmO hmk
  rw [e]
  refine wc_m (w_flatX (c := c) (by omega) hc hcl hD hmX hmk) ?_
  rintro ⟨r', S1⟩ ⟨hc1, x2, x3, x1, x4, ⟨x5, x6, x7, x8⟩, a1', b1', n1'⟩
  have a1 : ∀ m j, ¬ (1000 ≤ m ∨ m = 102 ∨ (110 ≤ m ∧ m ≤ 117) ∨ (m = 100 ∧ (j = 0 ∨ j = 3)) ∨ (m = 200 ∧ j = 1) ∨ (m = 300 ∧ j = 2) ∨ (m = 400 ∧ j = 3)) → S1.1.1 m j = S.1.1 m j := fun m j p => a1' m j (by omega) (by omega) (by omega) (by omega) (by omega) (by omega) (by omega)
  have b1 : ∀ m, ¬ (1000 ≤ m ∨ m = 3 ∨ m = 101 ∨ m = 111) → S1.1.2 m = S.1.2 m := fun m p => b1' m (by omega) (by omega) (by omega) (by omega)
  have n1 : ∀ x, ¬ (1000 ≤ x ∨ (112 ≤ x ∧ x ≤ 117)) → S1.2 x = S.2 x := fun x hx => n1' x (by omega) (by omega)
  have j1 : ∀ m j, ¬ ((13 ≤ m ∧ m ≤ 17) ∨ m = 20 ∨ (24 ≤ m ∧ m ≤ 26) ∨ (28 ≤ m ∧ m ≤ 33) ∨ (m = 0 ∧ (j = 17 ∨ j = 18 ∨ j = 20 ∨ j = 21 ∨ j = 22 ∨ j = 26 ∨ j = 33 ∨ j = 34 ∨ j = 72))) → r.2 m j = I m j := fun m j p => o8 m j (by omega) (by omega) (by omega) (by omega) (by omega)
  have hA' : RA S1 K r.2 := ⟨sd, cnt, x2, fun c hc => shR_fr (hcO c hc) (fun m k _ _ => j1 m k (by omega))⟩
  have hC' : RC S1 r.2 (mkA m (bas (FL sd cnt c).1 D) 8) (FL sd cnt c).2 := ⟨⟨true, x5, o4⟩, x3, o2, x4, o3⟩
  have hU' : RU S1 r.2 := by
    obtain ⟨q, n, hq, hrX, hrO, -⟩ := hU
    refine ⟨q, n, hq, ⟨(a1 _ _ (by omega)).trans hrX.1, fun i hi => ?_⟩, ⟨(j1 _ _ (by omega)).trans hrO.1, fun i hi => ?_⟩, false, x6, o5, fun e => absurd e (by decide)⟩
    · obtain ⟨y1, y2, y3, y4⟩ := hrX.2 i hi
      exact ⟨(a1 _ _ (by omega)).trans y1, (a1 _ _ (by omega)).trans y2, fun z => (a1 _ _ (by omega)).trans (y3 z), (a1 _ _ (by omega)).trans y4⟩
    · obtain ⟨y1, y2, y3, y4⟩ := hrO.2 i hi
      exact ⟨(j1 _ _ (by omega)).trans y1, (j1 _ _ (by omega)).trans y2, fun z => (j1 _ _ (by omega)).trans (y3 z), (j1 _ _ (by omega)).trans y4⟩
  have hF' : RF S1 r.2 (mkA m (bas (FL sd cnt c).1 D) 8) false nets dn dev := ⟨x7, o6, fun e => absurd e (by decide)⟩
  have hW' : RW S1 r.2 false nets dn dev := by
    obtain ⟨ws, n, hwo, hwx, hws, ⟨tv, t1, t2⟩, -⟩ := hW
    refine ⟨ws, n, hwo, ⟨(a1 _ _ (by omega)).trans hwx.1, fun i hi => ⟨(a1 _ _ (by omega)).trans (hwx.2 i hi).1, (a1 _ _ (by omega)).trans (hwx.2 i hi).2⟩⟩, ⟨(j1 _ _ (by omega)).trans hws.1, fun i hi => ?_⟩, ⟨tv, (a1 _ _ (by omega)).trans t1, (j1 _ _ (by omega)).trans t2⟩, false, x8, o7, fun e => absurd e (by decide)⟩
    obtain ⟨y1, y2, y3, y4⟩ := hws.2 i hi
    exact ⟨(j1 _ _ (by omega)).trans y1, (j1 _ _ (by omega)).trans y2, (j1 _ _ (by omega)).trans y3, (j1 _ _ (by omega)).trans y4⟩
  have hRR : RR S1 K r.2 := ⟨hc1, ⟨hA', RB_fr hB (fun m j _ _ => a1 m j (by omega)) (fun m j _ _ => j1 m j (by omega)), hU', RE_fr hE (a1 _ _ (by omega)) (fun j => j1 _ _ (by omega)), RJ_fr hJ (fun m j _ => a1 m j (by omega)) (fun m j _ => j1 m j (by omega)), RG_fr hG (fun j _ _ => a1 _ _ (by omega)) (fun j _ _ => j1 _ _ (by omega)), RLn_fr hL (a1 _ _ (by omega)) (b1 0 (by omega)) (fun m j _ => j1 m j (by omega)), RZ_fr hZ (fun k => a1 _ _ (by omega)) (fun k => j1 _ _ (by omega))⟩, _, _, false, nets, dn, dev, hC', hF', hW'⟩
  refine ⟨r.2, ?_, hRR⟩
  show some r = some (r', r.2)
  rw [show r' = r.1 from x1.trans o1.symm]
end
