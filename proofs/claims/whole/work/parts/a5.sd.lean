/-! calls, told of both sides: the wish compared -/
section
variable {S : ca} {K : Nat → Nat} {I : nm_I}
theorem s_pair (h : RR S K I) (x o : Int32) : simP K S.2 (f_X11_pair x o S.1) (f_X12_pair_ x o I) := by
  obtain ⟨z, z1, z2, rfl⟩ := zI_ex x
  obtain ⟨hc, ⟨hA, hB, hU, hE, hJ, hG, hL, hZ⟩, D, T, fo, nets, dn, dev, hC, hF, hW⟩ := id h
  obtain ⟨f1, f2, f3⟩ := id hF
  obtain ⟨ws, n, hwo, hwx, hws, ⟨tv, t1, t2⟩, pv, p1, p2, p3⟩ := id hW
  have hno3 := simP_no h (x := -3) (b := -3) rfl (by decide) (by decide)
  unfold f_X11_pair f_X12_pair_ f_X11_pair_J42 f_X12_pair__J32
  rw [p1, p2]
  cases pv with
  | false => exact simP_no h (b := -2) rfl (by decide) (by decide)
  | true =>
    obtain ⟨q1, q2, ⟨q3, q4⟩, q5, q6⟩ := p3 rfl
    subst q1
    obtain ⟨cd, jl, jn, gt, ⟨⟨lab, g, gl⟩, ⟨v1, v2, v3⟩, w'⟩, ⟨tt, ⟨u1, u2⟩, z'⟩, ⟨r1, r2⟩, e, f, k, kb⟩ := f3 rfl
    have hnn := nnC_le (D := D) (cd := cd) (jl := jl) (jn := jn)
    have h310 : S.1.1 310 1 = zI ((nnC D cd jl jn : Nat) : Int) := g.2.2.2.2.2.1
    have h57 : I 0 57 = zI ((nnC D cd jl jn : Nat) : Int) := tt.2
    rw [if_neg (show ¬ bq true = 0 by decide), if_neg (show ¬ bq true = 0 by decide)]
    obtain ⟨g1, g2, g3⟩ := (smR_good (dev := dev) (dn := dn) (n := n) (ws := ws)).2.1 q2
    obtain ⟨hdn, hwh⟩ := whA_of kb g1
    by_cases ho : o = 0
    · rw [if_pos ho, if_pos ho, v1, u1, out_z z1 z2 (by omega), oif, isInN z1 z2 (by omega), iif, if_pos ho, if_pos ho]
      by_cases hz : ¬ (0 ≤ z ∧ z < ((dvN D gt : Nat) : Int))
      · rw [if_neg hz, if_neg hz]
        exact hno3
      replace hz := Classical.not_not.mp hz
      have hn12 := hwo.1
      have hzn : z < (n : Nat) := by omega
      rw [if_pos hz, if_pos hz]
      unfold f_X10_thingOf
      obtain ⟨j, rfl⟩ := Int.eq_ofNat_of_zero_le hz.1
      rw [show (12 : Int32) = zI ((12 : Nat) : Int) from rfl, out_z z1 z2 (by omega), oif, if_pos (by omega), nm_cz (by omega) (by omega) (by omega), nm_cz (by omega) (by omega) (by omega), zI_cl (by omega) (by omega), Int.toNat_natCast, q4 j (by omega), q6 j (by omega), nm_s1_some]
      exact simP_q h rfl
    · rw [if_neg ho, if_neg ho, h310, h57, out_z z1 z2 (by omega), oif, isInN z1 z2 (by omega), iif, if_neg ho, if_neg ho]
      by_cases hz : ¬ (0 ≤ z ∧ z < ((nnC D cd jl jn : Nat) : Int))
      · rw [if_neg hz, if_neg hz]
        exact hno3
      replace hz := Classical.not_not.mp hz
      rw [if_pos hz, if_pos hz]
      obtain ⟨y1, y2, y3, y4⟩ := q5
      obtain ⟨v, e1, e2⟩ := w_wishedOf q3 y4 hz.1 (by omega)
      obtain ⟨j, rfl⟩ := Int.eq_ofNat_of_zero_le hz.1
      rw [nm_cz (by omega) (by omega) (by omega), zI_cl (by omega) (by omega), Int.toNat_natCast, e1, nm_s1_some]
      have hv : I 75 j = zI v := by
        rcases y2 j (by omega) with ⟨w0, a1, a2, a3⟩ | ⟨a1, a2⟩
        · rcases e2 with ⟨b1, b2⟩ | ⟨w1, b1, b2, b3⟩
          · exact absurd a2 (b2 w0 a1)
          · have : w0 = w1 := y3 w0 w1 a1 b2 (by rw [a2, b3]) (by rw [a2]; omega)
            rw [a3, b1, this]
        · rcases e2 with ⟨b1, b2⟩ | ⟨w1, b1, b2, b3⟩
          · rw [a2, b1]
          · exact absurd b3 (a1 w1 b2)
      rw [hv]
      exact simP_q h rfl
theorem s_same (h : RR S K I) : simP K S.2 (f_X11_same S.2 K S.1) (f_X12_same I) := by
  obtain ⟨hc, ⟨hA, hB, hU, hE, hJ, hG, hL, hZ⟩, D, T, fo, nets, dn, dev, hC, hF, hW⟩ := id h
  obtain ⟨f1, f2, f3⟩ := id hF
  obtain ⟨ws, n, hwo, hwx, hws, ⟨tv, t1, t2⟩, pv, p1, p2, p3⟩ := id hW
  by_cases hfo : fo = false
  · subst hfo
    unfold f_X11_same f_X12_same
    rw [f1, f2]
    exact simP_no h (b := -2) rfl (by decide) (by decide)
  have hfo : fo = true := by
    cases fo with
    | false => exact absurd rfl hfo
    | true => rfl
  subst hfo
  obtain ⟨cd, jl, jn, gt, ⟨⟨lab, g, gl⟩, ⟨v1, v2, v3⟩, w'⟩, ⟨tt, hdvO, z'⟩, ⟨r1, r2⟩, rfl, rfl, rfl, kb⟩ := f3 rfl
  have hO := w_sameO (ws := ws) hwo kb r1 hws hdvO tt.2 (by rw [f2]; decide) (by
    rw [p2]
    cases pv with
    | false => exact Or.inl rfl
    | true => exact Or.inr rfl)
  have hM := w_match (N := S.2) (ws := ws) K (cl_l404 hc.1) hwo kb r1 (M := S.1) hwx ⟨v2, v3⟩ v1
  obtain ⟨M2, eM, m1, m2, m3, m4, m5, m6⟩ := hM
  obtain ⟨r, eO, hr⟩ := hO
  unfold f_X11_same
  rw [f1, if_neg (show ¬ bq true = 0 by decide), eM, nm_s1_some, eO]
  have hM2 : M2 = (M2.1, S.1.2) := by rw [← m5]
  rw [hM2]
  obtain ⟨A, hA9⟩ : ∃ A, A = M2.1 := ⟨_, rfl⟩
  rw [← hA9] at m1 m2 m3 ⊢
  have a0 : ∀ m j, ¬ (m = 403 ∨ m = 404 ∨ (m = 400 ∧ (j = 1 ∨ j = 2 ∨ j = 3 ∨ j = 8))) → A m j = S.1.1 m j := fun m j h => by
    rw [hA9]
    exact m6 m j (by omega) (by omega) (by omega)
  have m4' : (smR (dvN D gt) (dvF D cd jl jn gt) ws n).1 = 1 → pfX (A, S.1.2) (pfA (dvF D cd jl jn gt) ws (smR (dvN D gt) (dvF D cd jl jn gt) ws n).2.1) ∧ ∀ j, j < n → A 403 j = zI ((chA (smR (dvN D gt) (dvF D cd jl jn gt) ws n).2.1 j / 2 : Nat) : Int) := fun e => by
    obtain ⟨x1, x2⟩ := m4 e
    rw [hA9]
    exact ⟨fun i hi => x1 i hi, x2⟩
  clear hA9 m4 hM2 eM m6
  have a1 : ∀ m j, ¬ (m = 403 ∨ m = 404 ∨ (m = 400 ∧ (j = 1 ∨ j = 2 ∨ j = 3 ∨ j = 8))) → A m j = S.1.1 m j := a0
  obtain ⟨res, hres⟩ : ∃ res, res = smR (dvN D gt) (dvF D cd jl jn gt) ws n := ⟨_, rfl⟩
  rw [← hres] at m1 m2 m3 m4' hr
  have main : ∀ (I' : nm_I) (pw : Bool), I' 0 71 = zI (res.2.2 : Nat) → I' 0 72 = bq pw → saF I I' → A 400 3 = bq pw → (pw = true → res.1 = 1 ∧ pR I' (pfA (dvF D cd jl jn gt) ws res.2.1) (nnC D cd jl jn) ∧ ∀ j, j < n → I' 77 j = zI ((chA res.2.1 j / 2 : Nat) : Int)) → RR ((A, S.1.2), S.2) K I' := by
    intro I' pw c1 c2 c3 c4 c5
    have j1 : ∀ m j, ¬ ((74 ≤ m ∧ m ≤ 77) ∨ (m = 0 ∧ (j = 71 ∨ j = 72))) → I' m j = I m j := fun m j h => c3 m j (by omega) (by omega)
    have hn : RW ((A, S.1.2), S.2) I' true (nnC D cd jl jn) (dvN D gt) (dvF D cd jl jn gt) := by
      refine ⟨ws, n, hwo, ⟨(a1 _ _ (by omega)).trans hwx.1, fun i hi => ⟨(a1 _ _ (by omega)).trans (hwx.2 i hi).1, (a1 _ _ (by omega)).trans (hwx.2 i hi).2⟩⟩, ⟨(j1 _ _ (by omega)).trans hws.1, fun i hi => ?_⟩, ⟨res.2.2, m1, c1⟩, pw, c4, c2, fun e => ?_⟩
      · obtain ⟨x1, x2, x3, x4⟩ := hws.2 i hi
        exact ⟨(j1 _ _ (by omega)).trans x1, (j1 _ _ (by omega)).trans x2, (j1 _ _ (by omega)).trans x3, (j1 _ _ (by omega)).trans x4⟩
      · obtain ⟨x1, x2, x3⟩ := c5 e
        rw [← hres]
        exact ⟨rfl, x1, m4' x1, x2, x3⟩
    exact ⟨hc, ⟨RA_fr hA ⟨fun m j h => a1 m j (by omega), fun _ _ => rfl, fun _ _ => rfl⟩ (fun m j _ _ => j1 m j (by omega)), RB_fr hB (fun m j _ _ => a1 m j (by omega)) (fun m j _ _ => j1 m j (by omega)), RU_fr hU (fun m j _ _ => a1 m j (by omega)) rfl (fun m j _ => j1 m j (by omega)), RE_fr hE (a1 _ _ (by omega)) (fun j => j1 _ _ (by omega)), RJ_fr hJ (fun m j _ => a1 m j (by omega)) (fun m j _ => j1 m j (by omega)), RG_fr hG (fun j _ _ => a1 _ _ (by omega)) (fun j _ _ => j1 _ _ (by omega)), RLn_fr hL (a1 _ _ (by omega)) rfl (fun m j _ => j1 m j (by omega)), RZ_fr hZ (fun k => a1 _ _ (by omega)) (fun k => j1 _ _ (by omega))⟩, D, T, true, _, _, _, RC_fr hC (fun m j _ => a1 m j (by omega)) rfl (fun m j _ => j1 m j (by omega)), RF_fr hF (fun m j _ => a1 m j (by omega)) (fun _ _ => rfl) (fun _ _ _ => rfl) (fun m j _ => j1 m j (by omega)), hn⟩
  have hno1 : res.1 ≠ 1 → pv = false := fun e => by
    cases hpv : pv with
    | false => rfl
    | true =>
      have := (p3 hpv).2.1
      rw [← hres] at this
      exact absurd this e
  rw [m2, m3]
  rcases hr with ⟨c0, c1, c2, c3, c4⟩ | ⟨c0, c1, c2, c3, c4, c5, c6⟩ | ⟨c0, I1, c1, c2, c3, c4⟩
  · rw [c0, if_neg (show ¬ (0 : Nat) = 2 by decide), if_neg (show ¬ (0 : Nat) = 1 by decide), if_pos rfl, if_pos rfl]
    refine ⟨0, (A, S.1.2), r.2, rfl, by rw [← c1], main r.2 false c2 ?_ c4 ?_ (fun e => absurd e (by decide))⟩
    · rw [c3, p2, hno1 (by omega)]
    · rw [m3, c0]
      rfl
  · rw [c0, if_neg (show ¬ (1 : Nat) = 2 by decide), if_pos rfl, if_pos rfl, if_neg (by decide)]
    refine ⟨1, (A, S.1.2), r.2, rfl, by rw [← c1], main r.2 true c2 c3 c4 ?_ (fun _ => ⟨c0, c5, c6⟩)⟩
    rw [m3, c0]
    rfl
  · rw [c0, if_pos rfl, if_neg (by decide)]
    have hR : RR ((A, S.1.2), S.2) K I1 := main I1 false c1 c2 c3 (by
      rw [m3, c0]
      rfl) (fun e => absurd e (by decide))
    obtain ⟨M', I', x1, x2, x3⟩ := w_refuse hR (b := -9) (by decide) (by decide)
    have x1' : f_X11_refuse (-9) (A, S.1.2) = some (-9, M') := x1
    have x2' : f_X12_no (-9) I1 = some (-9, I') := x2
    rw [x1', nm_s2_some]
    exact ⟨-9, M', I', rfl, c4.symm.trans x2', x3⟩
end
