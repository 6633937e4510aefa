/-! calls, told of both sides: layers, rules, conductors, joints, gates, wishes -/
theorem bit_oneI (m : Int32) {l : Nat} (hl : l < 32) : (m >>> (zI (l : Nat) &&& 31)) &&& (1 : Int32) = bq (bi m l) := by
  have h1 : ∀ l, l < 32 → (zI ((l : Nat) : Int) &&& 31).toBitVec.smod 32 = BitVec.ofNat 32 l := by decide +kernel
  have hb1 : ∀ i, i < 32 → bi 1 i = decide (i = 0) := by decide +kernel
  have h0 : bi (m >>> (zI (l : Nat) &&& 31)) 0 = bi m l := by
    unfold bi
    rw [Int32.toBitVec_shiftRight, h1 l hl, BitVec.sshiftRight_eq', BitVec.toNat_ofNat, Nat.mod_eq_of_lt (by omega), BitVec.getLsbD_sshiftRight]
    simp [hl]
  have hext : ∀ a b : Int32, (∀ i, i < 32 → bi a i = bi b i) → a = b := fun a b h => by
    apply Int32.toBitVec.inj
    apply BitVec.eq_of_getLsbD_eq
    exact h
  have hv : ∀ i, i < 32 → bi ((m >>> (zI (l : Nat) &&& 31)) &&& (1 : Int32)) i = (bi m l && decide (i = 0)) := fun i hi => by
    rw [bi_and, hb1 i hi]
    by_cases hi0 : i = 0
    · subst hi0
      rw [h0]
    · rw [decide_eq_false hi0, Bool.and_false, Bool.and_false]
  cases hb : bi m l with
  | true => exact hext _ _ (fun i hi => by rw [hv i hi, hb, Bool.true_and]; exact (hb1 i hi).symm)
  | false => exact hext _ _ (fun i hi => by rw [hv i hi, hb, Bool.false_and]; exact (bi_z i).symm)
theorem nm_put (M : cm) (n k : Nat) (v : Int32) : ∃ M' : cm, M' = (nm_up M.1 n k v, M.2) ∧ M'.1 n k = v ∧ (∀ m j, ¬ (m = n ∧ j = k) → M'.1 m j = M.1 m j) ∧ M'.2 = M.2 :=
  ⟨_, rfl, by
    show nm_up M.1 n k v n k = v
    rw [nm_up_ap, if_pos ⟨rfl, rfl⟩], fun m j h => by
    show nm_up M.1 n k v m j = _
    rw [nm_up_ap, if_neg h], rfl⟩
theorem nm_putO (I : nm_I) (n k : Nat) (v : Int32) : ∃ I' : nm_I, I' = nm_up I n k v ∧ I' n k = v ∧ ∀ m j, ¬ (m = n ∧ j = k) → I' m j = I m j :=
  ⟨_, rfl, by rw [nm_up_ap, if_pos ⟨rfl, rfl⟩], fun m j h => by rw [nm_up_ap, if_neg h]⟩
section
variable {S : ca} {K : Nat → Nat} {I : nm_I}
theorem s_conducts (h : RR S K I) (x : Int32) (is : Bool) : simP K S.2 (f_X11_conducts x (bq is) S.1) (f_X12_conducts x (bq is) I) := by
  obtain ⟨z, z1, z2, rfl⟩ := zI_ex x
  obtain ⟨hc, ⟨hA, hB, hU, hE, hJ, hG, hL, hZ⟩, D, T, fo, nets, dn, dev, hC, hF, hW⟩ := id h
  obtain ⟨cd, e1, e2⟩ := id hE
  unfold f_X11_conducts f_X12_conducts f_X12_conducts_J28
  rw [show (16 : Int32) = zI ((16 : Nat) : Int) from rfl, out_z z1 z2 (by omega), isLayer_z z1 z2, oif, iif]
  by_cases hz : 0 ≤ z ∧ z < 16
  · obtain ⟨l, rfl⟩ := Int.eq_ofNat_of_zero_le hz.1
    have hl : l < 16 := by omega
    rw [if_pos (by omega), if_pos hz, nm_cz (by omega) (by omega) (by omega), nm_cz (by omega) (by omega) (by omega), nm_cz (by omega) (by omega) (by omega), zI_cl (by omega) (by omega), Int.toNat_natCast, e2 l hl, bit_oneI _ (by omega), e1 l hl, vp_narZ (hv01 is)]
    simp only [nm_l_eq]
    have hgo : ∀ v : Int32, (∀ i, i < 16 → bi v i = if i = l then is else cd i) → simP K S.2 (some (bq (cd l), (nm_up S.1.1 300 0 v, S.1.2))) (if bq (cd l) = 0 then some (0, nm_up I 49 l (bq is)) else some (1, nm_up I 49 l (bq is))) := by
      intro v hv
      obtain ⟨A, hA9⟩ : ∃ A, A = nm_up S.1.1 300 0 v := ⟨_, rfl⟩
      obtain ⟨J, hJ9⟩ : ∃ J, J = nm_up I 49 l (bq is) := ⟨_, rfl⟩
      rw [← hA9, ← hJ9]
      have a1 : ∀ m j, ¬ (m = 300 ∧ j = 0) → A m j = S.1.1 m j := fun m j h => by rw [hA9, nm_up_ap, if_neg h]
      have a2 : A 300 0 = v := by rw [hA9, nm_up_ap, if_pos ⟨rfl, rfl⟩]
      have j1 : ∀ m j, ¬ (m = 49 ∧ j = l) → J m j = I m j := fun m j h => by rw [hJ9, nm_up_ap, if_neg h]
      have j2 : J 49 l = bq is := by rw [hJ9, nm_up_ap, if_pos ⟨rfl, rfl⟩]
      clear hA9 hJ9
      have hn : RE ((A, S.1.2), S.2) J := by
        refine ⟨fun i => if i = l then is else cd i, fun i hi => ?_, fun i hi => ?_⟩
        · show bi (A 300 0) i = _
          rw [a2]
          exact hv i hi
        · show J 49 i = bq (if i = l then is else cd i)
          by_cases hil : i = l
          · rw [hil, j2, if_pos rfl]
          · rw [j1 _ _ (by omega), if_neg hil]
            exact e2 i hi
      have hR : RR ((A, S.1.2), S.2) K J := ⟨hc, ⟨RA_fr hA ⟨fun m j h => a1 m j (by omega), fun _ _ => rfl, fun _ _ => rfl⟩ (fun m j _ _ => j1 m j (by omega)), RB_fr hB (fun m j _ _ => a1 m j (by omega)) (fun m j _ _ => j1 m j (by omega)), RU_fr hU (fun m j _ _ => a1 m j (by omega)) rfl (fun m j _ => j1 m j (by omega)), hn, RJ_fr hJ (fun m j _ => a1 m j (by omega)) (fun m j _ => j1 m j (by omega)), RG_fr hG (fun j _ _ => a1 _ _ (by omega)) (fun j _ _ => j1 _ _ (by omega)), RLn_fr hL (a1 _ _ (by omega)) rfl (fun m j _ => j1 m j (by omega)), RZ_fr hZ (fun k => a1 _ _ (by omega)) (fun k => j1 _ _ (by omega))⟩, D, T, fo, nets, dn, dev, RC_fr hC (fun m j _ => a1 m j (by omega)) rfl (fun m j _ => j1 m j (by omega)), RF_fr hF (fun m j _ => a1 m j (by omega)) (fun _ _ => rfl) (fun _ _ _ => rfl) (fun m j _ => j1 m j (by omega)), RW_fr hW (fun m j _ _ => a1 m j (by omega)) (fun m j _ => j1 m j (by omega))⟩
      cases hcl : cd l with
      | false => exact ⟨0, (A, S.1.2), J, rfl, rfl, hR⟩
      | true => exact ⟨1, (A, S.1.2), J, rfl, rfl, hR⟩
    cases is with
    | false =>
      rw [if_pos (show bq false = 0 from rfl)]
      refine hgo _ (fun i hi => ?_)
      rw [bi_and, bi_not _ (by omega), bi_one (by omega), e1 i hi]
      by_cases hil : i = l
      · rw [if_pos hil, decide_eq_true hil.symm, Bool.not_true, Bool.and_false]
      · rw [if_neg hil, decide_eq_false (fun q => hil q.symm), Bool.not_false, Bool.and_true]
    | true =>
      rw [if_neg (show ¬ bq true = 0 by decide)]
      have hd : ∀ v w : Int32, nm_up (nm_up S.1.1 300 0 v) 300 0 w = nm_up S.1.1 300 0 w := fun v w => by
        funext m k
        rw [nm_up_ap, nm_up_ap, nm_up_ap]
        by_cases hmk : m = 300 ∧ k = 0
        · rw [if_pos hmk, if_pos hmk]
        · rw [if_neg hmk, if_neg hmk, if_neg hmk]
      show simP K S.2 (some (bq (cd l), (nm_up (nm_up S.1.1 300 0 (S.1.1 300 0 &&& (((1 : Int32) <<< (zI (l : Nat) &&& 31)) ^^^ (-1 : Int32)))) 300 0 ((nm_up S.1.1 300 0 (S.1.1 300 0 &&& (((1 : Int32) <<< (zI (l : Nat) &&& 31)) ^^^ (-1 : Int32)))) 300 0 ||| ((1 : Int32) <<< (zI (l : Nat) &&& 31))), S.1.2))) _
      rw [hd]
      refine hgo _ (fun i hi => ?_)
      rw [nm_up_ap, if_pos ⟨rfl, rfl⟩, bi_or, bi_and, bi_not _ (by omega), bi_one (by omega), e1 i hi]
      by_cases hil : i = l
      · rw [if_pos hil, decide_eq_true hil.symm, Bool.or_true]
      · rw [if_neg hil, decide_eq_false (fun q => hil q.symm), Bool.not_false, Bool.and_true, Bool.or_false]
  · rw [if_neg (by omega), if_neg hz]
    exact simP_no h (b := -3) rfl (by decide) (by decide)
theorem s_gates (h : RR S K I) (x y w : Int32) : simP K S.2 (f_X11_gates x y w S.1) (f_X12_gates x y w I) := by
  obtain ⟨z, z1, z2, rfl⟩ := zI_ex x
  obtain ⟨u, u1, u2, rfl⟩ := zI_ex y
  obtain ⟨v, v1, v2, rfl⟩ := zI_ex w
  obtain ⟨hc, ⟨hA, hB, hU, hE, hJ, hG, hL, hZ⟩, D, T, fo, nets, dn, dev, hC, hF, hW⟩ := id h
  obtain ⟨cd, e1, e2⟩ := id hE
  unfold f_X11_gates f_X12_gates
  rw [show (16 : Int32) = zI ((16 : Nat) : Int) from rfl, out_z z1 z2 (by omega), out_z u1 u2 (by omega), out_z v1 v2 (by omega), isLayer_z z1 z2, isLayer_z u1 u2, isLayer_z v1 v2, oif, oif, oif, iif, iif, iif]
  have hno := simP_no h (x := -3) (b := -3) rfl (by decide) (by decide)
  by_cases hz : ¬ (0 ≤ z ∧ z < 16)
  · rw [if_neg (by omega), if_neg hz]
    exact hno
  replace hz := Classical.not_not.mp hz
  rw [if_pos (show 0 ≤ z ∧ z < ((16 : Nat) : Int) by omega), if_pos hz]
  by_cases hu : ¬ (0 ≤ u ∧ u < 16)
  · rw [if_neg (by omega), if_neg hu]
    exact hno
  replace hu := Classical.not_not.mp hu
  rw [if_pos (show 0 ≤ u ∧ u < ((16 : Nat) : Int) by omega), if_pos hu]
  by_cases hv : ¬ (0 ≤ v ∧ v < 16)
  · rw [if_neg (by omega), if_neg hv]
    exact hno
  replace hv := Classical.not_not.mp hv
  rw [if_pos (show 0 ≤ v ∧ v < ((16 : Nat) : Int) by omega), if_pos hv]
  obtain ⟨g, rfl⟩ := Int.eq_ofNat_of_zero_le hz.1
  obtain ⟨wl, rfl⟩ := Int.eq_ofNat_of_zero_le hu.1
  obtain ⟨c, rfl⟩ := Int.eq_ofNat_of_zero_le hv.1
  rw [nm_cz (by omega) (by omega) (by omega), zI_cl (by omega) (by omega), Int.toNat_natCast, e2 c (by omega)]
  cases hcd : cd c with
  | false =>
    rw [if_pos ((bi_0 _ (by omega)).mpr ((e1 c (by omega)).trans hcd)), if_pos (show (if false = true then (1 : Int32) else 0) = 0 from rfl)]
    exact simP_no h (b := -7) rfl (by decide) (by decide)
  | true =>
    rw [if_neg (fun q => by
      have := (bi_0 _ (by omega)).mp q
      rw [e1 c (by omega), hcd] at this
      exact absurd this (by decide)), if_neg (show ¬ (if true = true then (1 : Int32) else 0) = 0 by decide)]
    unfold f_X2_tellGates
    simp only [nm_l_eq, nm_s1_some]
    obtain ⟨A, hA9⟩ : ∃ A, A = nm_up (nm_up (nm_up S.1.1 300 6 (zI (g : Nat))) 300 7 (zI (wl : Nat))) 300 8 (zI (c : Nat)) := ⟨_, rfl⟩
    obtain ⟨J, hJ9⟩ : ∃ J, J = nm_up (nm_up (nm_up I 0 54 (zI (g : Nat))) 0 55 (zI (wl : Nat))) 0 56 (zI (c : Nat)) := ⟨_, rfl⟩
    rw [← hA9, ← hJ9]
    have a1 : ∀ m j, ¬ (m = 300 ∧ (j = 6 ∨ j = 7 ∨ j = 8)) → A m j = S.1.1 m j := fun m j h => by rw [hA9, nm_up_ap, if_neg (by omega), nm_up_ap, if_neg (by omega), nm_up_ap, if_neg (by omega)]
    have a2 : A 300 6 = zI (g : Nat) ∧ A 300 7 = zI (wl : Nat) ∧ A 300 8 = zI (c : Nat) := by
      rw [hA9]
      refine ⟨?_, ?_, ?_⟩
      · rw [nm_up_ap, if_neg (by omega), nm_up_ap, if_neg (by omega), nm_up_ap, if_pos ⟨rfl, rfl⟩]
      · rw [nm_up_ap, if_neg (by omega), nm_up_ap, if_pos ⟨rfl, rfl⟩]
      · rw [nm_up_ap, if_pos ⟨rfl, rfl⟩]
    have j1 : ∀ m j, ¬ (m = 0 ∧ (j = 54 ∨ j = 55 ∨ j = 56)) → J m j = I m j := fun m j h => by rw [hJ9, nm_up_ap, if_neg (by omega), nm_up_ap, if_neg (by omega), nm_up_ap, if_neg (by omega)]
    have j2 : J 0 54 = zI (g : Nat) ∧ J 0 55 = zI (wl : Nat) ∧ J 0 56 = zI (c : Nat) := by
      rw [hJ9]
      refine ⟨?_, ?_, ?_⟩
      · rw [nm_up_ap, if_neg (by omega), nm_up_ap, if_neg (by omega), nm_up_ap, if_pos ⟨rfl, rfl⟩]
      · rw [nm_up_ap, if_neg (by omega), nm_up_ap, if_pos ⟨rfl, rfl⟩]
      · rw [nm_up_ap, if_pos ⟨rfl, rfl⟩]
    clear hA9 hJ9
    have hn : RG ((A, S.1.2), S.2) J := ⟨some (g, wl, c), fun t ht => by
      cases ht
      exact ⟨show g < 16 by omega, show wl < 16 by omega, show c < 16 by omega⟩, a2, j2⟩
    exact ⟨1, (A, S.1.2), J, rfl, rfl, hc, ⟨RA_fr hA ⟨fun m j h => a1 m j (by omega), fun _ _ => rfl, fun _ _ => rfl⟩ (fun m j _ _ => j1 m j (by omega)), RB_fr hB (fun m j _ _ => a1 m j (by omega)) (fun m j _ _ => j1 m j (by omega)), RU_fr hU (fun m j _ _ => a1 m j (by omega)) rfl (fun m j _ => j1 m j (by omega)), RE_fr hE (a1 _ _ (by omega)) (fun j => j1 _ _ (by omega)), RJ_fr hJ (fun m j _ => a1 m j (by omega)) (fun m j _ => j1 m j (by omega)), hn, RLn_fr hL (a1 _ _ (by omega)) rfl (fun m j _ => j1 m j (by omega)), RZ_fr hZ (fun k => a1 _ _ (by omega)) (fun k => j1 _ _ (by omega))⟩, D, T, fo, nets, dn, dev, RC_fr hC (fun m j _ => a1 m j (by omega)) rfl (fun m j _ => j1 m j (by omega)), RF_fr hF (fun m j _ => a1 m j (by omega)) (fun _ _ => rfl) (fun _ _ _ => rfl) (fun m j _ => j1 m j (by omega)), RW_fr hW (fun m j _ _ => a1 m j (by omega)) (fun m j _ => j1 m j (by omega))⟩
theorem s_joint (h : RR S K I) (x y w : Int32) : simP K S.2 (f_X11_joint x y w S.1) (f_X12_joint x y w I) := by
  obtain ⟨z, z1, z2, rfl⟩ := zI_ex x
  obtain ⟨u, u1, u2, rfl⟩ := zI_ex y
  obtain ⟨v, v1, v2, rfl⟩ := zI_ex w
  obtain ⟨hc, ⟨hA, hB, hU, hE, hJ, hG, hL, hZ⟩, D, T, fo, nets, dn, dev, hC, hF, hW⟩ := id h
  obtain ⟨jl, jn, ⟨q0, q1⟩, ⟨x0, x1⟩, o0, o1⟩ := id hJ
  unfold f_X11_joint f_X12_joint
  rw [show (16 : Int32) = zI ((16 : Nat) : Int) from rfl, out_z z1 z2 (by omega), out_z u1 u2 (by omega), out_z v1 v2 (by omega), isLayer_z z1 z2, isLayer_z u1 u2, isLayer_z v1 v2, oif, oif, oif, iif, iif, iif]
  have hno := simP_no h (x := -3) (b := -3) rfl (by decide) (by decide)
  by_cases hz : ¬ (0 ≤ z ∧ z < 16)
  · rw [if_neg (by omega), if_neg hz]
    exact hno
  replace hz := Classical.not_not.mp hz
  rw [if_pos (show 0 ≤ z ∧ z < ((16 : Nat) : Int) by omega), if_pos hz]
  by_cases hu : ¬ (0 ≤ u ∧ u < 16)
  · rw [if_neg (by omega), if_neg hu]
    exact hno
  replace hu := Classical.not_not.mp hu
  rw [if_pos (show 0 ≤ u ∧ u < ((16 : Nat) : Int) by omega), if_pos hu]
  by_cases hv : ¬ (0 ≤ v ∧ v < 16)
  · rw [if_neg (by omega), if_neg hv]
    exact hno
  replace hv := Classical.not_not.mp hv
  rw [if_pos (show 0 ≤ v ∧ v < ((16 : Nat) : Int) by omega), if_pos hv]
  obtain ⟨g, rfl⟩ := Int.eq_ofNat_of_zero_le hz.1
  obtain ⟨wl, rfl⟩ := Int.eq_ofNat_of_zero_le hu.1
  obtain ⟨c, rfl⟩ := Int.eq_ofNat_of_zero_le hv.1
  rw [x0, o0, show (8 : Int32) = zI 8 from rfl]
  by_cases hj8 : jn = 8
  · rw [if_neg (by
      rw [zI_lt (by omega) (by omega) (by omega) (by omega)]
      omega), if_pos (by rw [hj8]; rfl)]
    exact simP_no h (b := -8) rfl (by decide) (by decide)
  rw [if_pos (by
    rw [zI_lt (by omega) (by omega) (by omega) (by omega)]
    omega), if_neg (by
    rw [zI_eq (by omega) (by omega) (by omega) (by omega)]
    omega)]
  unfold f_X2_addJoint
  obtain ⟨M1, m11, m12, m13, m14⟩ := nm_put S.1 301 (3 * jn) (zI (g : Nat))
  obtain ⟨M2, m21, m22, m23, m24⟩ := nm_put M1 301 (3 * jn + 1) (zI (wl : Nat))
  obtain ⟨M3, m31, m32, m33, m34⟩ := nm_put M2 301 (3 * jn + 2) (zI (c : Nat))
  obtain ⟨M4, m41, m42, m43, m44⟩ := nm_put M3 300 1 (zI ((jn + 1 : Nat) : Int))
  have c1 : M1.1 300 1 = zI (jn : Nat) := (m13 _ _ (by omega)).trans x0
  have c2 : M2.1 300 1 = zI (jn : Nat) := (m23 _ _ (by omega)).trans c1
  have c3 : M3.1 300 1 = zI (jn : Nat) := (m33 _ _ (by omega)).trans c2
  rw [x0, show (3 : Int32) = zI 3 from rfl, zI_mul, nm_cz (by omega) (by omega) (by omega), zI_cl (by omega) (by omega), show (3 * ((jn : Nat) : Int)).toNat = 3 * jn by omega, ← m11, nm_l_eq, c1, zI_mul, zI_inc, nm_cz (by omega) (by omega) (by omega), zI_cl (by omega) (by omega), show (3 * ((jn : Nat) : Int) + 1).toNat = 3 * jn + 1 by omega, ← m21, nm_l_eq, c2, zI_mul, show (2 : Int32) = zI 2 from rfl, zI_add, nm_cz (by omega) (by omega) (by omega), zI_cl (by omega) (by omega), show (3 * ((jn : Nat) : Int) + 2).toNat = 3 * jn + 2 by omega, ← m31, nm_l_eq, c3, zI_inc, show ((jn : Nat) : Int) + 1 = ((jn + 1 : Nat) : Int) from rfl, ← m41, nm_l_eq, m42, nm_s2_some]
  have hM42 : M4.2 = S.1.2 := by rw [m44, m34, m24, m14]
  obtain ⟨A, hA9⟩ : ∃ A, A = M4.1 := ⟨_, rfl⟩
  have a1 : ∀ m j, ¬ (m = 300 ∧ j = 1) → ¬ (m = 301 ∧ (j = 3 * jn ∨ j = 3 * jn + 1 ∨ j = 3 * jn + 2)) → A m j = S.1.1 m j := fun m j h h2 => by rw [hA9, m43 m j h, m33 m j (by omega), m23 m j (by omega), m13 m j (by omega)]
  have a2 : A 300 1 = zI ((jn + 1 : Nat) : Int) := by rw [hA9, m42]
  have a3 : A 301 (3 * jn) = zI (g : Nat) ∧ A 301 (3 * jn + 1) = zI (wl : Nat) ∧ A 301 (3 * jn + 2) = zI (c : Nat) := by
    rw [hA9]
    refine ⟨?_, ?_, ?_⟩
    · rw [m43 _ _ (by omega), m33 _ _ (by omega), m23 _ _ (by omega), m12]
    · rw [m43 _ _ (by omega), m33 _ _ (by omega), m22]
    · rw [m43 _ _ (by omega), m32]
  have hM4 : M4 = (A, S.1.2) := by rw [hA9, ← hM42]
  rw [hM4]
  clear hA9 hM4
  rw [nm_cz (by omega) (by omega) (by omega), zI_cl (by omega) (by omega), Int.toNat_natCast, nm_l_eq, nm_up_n _ _ _ _ (show 0 ≠ 51 by omega), o0, nm_cz (by omega) (by omega) (by omega), zI_cl (by omega) (by omega), Int.toNat_natCast, nm_l_eq, nm_up_n _ _ _ _ (show 0 ≠ 52 by omega), nm_up_n _ _ _ _ (show 0 ≠ 51 by omega), o0, nm_cz (by omega) (by omega) (by omega), zI_cl (by omega) (by omega), Int.toNat_natCast, nm_l_eq, nm_l_eq]
  obtain ⟨J0, hJ0⟩ : ∃ J0, J0 = nm_up (nm_up (nm_up I 51 jn (zI (g : Nat))) 52 jn (zI (wl : Nat))) 53 jn (zI (c : Nat)) := ⟨_, rfl⟩
  rw [← hJ0]
  have t1 : ∀ m j, ¬ (51 ≤ m ∧ m ≤ 53 ∧ j = jn) → J0 m j = I m j := fun m j h => by rw [hJ0, nm_up_ap, if_neg (by omega), nm_up_ap, if_neg (by omega), nm_up_ap, if_neg (by omega)]
  have t2 : J0 51 jn = zI (g : Nat) ∧ J0 52 jn = zI (wl : Nat) ∧ J0 53 jn = zI (c : Nat) := by
    rw [hJ0]
    refine ⟨?_, ?_, ?_⟩
    · rw [nm_up_ap, if_neg (by omega), nm_up_ap, if_neg (by omega), nm_up_ap, if_pos ⟨rfl, rfl⟩]
    · rw [nm_up_ap, if_neg (by omega), nm_up_ap, if_pos ⟨rfl, rfl⟩]
    · rw [nm_up_ap, if_pos ⟨rfl, rfl⟩]
  clear hJ0
  obtain ⟨J, hJ9⟩ : ∃ J, J = nm_up J0 0 53 (J0 0 53 + 1) := ⟨_, rfl⟩
  rw [← hJ9]
  have j1 : ∀ m j, ¬ (m = 0 ∧ j = 53) → ¬ (51 ≤ m ∧ m ≤ 53 ∧ j = jn) → J m j = I m j := fun m j h h2 => by rw [hJ9, nm_up_ap, if_neg h, t1 m j h2]
  have j2 : J 0 53 = zI ((jn + 1 : Nat) : Int) := by
    rw [hJ9, nm_up_ap, if_pos ⟨rfl, rfl⟩, t1 _ _ (by omega), o0, zI_inc]
    rfl
  have j3 : J 51 jn = zI (g : Nat) ∧ J 52 jn = zI (wl : Nat) ∧ J 53 jn = zI (c : Nat) := by
    rw [hJ9, nm_up_n _ _ _ _ (show 51 ≠ 0 by omega), nm_up_n _ _ _ _ (show 52 ≠ 0 by omega), nm_up_n _ _ _ _ (show 53 ≠ 0 by omega)]
    exact t2
  clear hJ9 t1 t2
  have hn : RJ ((A, S.1.2), S.2) J := by
    refine ⟨fun i => if i = jn then (g, wl, c) else jl i, jn + 1, ⟨by omega, fun i hi => ?_⟩, ⟨a2, fun i hi => ?_⟩, j2, fun i hi => ?_⟩
    · by_cases hij : i = jn
      · simp only [if_pos hij]
        exact ⟨by omega, by omega, by omega⟩
      · simp only [if_neg hij]
        exact q1 i (by omega)
    · show A 301 _ = _ ∧ A 301 _ = _ ∧ A 301 _ = _
      by_cases hij : i = jn
      · subst hij
        simp only [if_pos rfl]
        exact a3
      · simp only [if_neg hij]
        rw [a1 _ _ (by omega) (by omega), a1 _ _ (by omega) (by omega), a1 _ _ (by omega) (by omega)]
        exact x1 i (by omega)
    · by_cases hij : i = jn
      · subst hij
        simp only [if_pos rfl]
        exact j3
      · simp only [if_neg hij]
        rw [j1 _ _ (by omega) (by omega), j1 _ _ (by omega) (by omega), j1 _ _ (by omega) (by omega)]
        exact o1 i (by omega)
  have a1' : ∀ m j, ¬ (m = 300 ∧ j = 1) → m ≠ 301 → A m j = S.1.1 m j := fun m j h h2 => a1 m j h (by omega)
  have j1' : ∀ m j, ¬ (m = 0 ∧ j = 53) → ¬ (51 ≤ m ∧ m ≤ 53) → J m j = I m j := fun m j h h2 => j1 m j h (by omega)
  clear a1 j1
  have a1 : ∀ m j, ¬ ((m = 300 ∧ j = 1) ∨ m = 301) → A m j = S.1.1 m j := fun m j h => a1' m j (by omega) (by omega)
  have j1 : ∀ m j, ¬ ((m = 0 ∧ j = 53) ∨ (51 ≤ m ∧ m ≤ 53)) → J m j = I m j := fun m j h => j1' m j (by omega) (by omega)
  exact ⟨zI ((jn + 1 : Nat) : Int), (A, S.1.2), J, rfl, by rw [j2], hc, ⟨RA_fr hA ⟨fun m j h => a1 m j (by omega), fun _ _ => rfl, fun _ _ => rfl⟩ (fun m j _ _ => j1 m j (by omega)), RB_fr hB (fun m j _ _ => a1 m j (by omega)) (fun m j _ _ => j1 m j (by omega)), RU_fr hU (fun m j _ _ => a1 m j (by omega)) rfl (fun m j _ => j1 m j (by omega)), RE_fr hE (a1 _ _ (by omega)) (fun j => j1 _ _ (by omega)), hn, RG_fr hG (fun j _ _ => a1 _ _ (by omega)) (fun j _ _ => j1 _ _ (by omega)), RLn_fr hL (a1 _ _ (by omega)) rfl (fun m j _ => j1 m j (by omega)), RZ_fr hZ (fun k => a1 _ _ (by omega)) (fun k => j1 _ _ (by omega))⟩, D, T, fo, nets, dn, dev, RC_fr hC (fun m j _ => a1 m j (by omega)) rfl (fun m j _ => j1 m j (by omega)), RF_fr hF (fun m j _ => a1 m j (by omega)) (fun _ _ => rfl) (fun _ _ _ => rfl) (fun m j _ => j1 m j (by omega)), RW_fr hW (fun m j _ _ => a1 m j (by omega)) (fun m j _ => j1 m j (by omega))⟩
end
