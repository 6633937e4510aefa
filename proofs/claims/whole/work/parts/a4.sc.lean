/-! calls, told of both sides: the circuit asked -/
theorem isInN {z : Int} (h1 : -2147483648 ≤ z) (h2 : z < 2147483648) {n : Nat} (hn : n < 2147483648) : f_X12_isIn (zI z).toInt64 0 ((zI (n : Nat) - (1 : Int32)).toInt64) = if 0 ≤ z ∧ z < n then 1 else 0 := by
  rw [isIn_z h1 h2, show (1 : Int32) = zI 1 from rfl, zI_sub, zI_64 (by omega) (by omega), show (0 : Int64).toInt = 0 by decide]
  by_cases h : 0 ≤ z ∧ z < n
  · rw [if_pos h, if_pos (by omega)]
  · rw [if_neg h, if_neg (by omega)]
theorem w_conducted {M : cm} {l : Nat} (hl : l < 16) {c : Bool} (h : bi (M.1 300 9) l = c) : f_X2_conducted (zI (l : Nat)) M = bq c := by
  unfold f_X2_conducted
  cases c with
  | false => rw [if_pos ((bi_0 _ (by omega)).mpr h)]
             rfl
  | true => rw [if_neg (fun e => by
      rw [(bi_0 _ (by omega)).mp e] at h
      cases h)]
            rfl
section
variable {S : ca} {K : Nat → Nat} {I : nm_I}
theorem s_net (h : RR S K I) (x y : Int32) : simP K S.2 (f_X11_net S.2 x y S.1) (f_X12_net x y I) := by
  obtain ⟨z, z1, z2, rfl⟩ := zI_ex x
  obtain ⟨w, w1, w2, rfl⟩ := zI_ex y
  obtain ⟨hc, ⟨hA, hB, hU, hE, hJ, hG, hL, hZ⟩, D, T, fo, nets, dn, dev, hC, hF, hW⟩ := id h
  obtain ⟨f1, f2, f3⟩ := id hF
  have hno3 := simP_no h (x := -3) (b := -3) rfl (by decide) (by decide)
  unfold f_X11_net f_X12_net
  rw [show (16 : Int32) = zI ((16 : Nat) : Int) from rfl, show f_X11_outside (zI w) 4096 = f_X11_outside (zI w) (zI ((4096 : Nat) : Int)) from rfl, out_z z1 z2 (by omega), out_z w1 w2 (by omega), isLayer_z z1 z2, isSquare_z w1 w2, oif, oif, iif, iif, f1, f2]
  by_cases hz : ¬ (0 ≤ z ∧ z < 16)
  · rw [if_neg (by omega), if_neg hz]
    exact hno3
  replace hz := Classical.not_not.mp hz
  rw [if_pos (show 0 ≤ z ∧ z < ((16 : Nat) : Int) by omega), if_pos hz]
  by_cases hw : ¬ (0 ≤ w ∧ w < 4096)
  · rw [if_neg (by omega), if_neg hw]
    exact hno3
  replace hw := Classical.not_not.mp hw
  rw [if_pos (show 0 ≤ w ∧ w < ((4096 : Nat) : Int) by omega), if_pos hw]
  cases fo with
  | false => exact simP_no h (b := -2) rfl (by decide) (by decide)
  | true =>
    obtain ⟨l, rfl⟩ := Int.eq_ofNat_of_zero_le hz.1
    obtain ⟨q, rfl⟩ := Int.eq_ofNat_of_zero_le hw.1
    obtain ⟨cd, jl, jn, gt, ⟨⟨lab, g, gl⟩, v, w'⟩, ⟨⟨t1, t2⟩, u, z'⟩, d, e, f, k⟩ := f3 rfl
    rw [if_neg (show ¬ bq true = 0 by decide), if_neg (show ¬ bq true = 0 by decide), w_conducted (by omega) (w' l (by omega)), w_netAt hc g (by omega) (by omega), nm_s1_some, nm_cz (by omega) (by omega) (by omega), zI_cl (by omega) (by omega), Int.toNat_natCast, z' l (by omega), show (4096 : Int32) = zI 4096 from rfl, zI_mul, zI_add, nm_cz (by omega) (by omega) (by omega), zI_cl (by omega) (by omega), show (4096 * ((l : Nat) : Int) + ((q : Nat) : Int)).toNat = 4096 * l + q by omega, t1 _ (by omega), gl _ (by omega)]
    cases cd l with
    | false => exact simP_no h (b := -7) rfl (by decide) (by decide)
    | true =>
      rw [if_neg (show ¬ bq true = 0 by decide), if_neg (show ¬ (if true = true then (1 : Int32) else 0) = 0 by decide)]
      exact simP_q h rfl
theorem s_name (h : RR S K I) (x c : Int32) : simP K S.2 (f_X11_name S.2 x c S.1) (f_X12_name x c I) := by
  obtain ⟨z, z1, z2, rfl⟩ := zI_ex x
  obtain ⟨hc, ⟨hA, hB, hU, hE, hJ, hG, hL, hZ⟩, D, T, fo, nets, dn, dev, hC, hF, hW⟩ := id h
  obtain ⟨f1, f2, f3⟩ := id hF
  have hC' := hC
  obtain ⟨-, hD, hO, ⟨d1, d2, d3⟩, e1, e2, e3⟩ := hC'
  have hno4 := simP_no h (x := -4) (b := -4) rfl (by decide) (by decide)
  unfold f_X11_name f_X12_name
  rw [f1, f2]
  cases fo with
  | false => exact simP_no h (b := -2) rfl (by decide) (by decide)
  | true =>
    obtain ⟨cd, jl, jn, gt, ⟨⟨lab, g, gl⟩, v, w'⟩, ⟨⟨t1, t2⟩, u, z'⟩, d, e, f, k⟩ := f3 rfl
    have hnn := nnC_le (D := D) (cd := cd) (jl := jl) (jn := jn)
    have h310 : S.1.1 310 1 = zI ((nnC D cd jl jn : Nat) : Int) := g.2.2.2.2.2.1
    have h57 : I 0 57 = zI ((nnC D cd jl jn : Nat) : Int) := t2
    rw [if_neg (show ¬ bq true = 0 by decide), if_neg (show ¬ bq true = 0 by decide), h310, h57, out_z z1 z2 (by omega), isInN z1 z2 (by omega), oif, iif]
    by_cases hz : ¬ (0 ≤ z ∧ z < ((nnC D cd jl jn : Nat) : Int))
    · rw [if_neg hz, if_neg hz]
      exact simP_no h (b := -3) rfl (by decide) (by decide)
    replace hz := Classical.not_not.mp hz
    rw [if_pos hz, if_pos hz]
    by_cases hc0 : ¬ 0 ≤ c
    · rw [if_neg hc0, if_neg hc0]
      exact hno4
    replace hc0 := Classical.not_not.mp hc0
    rw [if_pos hc0, if_pos hc0]
    unfold f_X2_nameOf
    have key : ∀ (f i : Nat) (c : Int32), i ≤ T.length → T.length - i < f → ∃ r, f_X2_nameOf_L6 S.2 (zI z) S.1 (fun (_ : Unit) => some (-1 : Int32)) f c (zI (i : Nat)) = some r ∧ f_X12_name_L53 (zI z) I (fun (_ : Unit) => some ((-1 : Int32), I)) f c (zI (i : Nat)) = some (r, I) := by
      intro f
      induction f with
      | zero => intro i c h1 h2; omega
      | succ f ih =>
        intro i c hi hf
        rw [f_X2_nameOf_L6, f_X12_name_L53, d1, e1]
        simp (disch := omega) only [zI_le]
        by_cases h : ((T.length : Nat) : Int) ≤ ((i : Nat) : Int)
        · rw [if_pos h, if_pos h]
          exact ⟨_, rfl, rfl⟩
        obtain ⟨x1, x2⟩ := d3 i (by omega)
        obtain ⟨y1, y2, y3, y4⟩ := e3 i (by omega)
        obtain ⟨k1, k2, k3⟩ := id x1
        rw [if_neg h, if_neg h, nm_cz (by omega) (by omega) (by omega), zI_cl (by omega) (by omega), Int.toNat_natCast, nm_l_eq, x2, w_layerOf x1, w_squareOf x1, w_netAt hc g k1 k2, nm_s1_some, w_nameOf x1, nm_cz (by omega) (by omega) (by omega), nm_cz (by omega) (by omega) (by omega), y2, y3, show (4096 : Int32) = zI 4096 from rfl, zI_mul, zI_add, nm_cz (by omega) (by omega) (by omega), zI_cl (by omega) (by omega), show (4096 * (((T.getD i d0).1 : Nat) : Int) + (((T.getD i d0).2.1 : Nat) : Int)).toNat = 4096 * (T.getD i d0).1 + (T.getD i d0).2.1 by omega, t1 _ (by omega), gl _ (by omega), nm_cz (by omega) (by omega) (by omega), y4]
        unfold f_X2_nameOf_J56 f_X12_name_J108
        rw [zI_inc]
        by_cases hq : zI (nlb D cd jl jn (4096 * (T.getD i d0).1 + (T.getD i d0).2.1)) = zI z
        · rw [if_pos hq, if_pos hq]
          by_cases hc1 : c = 0
          · rw [if_pos hc1, if_pos hc1]
            exact ⟨_, rfl, rfl⟩
          · rw [if_neg hc1, if_neg hc1]
            exact ih (i + 1) _ (by omega) (by omega)
        · rw [if_neg hq, if_neg hq]
          exact ih (i + 1) _ (by omega) (by omega)
    obtain ⟨r, r1, r2⟩ := key nm_F 0 c (by omega) (by rw [nm_F_eq]; omega)
    rw [nm_l_eq, nm_l_eq, show (0 : Int32) = zI ((0 : Nat) : Int) from rfl, r1, r2, nm_s1_some]
    exact simP_q h rfl
theorem s_device (h : RR S K I) (x y : Int32) : simP K S.2 (f_X11_device S.2 x y S.1) (f_X12_device x y I) := by
  obtain ⟨z, z1, z2, rfl⟩ := zI_ex x
  obtain ⟨w, w1, w2, rfl⟩ := zI_ex y
  obtain ⟨hc, ⟨hA, hB, hU, hE, hJ, hG, hL, hZ⟩, D, T, fo, nets, dn, dev, hC, hF, hW⟩ := id h
  obtain ⟨f1, f2, f3⟩ := id hF
  have hno7 := simP_no h (x := -7) (b := -7) rfl (by decide) (by decide)
  unfold f_X11_device f_X12_device
  rw [f1, f2]
  cases fo with
  | false => exact simP_no h (b := -2) rfl (by decide) (by decide)
  | true =>
    obtain ⟨cd, jl, jn, gt, ⟨gg, ⟨v1, v2, v3⟩, w'⟩, ⟨tt, ⟨u1, u2⟩, z'⟩, ⟨r1, r2⟩, e, f, k⟩ := f3 rfl
    rw [if_neg (show ¬ bq true = 0 by decide), if_neg (show ¬ bq true = 0 by decide), v1, u1]
    by_cases hm : zI z = (-1 : Int32)
    · rw [if_pos hm, if_pos hm]
      exact simP_q h rfl
    rw [if_neg hm, if_neg hm, out_z z1 z2 (by omega), isInN z1 z2 (by omega), oif, iif]
    by_cases hz : ¬ (0 ≤ z ∧ z < ((dvN D gt : Nat) : Int))
    · rw [if_neg hz, if_neg hz]
      exact simP_no h (b := -3) rfl (by decide) (by decide)
    replace hz := Classical.not_not.mp hz
    rw [if_pos hz, if_pos hz, show (4 : Int32) = zI ((4 : Nat) : Int) from rfl, out_z w1 w2 (by omega), oif]
    obtain ⟨d, rfl⟩ := Int.eq_ofNat_of_zero_le hz.1
    obtain ⟨o1, o2, o3, o4⟩ := w_ofDev (N := S.2) (M := S.1) (dev := dvF D cd jl jn gt) (n := dvN D gt) ⟨v2, v3⟩ r1 (d := d) (by omega)
    obtain ⟨p1, p2, p3, p4⟩ := u2 d (by omega)
    have hcn : ∀ {β : Type} (Kf : Option β), nm_c (zI (d : Nat)) 4096 Kf = Kf := fun Kf => nm_cz (by omega) (by omega) (by omega)
    have hcl : (zI (d : Nat)).toNatClampNeg = d := by
      rw [zI_cl (by omega) (by omega), Int.toNat_natCast]
    have t0 : zI w = (0 : Int32) ↔ w = 0 := by rw [show (0 : Int32) = zI 0 from rfl, zI_eq (by omega) (by omega) (by omega) (by omega)]
    have t1 : zI w = (1 : Int32) ↔ w = 1 := by rw [show (1 : Int32) = zI 1 from rfl, zI_eq (by omega) (by omega) (by omega) (by omega)]
    have t2 : zI w = (2 : Int32) ↔ w = 2 := by rw [show (2 : Int32) = zI 2 from rfl, zI_eq (by omega) (by omega) (by omega) (by omega)]
    have t3 : zI w = (3 : Int32) ↔ w = 3 := by rw [show (3 : Int32) = zI 3 from rfl, zI_eq (by omega) (by omega) (by omega) (by omega)]
    rw [hcn, hcn, hcn, hcn, hcl, p1, p2, p3, p4]
    by_cases hw : ¬ (0 ≤ w ∧ w < ((4 : Nat) : Int))
    · rw [if_neg hw, if_neg (fun e => hw (by rw [t0.mp e]; decide)), if_neg (fun e => hw (by rw [t1.mp e]; decide)), if_neg (fun e => hw (by rw [t2.mp e]; decide)), if_neg (fun e => hw (by rw [t3.mp e]; decide))]
      exact hno7
    replace hw := Classical.not_not.mp hw
    rw [if_pos hw]
    by_cases w0 : w = 0
    · rw [if_pos (t0.mpr w0), t0.mpr w0, o1, nm_s1_some]
      exact simP_q h rfl
    rw [if_neg (fun e => w0 (t0.mp e))]
    by_cases w1 : w = 1
    · rw [if_pos (t1.mpr w1), t1.mpr w1, o2, nm_s1_some]
      exact simP_q h rfl
    rw [if_neg (fun e => w1 (t1.mp e))]
    by_cases w2 : w = 2
    · rw [if_pos (t2.mpr w2), t2.mpr w2, o3, nm_s1_some]
      exact simP_q h rfl
    rw [if_neg (fun e => w2 (t2.mp e))]
    have w3 : w = 3 := by omega
    rw [if_pos (t3.mpr w3), t3.mpr w3, o4, nm_s1_some]
    exact simP_q h rfl
end
