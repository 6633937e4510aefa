/-! calls, told of both sides: shape, undo, times -/
section
variable {S : ca} {K : Nat → Nat} {I : nm_I}
theorem s_shape (h : RR S K I) (x y u : Int32) : simP K S.2 (f_X11_shape K x y u S.1) (f_X12_shape x y u I) := by
  obtain ⟨z, z1, z2, rfl⟩ := zI_ex x
  obtain ⟨w, w1, w2, rfl⟩ := zI_ex y
  obtain ⟨v, v1, v2, rfl⟩ := zI_ex u
  obtain ⟨hc, ⟨hA, hB, hU, hE, hJ, hG, hL, hZ⟩, D, T, fo, nets, dn, dev, hC, hF, hW⟩ := id h
  obtain ⟨sd, cnt, hcl, hcO⟩ := id hA
  have hno3 := simP_no h (x := -3) (b := -3) rfl (by decide) (by decide)
  have hno7 := simP_no h (x := -7) (b := -7) rfl (by decide) (by decide)
  unfold f_X11_shape f_X12_shape
  rw [isShape_z hcO z1 z2 w1 w2, nm_s1_some, iif, show f_X11_outside (zI z) 8 = f_X11_outside (zI z) (zI ((8 : Nat) : Int)) from rfl, out_z z1 z2 (by omega), oif]
  by_cases hz : ¬ (0 ≤ z ∧ z < 8)
  · rw [if_neg (by omega), if_neg (fun e => hz e.1)]
    exact hno3
  replace hz := Classical.not_not.mp hz
  obtain ⟨c, rfl⟩ := Int.eq_ofNat_of_zero_le hz.1
  obtain ⟨⟨n16, e1, e2⟩, -, -⟩ := hcl c (by omega)
  rw [if_pos (by omega), Int.toNat_natCast, nm_cz (by omega) (by omega) (by omega), zI_cl (by omega) (by omega), Int.toNat_natCast, nm_l_eq, e1, out_z w1 w2 (by omega), oif]
  by_cases hw : ¬ (0 ≤ w ∧ w < ((cnt c : Nat) : Int))
  · rw [if_neg hw, if_neg (fun e => hw e.2)]
    exact hno3
  replace hw := Classical.not_not.mp hw
  obtain ⟨k, rfl⟩ := Int.eq_ofNat_of_zero_le hw.1
  obtain ⟨o1, o2⟩ := e2 k (by omega)
  obtain ⟨K0, K6, K5, K7⟩ := okS_K o1 o2
  obtain ⟨-, -, p3⟩ := hcO c (by omega)
  obtain ⟨-, p4⟩ := p3 k (by omega)
  have hcn : ∀ {β : Type} (Kf : Option β), nm_c (zI (16 * ((c : Nat) : Int) + ((k : Nat) : Int))) 128 Kf = Kf := fun Kf => nm_cz (by omega) (by omega) (by omega)
  have hcc : (zI (16 * ((c : Nat) : Int) + ((k : Nat) : Int))).toNatClampNeg = 16 * c + k := by
    rw [zI_cl (by omega) (by omega)]
    omega
  have t0 : zI v = (0 : Int32) ↔ v = 0 := by rw [show (0 : Int32) = zI 0 from rfl, zI_eq (by omega) (by omega) (by omega) (by omega)]
  have t1 : zI v = (1 : Int32) ↔ v = 1 := by rw [show (1 : Int32) = zI 1 from rfl, zI_eq (by omega) (by omega) (by omega) (by omega)]
  have t2 : zI v = (2 : Int32) ↔ v = 2 := by rw [show (2 : Int32) = zI 2 from rfl, zI_eq (by omega) (by omega) (by omega) (by omega)]
  rw [if_pos hw, if_pos ⟨hz, hw⟩, nm_cz (by omega) (by omega) (by omega), nm_l_eq, nm_cz (by omega) (by omega) (by omega), zI_cl (by omega) (by omega), Int.toNat_natCast, nm_l_eq, show 1000 + 100 * c + 10 + k = 1010 + 100 * c + k by omega, nm_nzp K0, show f_X11_outside (zI v) 3 = f_X11_outside (zI v) (zI ((3 : Nat) : Int)) from rfl, out_z v1 v2 (by omega), oif, show (16 : Int32) = zI 16 from rfl, zI_mul, zI_add, nm_l_eq, hcn, hcn, hcn, hcc, show I 1 (16 * c + k) = zI (sd c k 0) from p4 0 (by omega), show I 2 (16 * c + k) = zI (sd c k 1) from p4 1 (by omega), show I 3 (16 * c + k) = zI (sd c k 2) from p4 2 (by omega), o2.1, o2.2.1, o2.2.2.1]
  by_cases hv : ¬ (0 ≤ v ∧ v < ((3 : Nat) : Int))
  · rw [if_neg hv, if_neg (fun e => hv (by rw [t0.mp e]; decide)), if_neg (fun e => hv (by rw [t1.mp e]; decide)), if_neg (fun e => hv (by rw [t2.mp e]; decide))]
    exact hno7
  replace hv := Classical.not_not.mp hv
  rw [if_pos hv]
  by_cases w0 : v = 0
  · rw [if_pos (t0.mpr w0), if_pos (t0.mpr w0)]
    exact simP_q h rfl
  rw [if_neg (fun e => w0 (t0.mp e)), if_neg (fun e => w0 (t0.mp e))]
  by_cases w1 : v = 1
  · rw [if_pos (t1.mpr w1), if_pos (t1.mpr w1)]
    exact simP_q h rfl
  rw [if_neg (fun e => w1 (t1.mp e)), if_neg (fun e => w1 (t1.mp e)), if_pos (t2.mpr (by omega))]
  exact simP_q h rfl
/-- the cells told anew, on both sides -/
theorem RA_out {A : Nat → Nat → Int32} {I' : nm_I} {sd : Nat → Nat → Nat → Int} {cnt : Nat → Nat} (hcl : cls S K sd cnt) (hcO : clO I sd cnt) {c : Nat} (hc8 : c < 8) {s' : Nat → Nat → Int} {n' : Nat} (hce : ceM (A, S.1.2) K c s' n') (hsh : shR I' c s' n') (ha : ∀ m j, 1000 ≤ m → (m < 1000 + 100 * c ∨ (j ≠ 2 ∧ m % 100 = 0 ∧ m ≠ 1000 + 100 * c) ∨ (m % 100 ≠ 0 ∧ (m < 1000 + 100 * c ∨ 1100 + 100 * c ≤ m)) ∨ 1800 ≤ m) → A m j = S.1.1 m j) (hfl : ∀ x, c ≤ x → x < 8 → A (1000 + 100 * x) 2 = 0) (hj : ∀ x, x < 8 → x ≠ c → I' 8 x = I 8 x ∧ ∀ f k, f < 7 → k < 16 → I' (1 + f) (16 * x + k) = I (1 + f) (16 * x + k)) : RA ((A, S.1.2), S.2) K I' := by
  refine ⟨fun x => if x = c then s' else sd x, fun x => if x = c then n' else cnt x, cls_out hcl hce (fun x hx hxc => ?_) (fun _ _ => ⟨rfl, rfl⟩) hfl (fun m j p q => ha m j (by omega) (by omega)) (fun _ _ _ => rfl) (fun _ _ _ => rfl), fun x hx => ?_⟩
  · obtain ⟨⟨b1, b2, b3⟩, -, -⟩ := hcl x hx
    refine ⟨b1, (ha _ _ (by omega) (by omega)).trans b2, fun k hk => ⟨(b3 k hk).1, shM_fr (b3 k hk).2 (fun j => ha _ _ (by omega) (by omega)) rfl⟩⟩
  · by_cases hxc : x = c
    · subst hxc
      simp only [if_pos rfl]
      exact hsh
    · simp only [if_neg hxc]
      obtain ⟨b1, b2, b3⟩ := hcO x hx
      obtain ⟨j1, j2⟩ := hj x hx hxc
      exact ⟨b1, j1.trans b2, fun k hk => ⟨(b3 k hk).1, fun f hf => (j2 f k hf (by omega)).trans ((b3 k hk).2 f hf)⟩⟩
theorem s_undo (h : RR S K I) (x : Int32) : simP K S.2 (f_X11_undo x S.1) (f_X12_undo x I) := by
  obtain ⟨z, z1, z2, rfl⟩ := zI_ex x
  obtain ⟨hc, ⟨hA, hB, hU, hE, hJ, hG, hL, hZ⟩, D, T, fo, nets, dn, dev, hC, hF, hW⟩ := id h
  obtain ⟨sd, cnt, hcl, hcO⟩ := id hA
  have hno3 := simP_no h (x := -3) (b := -3) rfl (by decide) (by decide)
  have hno2 := simP_no h (x := -2) (b := -2) rfl (by decide) (by decide)
  unfold f_X11_undo f_X12_undo
  rw [isCell_i z1 z2, iif, show f_X11_outside (zI z) 8 = f_X11_outside (zI z) (zI ((8 : Nat) : Int)) from rfl, out_z z1 z2 (by omega), oif]
  by_cases hz : ¬ (0 ≤ z ∧ z < 8)
  · rw [if_neg (by omega), if_neg hz]
    exact hno3
  replace hz := Classical.not_not.mp hz
  obtain ⟨c, rfl⟩ := Int.eq_ofNat_of_zero_le hz.1
  obtain ⟨⟨n16, e1, e2⟩, -, -⟩ := hcl c (by omega)
  obtain ⟨-, p1, p2⟩ := hcO c (by omega)
  have hcn : ∀ {β : Type} (Kf : Option β), nm_c (zI (c : Nat)) 8 Kf = Kf := fun Kf => nm_cz (by omega) (by omega) (by omega)
  have hcc : (zI (c : Nat)).toNatClampNeg = c := by
    rw [zI_cl (by omega) (by omega), Int.toNat_natCast]
  rw [if_pos (by omega), if_pos hz, hcn, hcc, nm_l_eq, e1, hcn, hcn, hcn, hcn, nm_l_eq, nm_l_eq, p1]
  by_cases h0 : cnt c = 0
  · rw [h0, if_neg (by decide), if_pos (by decide)]
    exact hno2
  have hdec : zI ((cnt c : Nat) : Int) - (1 : Int32) = zI ((cnt c - 1 : Nat) : Int) := by
    rw [show (1 : Int32) = zI 1 from rfl, zI_sub]
    exact congrArg zI (by omega)
  rw [if_pos (by
    rw [show (0 : Int32) = zI 0 from rfl, zI_lt (by omega) (by omega) (by omega) (by omega)]
    omega), if_neg (by
    rw [show (0 : Int32) = zI 0 from rfl, zI_eq (by omega) (by omega) (by omega) (by omega)]
    omega), nm_l_eq, hdec, e1, hdec]
  obtain ⟨M1, m11, m12, m13, m14⟩ := nm_put S.1 (1000 + 100 * c) 1 (zI ((cnt c - 1 : Nat) : Int))
  obtain ⟨I1, o11, o12, o13⟩ := nm_putO I 8 c (zI ((cnt c - 1 : Nat) : Int))
  obtain ⟨M2, m2, m21, m22, m23⟩ := w_outdate (M := M1) (c := c) (by omega)
  rw [← m11, ← o11, o12, m2, nm_s1_some, hcn, hcn, nm_l_eq]
  have q0 : M2.1 (1000 + 100 * c) 1 = zI ((cnt c - 1 : Nat) : Int) := (m23 _ _ (by omega)).trans m12
  rw [q0]
  have hM2 : M2 = (M2.1, S.1.2) := by rw [← m14, ← m21]
  rw [hM2]
  obtain ⟨A, hA9⟩ : ∃ A, A = M2.1 := ⟨_, rfl⟩
  rw [← hA9] at m22 m23 q0 ⊢
  have a0 : ∀ m j, (m < 1000 + 100 * c ∨ j ≠ 2 ∨ m % 100 ≠ 0 ∨ 1800 ≤ m) → ¬ (m = 1000 + 100 * c ∧ j = 1) → A m j = S.1.1 m j := fun m j p q => (m23 m j p).trans (m13 m j q)
  clear hA9 hM2 m23
  have a1 : ∀ m j, ¬ (1000 ≤ m) → A m j = S.1.1 m j := fun m j p => a0 m j (by omega) (by omega)
  have j1 : ∀ m j, ¬ (m = 8) → I1 m j = I m j := fun m j p => o13 m j (by omega)
  have hA' : RA ((A, S.1.2), S.2) K I1 := by
    refine RA_out hcl hcO (c := c) (s' := sd c) (n' := cnt c - 1) (by omega) ⟨by omega, q0, fun k hk => ⟨(e2 k (by omega)).1, shM_fr (e2 k (by omega)).2 (fun j => a0 _ _ (by omega) (by omega)) rfl⟩⟩ ⟨by omega, o12, fun k hk => ⟨(p2 k (by omega)).1, fun f hf => (o13 _ _ (by omega)).trans ((p2 k (by omega)).2 f hf)⟩⟩ (fun m j p q => a0 m j (by omega) (by omega)) m22 (fun x hx hxc => ⟨o13 _ _ (by omega), fun f k hf hk => o13 _ _ (by omega)⟩)
  exact ⟨_, (A, S.1.2), I1, rfl, rfl, hc, ⟨hA', RB_fr hB (fun m j _ _ => a1 m j (by omega)) (fun m j _ _ => j1 m j (by omega)), RU_fr hU (fun m j _ _ => a1 m j (by omega)) rfl (fun m j _ => j1 m j (by omega)), RE_fr hE (a1 _ _ (by omega)) (fun j => j1 _ _ (by omega)), RJ_fr hJ (fun m j _ => a1 m j (by omega)) (fun m j _ => j1 m j (by omega)), RG_fr hG (fun j _ _ => a1 _ _ (by omega)) (fun j _ _ => j1 _ _ (by omega)), RLn_fr hL (a1 _ _ (by omega)) rfl (fun m j _ => j1 m j (by omega)), RZ_fr hZ (fun k => a1 _ _ (by omega)) (fun k => j1 _ _ (by omega))⟩, D, T, fo, nets, dn, dev, RC_fr hC (fun m j _ => a1 m j (by omega)) rfl (fun m j _ => j1 m j (by omega)), RF_fr hF (fun m j _ => a1 m j (by omega)) (fun _ _ => rfl) (fun _ _ _ => rfl) (fun m j _ => j1 m j (by omega)), RW_fr hW (fun m j _ _ => a1 m j (by omega)) (fun m j _ => j1 m j (by omega))⟩
/-- a shape with other times -/
def tS (s : Nat → Int) (a b : Int) : Nat → Int := fun f => if f = 5 then a else if f = 6 then b else s f
theorem s_times (h : RR S K I) (x y u v : Int32) : simP K S.2 (f_X11_times K x y u v S.1) (f_X12_times x y u v I) := by
  obtain ⟨z, z1, z2, rfl⟩ := zI_ex x
  obtain ⟨w, w1, w2, rfl⟩ := zI_ex y
  obtain ⟨a, a8, a9, rfl⟩ := zI_ex u
  obtain ⟨b, b8, b9, rfl⟩ := zI_ex v
  obtain ⟨hc, ⟨hA, hB, hU, hE, hJ, hG, hL, hZ⟩, D, T, fo, nets, dn, dev, hC, hF, hW⟩ := id h
  obtain ⟨sd, cnt, hcl, hcO⟩ := id hA
  have hno3 := simP_no h (x := -3) (b := -3) rfl (by decide) (by decide)
  have hno5 := simP_no h (x := -5) (b := -5) rfl (by decide) (by decide)
  have hno7 := simP_no h (x := -7) (b := -7) rfl (by decide) (by decide)
  unfold f_X11_times f_X12_times
  rw [isShape_z hcO z1 z2 w1 w2, nm_s1_some, iif, show f_X11_outside (zI z) 8 = f_X11_outside (zI z) (zI ((8 : Nat) : Int)) from rfl, out_z z1 z2 (by omega), oif, (canT_z a8 a9).1, (canT_z a8 a9).2, (canT_z b8 b9).1, (canT_z b8 b9).2]
  by_cases hz : ¬ (0 ≤ z ∧ z < 8)
  · rw [if_neg (by omega), if_neg (fun e => hz e.1)]
    exact hno3
  replace hz := Classical.not_not.mp hz
  obtain ⟨c, rfl⟩ := Int.eq_ofNat_of_zero_le hz.1
  obtain ⟨⟨n16, e1, e2⟩, -, -⟩ := hcl c (by omega)
  rw [if_pos (by omega), Int.toNat_natCast, nm_cz (by omega) (by omega) (by omega), zI_cl (by omega) (by omega), Int.toNat_natCast, nm_l_eq, e1, out_z w1 w2 (by omega), oif]
  by_cases hw : ¬ (0 ≤ w ∧ w < ((cnt c : Nat) : Int))
  · rw [if_neg hw, if_neg (fun e => hw e.2)]
    exact hno3
  replace hw := Classical.not_not.mp hw
  obtain ⟨k, rfl⟩ := Int.eq_ofNat_of_zero_le hw.1
  obtain ⟨o1, o2⟩ := e2 k (by omega)
  obtain ⟨K0, K6, K5, K7⟩ := okS_K o1 o2
  obtain ⟨-, p2, p3⟩ := hcO c (by omega)
  obtain ⟨-, p4⟩ := p3 k (by omega)
  have hcn : ∀ {β : Type} (Kf : Option β), nm_c (zI (16 * ((c : Nat) : Int) + ((k : Nat) : Int))) 128 Kf = Kf := fun Kf => nm_cz (by omega) (by omega) (by omega)
  have hcc : (zI (16 * ((c : Nat) : Int) + ((k : Nat) : Int))).toNatClampNeg = 16 * c + k := by
    rw [zI_cl (by omega) (by omega)]
    omega
  have hzw : (0 ≤ ((c : Nat) : Int) ∧ ((c : Nat) : Int) < 8) ∧ 0 ≤ ((k : Nat) : Int) ∧ ((k : Nat) : Int) < ((cnt c : Nat) : Int) := ⟨hz, hw⟩
  rw [if_pos hw, if_pos hzw, nm_cz (by omega) (by omega) (by omega), nm_l_eq, nm_cz (by omega) (by omega) (by omega), zI_cl (by omega) (by omega), Int.toNat_natCast, nm_l_eq, show 1000 + 100 * c + 10 + k = 1010 + 100 * c + k by omega, nm_nzp K0, show (16 : Int32) = zI 16 from rfl, zI_mul, zI_add, nm_l_eq, hcn, hcc, show I 1 (16 * c + k) = zI (sd c k 0) from p4 0 (by omega)]
  have h4 : zI (sd c k 0) = (4 : Int32) ↔ sd c k 0 = 4 := by
    have := o1.1
    rw [show (4 : Int32) = zI 4 from rfl, zI_eq (by omega) (by omega) (by omega) (by omega)]
  by_cases hk4 : ¬ sd c k 0 = 4
  · rw [if_pos (nm_is0.mpr (fun e => hk4 (K7.mp e))), if_neg (fun e => hk4 (h4.mp e))]
    exact hno5
  replace hk4 := Classical.not_not.mp hk4
  rw [if_neg (fun e => nm_is0.mp e (K7.mpr hk4)), if_pos (h4.mpr hk4), iif, iif, iif, iif]
  by_cases ha : ¬ (0 ≤ a ∧ (1 ≤ a / 200 ∧ a / 200 ≤ 4) ∧ -63 ≤ a % 200 - 100 ∧ a % 200 - 100 ≤ 63)
  · rw [if_neg ha, if_neg ha]
    exact hno7
  replace ha := Classical.not_not.mp ha
  rw [if_pos ha, if_pos ha]
  by_cases hb : ¬ (0 ≤ b ∧ (1 ≤ b / 200 ∧ b / 200 ≤ 4) ∧ -63 ≤ b % 200 - 100 ∧ b % 200 - 100 ≤ 63)
  · rw [if_neg hb, if_neg hb]
    exact hno7
  replace hb := Classical.not_not.mp hb
  rw [if_pos hb, if_pos hb]
  have g1 : ∀ a : Int, 0 ≤ a → a < 2147483648 → zI a / (200 : Int32) = zI (a / 200) ∧ zI a - zI a / (200 : Int32) * (200 : Int32) - (100 : Int32) = zI (a % 200 - 100) := fun a h1 h2 => by
    refine ⟨?_, ?_⟩
    · rw [show (200 : Int32) = zI 200 from rfl, zI_div (by omega) (by omega) (by omega) (by omega)]
    · rw [show (200 : Int32) = zI 200 from rfl, md (by omega) (by omega) (by omega) (by omega), show (100 : Int32) = zI 100 from rfl, zI_sub]
  obtain ⟨ga1, ga2⟩ := g1 a ha.1 a9
  obtain ⟨gb1, gb2⟩ := g1 b hb.1 b9
  unfold f_X7_repeat
  rw [ga2, ga1, gb2, gb1]
  obtain ⟨pz, hpz⟩ : ∃ pz, pz = 1010 + 100 * c + k := ⟨_, rfl⟩
  rw [← hpz]
  obtain ⟨M1, m11, m12, m13, m14⟩ := nm_put S.1 pz 7 (zI (a / 200))
  obtain ⟨M2, m21, m22, m23, m24⟩ := nm_put M1 pz 5 (zI (a % 200 - 100))
  obtain ⟨M3, m31, m32, m33, m34⟩ := nm_put M2 pz 8 (zI (b / 200))
  obtain ⟨M4, m41, m42, m43, m44⟩ := nm_put M3 pz 6 (zI (b % 200 - 100))
  obtain ⟨M5, m5, m51, m52, m53⟩ := w_outdate (M := M4) (c := c) (by omega)
  obtain ⟨I1, o11, o12, o13⟩ := nm_putO I 6 (16 * c + k) (zI a)
  obtain ⟨I2, o21, o22, o23⟩ := nm_putO I1 7 (16 * c + k) (zI b)
  rw [← m11, nm_l_eq, ← m21, nm_l_eq, ← m31, nm_l_eq, ← m41, nm_l_eq, nm_s1_some, m5, nm_s1_some, hcn, ← o11, nm_l_eq, hcn, ← o21, nm_l_eq]
  have hM5 : M5 = (M5.1, S.1.2) := by rw [← m14, ← m24, ← m34, ← m44, ← m51]
  rw [hM5]
  obtain ⟨A, hA9⟩ : ∃ A, A = M5.1 := ⟨_, rfl⟩
  rw [← hA9] at m52 m53 ⊢
  have a0 : ∀ m j, (m < 1000 + 100 * c ∨ j ≠ 2 ∨ m % 100 ≠ 0 ∨ 1800 ≤ m) → ¬ (m = pz ∧ 5 ≤ j ∧ j ≤ 8) → A m j = S.1.1 m j := fun m j p q => by
    rw [m53 m j p, m43 m j (by omega), m33 m j (by omega), m23 m j (by omega), m13 m j (by omega)]
  have a5 : A pz 5 = zI (a % 200 - 100) := by
    rw [m53 _ _ (by omega), m43 _ _ (by omega), m33 _ _ (by omega), m22]
  have a6 : A pz 6 = zI (b % 200 - 100) := by
    rw [m53 _ _ (by omega), m42]
  have a7 : A pz 7 = zI (a / 200) := by
    rw [m53 _ _ (by omega), m43 _ _ (by omega), m33 _ _ (by omega), m23 _ _ (by omega), m12]
  have a88 : A pz 8 = zI (b / 200) := by
    rw [m53 _ _ (by omega), m43 _ _ (by omega), m32]
  have i0 : ∀ m j, ¬ ((m = 6 ∨ m = 7) ∧ j = 16 * c + k) → I2 m j = I m j := fun m j p => by rw [o23 m j (by omega), o13 m j (by omega)]
  have i6 : I2 6 (16 * c + k) = zI a := by rw [o23 _ _ (by omega), o12]
  have i7 : I2 7 (16 * c + k) = zI b := o22
  clear hA9 hM5 m53 m51 m5
  have a1 : ∀ m j, ¬ (1000 ≤ m) → A m j = S.1.1 m j := fun m j p => a0 m j (by omega) (by omega)
  have j1 : ∀ m j, ¬ (m = 6 ∨ m = 7) → I2 m j = I m j := fun m j p => i0 m j (by omega)
  have hok : okS c (tS (sd c k) a b) := by
    obtain ⟨y0, y1, y2, y3, y4, y5, y6⟩ := o1
    have hq : ∀ f, f < 5 → tS (sd c k) a b f = sd c k f := fun f hf => by
      unfold tS
      rw [if_neg (by omega), if_neg (by omega)]
    have h5 : tS (sd c k) a b 5 = a := rfl
    have h6 : tS (sd c k) a b 6 = b := rfl
    unfold okS
    rw [hq 0 (by omega), hq 1 (by omega), hq 2 (by omega), hq 3 (by omega), hq 4 (by omega), h5, h6]
    refine ⟨y0, y1, y2, y3, y4, y5, fun e => ?_⟩
    obtain ⟨q1, q2, q3, q4, q5⟩ := y6 e
    exact ⟨q1, q2, q3, ha.2, hb.2⟩
  have hsh : shM (A, S.1.2) K pz (tS (sd c k) a b) := by
    obtain ⟨y0, y1, y2, y3, y4, y5⟩ := o2
    rw [← hpz] at y0 y1 y2 y3 y4 y5
    have hk0 : tS (sd c k) a b 0 = 4 := hk4
    obtain ⟨y6, ⟨u2, u3, u4, u5, u6, u7, u8⟩, u9, u10, u11, u12, u13, u14⟩ := y5 hk4
    refine ⟨(a0 _ _ (by omega) (by omega)).trans y0, (a0 _ _ (by omega) (by omega)).trans y1, (a0 _ _ (by omega) (by omega)).trans y2, fun e => ?_, fun e => ?_, fun _ => ⟨y6, ⟨(a0 _ _ (by omega) (by omega)).trans u2, (a0 _ _ (by omega) (by omega)).trans u3, (a0 _ _ (by omega) (by omega)).trans u4, a5, a6, ?_, ?_⟩, u9, u10, ?_, ?_, ha.2.2, hb.2.2⟩⟩
    · rw [hk0] at e
      omega
    · rw [hk0] at e
      omega
    · show A pz 7 = zI ((a / 200).toNat : Nat)
      rw [a7]
      exact congrArg zI (by omega)
    · show A pz 8 = zI ((b / 200).toNat : Nat)
      rw [a88]
      exact congrArg zI (by omega)
    · show (a / 200).toNat ≤ 4
      omega
    · show (b / 200).toNat ≤ 4
      omega
  have hA' : RA ((A, S.1.2), S.2) K I2 := by
    refine RA_out hcl hcO (c := c) (s' := fun i => if i = k then tS (sd c k) a b else sd c i) (n' := cnt c) (by omega) ⟨n16, (a0 _ _ (by omega) (by omega)).trans e1, fun i hi => ?_⟩ ⟨n16, (i0 _ _ (by omega)).trans p2, fun i hi => ?_⟩ (fun m j p q => a0 m j (by omega) (by omega)) m52 (fun x hx hxc => ⟨i0 _ _ (by omega), fun f k' hf hk' => i0 _ _ (by omega)⟩)
    · by_cases hik : i = k
      · simp only [if_pos hik]
        rw [hik, ← hpz]
        exact ⟨hok, hsh⟩
      · simp only [if_neg hik]
        exact ⟨(e2 i hi).1, shM_fr (e2 i hi).2 (fun j => a0 _ _ (by omega) (by omega)) rfl⟩
    · by_cases hik : i = k
      · simp only [if_pos hik]
        rw [hik]
        refine ⟨hok, fun f hf => ?_⟩
        have hf7 : f = 5 ∨ f = 6 ∨ f < 5 := by omega
        rcases hf7 with rfl | rfl | hf5
        · exact i6
        · exact i7
        · rw [i0 _ _ (by omega), (p3 k (by omega)).2 f hf]
          unfold tS
          rw [if_neg (by omega), if_neg (by omega)]
      · simp only [if_neg hik]
        exact ⟨(p3 i hi).1, fun f hf => (i0 _ _ (by omega)).trans ((p3 i hi).2 f hf)⟩
  exact ⟨1, (A, S.1.2), I2, rfl, rfl, hc, ⟨hA', RB_fr hB (fun m j _ _ => a1 m j (by omega)) (fun m j _ _ => j1 m j (by omega)), RU_fr hU (fun m j _ _ => a1 m j (by omega)) rfl (fun m j _ => j1 m j (by omega)), RE_fr hE (a1 _ _ (by omega)) (fun j => j1 _ _ (by omega)), RJ_fr hJ (fun m j _ => a1 m j (by omega)) (fun m j _ => j1 m j (by omega)), RG_fr hG (fun j _ _ => a1 _ _ (by omega)) (fun j _ _ => j1 _ _ (by omega)), RLn_fr hL (a1 _ _ (by omega)) rfl (fun m j _ => j1 m j (by omega)), RZ_fr hZ (fun k => a1 _ _ (by omega)) (fun k => j1 _ _ (by omega))⟩, D, T, fo, nets, dn, dev, RC_fr hC (fun m j _ => a1 m j (by omega)) rfl (fun m j _ => j1 m j (by omega)), RF_fr hF (fun m j _ => a1 m j (by omega)) (fun _ _ => rfl) (fun _ _ _ => rfl) (fun m j _ => j1 m j (by omega)), RW_fr hW (fun m j _ _ => a1 m j (by omega)) (fun m j _ => j1 m j (by omega))⟩
end
