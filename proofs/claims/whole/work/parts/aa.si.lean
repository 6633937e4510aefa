/-! a shape added, told of both sides -/
def s7 (a0 a1 a2 a3 a4 : Int) : Nat → Int := fun f => if f = 0 then a0 else if f = 1 then a1 else if f = 2 then a2 else if f = 3 then a3 else if f = 4 then a4 else 300
theorem w_adds {I : nm_I} {sd : Nat → Nat → Nat → Int} {cnt : Nat → Nat} (hs : clO I sd cnt) {c : Nat} (hc : c < 8) (a0 a1 a2 a3 a4 : Int) :
    (cnt c = 16 → f_X12_adds (zI (c : Nat)) (zI a0) (zI a1) (zI a2) (zI a3) (zI a4) I = nm_s2 (f_X12_no (-8) I) fun r I' => some (r, I')) ∧
    (cnt c < 16 → ∃ I', f_X12_adds (zI (c : Nat)) (zI a0) (zI a1) (zI a2) (zI a3) (zI a4) I = some (zI ((cnt c : Nat) : Int), I') ∧ (∀ f, f < 7 → I' (1 + f) (16 * c + cnt c) = zI (s7 a0 a1 a2 a3 a4 f)) ∧ I' 8 c = zI ((cnt c + 1 : Nat) : Int) ∧ ∀ m j, ¬ ((1 ≤ m ∧ m ≤ 7) ∧ j = 16 * c + cnt c) → ¬ (m = 8 ∧ j = c) → I' m j = I m j) := by
  obtain ⟨n16, h8, -⟩ := hs c hc
  have hcn : ∀ {β : Type} (Kf : Option β), nm_c (zI (c : Nat)) 8 Kf = Kf := fun Kf => nm_cz (by omega) (by omega) (by omega)
  have hcc : (zI (c : Nat)).toNatClampNeg = c := by
    rw [zI_cl (by omega) (by omega), Int.toNat_natCast]
  have h16 : zI ((cnt c : Nat) : Int) = (16 : Int32) ↔ cnt c = 16 := by
    rw [show (16 : Int32) = zI 16 from rfl, zI_eq (by omega) (by omega) (by omega) (by omega)]
    omega
  unfold f_X12_adds
  rw [hcn, hcc, h8]
  refine ⟨fun h => ?_, fun h => ?_⟩
  · rw [if_pos (h16.mpr h)]
  · have hvn : ∀ {β : Type} (Kf : Option β), nm_c (zI ((16 * c + cnt c : Nat) : Int)) 128 Kf = Kf := fun Kf => nm_cz (by omega) (by omega) (by omega)
    have hvc : (zI ((16 * c + cnt c : Nat) : Int)).toNatClampNeg = 16 * c + cnt c := by
      rw [zI_cl (by omega) (by omega), Int.toNat_natCast]
    have hv : (16 : Int32) * zI ((c : Nat) : Int) + zI ((cnt c : Nat) : Int) = zI ((16 * c + cnt c : Nat) : Int) := by
      rw [show (16 : Int32) = zI 16 from rfl, zI_mul, zI_add]
      rfl
    obtain ⟨I1, o11, o12, o13⟩ := nm_putO I 1 (16 * c + cnt c) (zI a0)
    obtain ⟨I2, o21, o22, o23⟩ := nm_putO I1 2 (16 * c + cnt c) (zI a1)
    obtain ⟨I3, o31, o32, o33⟩ := nm_putO I2 3 (16 * c + cnt c) (zI a2)
    obtain ⟨I4, o41, o42, o43⟩ := nm_putO I3 4 (16 * c + cnt c) (zI a3)
    obtain ⟨I5, o51, o52, o53⟩ := nm_putO I4 5 (16 * c + cnt c) (zI a4)
    obtain ⟨I6, o61, o62, o63⟩ := nm_putO I5 6 (16 * c + cnt c) (300 : Int32)
    obtain ⟨I7, o71, o72, o73⟩ := nm_putO I6 7 (16 * c + cnt c) (300 : Int32)
    obtain ⟨I8, o81, o82, o83⟩ := nm_putO I7 8 c (zI ((cnt c + 1 : Nat) : Int))
    have e7 : I7 8 c = zI ((cnt c : Nat) : Int) := by rw [o73 _ _ (by omega), o63 _ _ (by omega), o53 _ _ (by omega), o43 _ _ (by omega), o33 _ _ (by omega), o23 _ _ (by omega), o13 _ _ (by omega), h8]
    have hinc : zI ((cnt c : Nat) : Int) + (1 : Int32) = zI ((cnt c + 1 : Nat) : Int) := zI_inc _
    have hdec : zI ((cnt c + 1 : Nat) : Int) - (1 : Int32) = zI ((cnt c : Nat) : Int) := by
      rw [show (1 : Int32) = zI 1 from rfl, zI_sub]
      exact congrArg zI (by omega)
    refine ⟨I8, ?_, fun f hf => ?_, o82, fun m j p q => ?_⟩
    · rw [if_neg (fun e => absurd (h16.mp e) (by omega)), hcn, hv, nm_l_eq, hvn, hvc, ← o11, nm_l_eq, hvn, ← o21, nm_l_eq, hvn, ← o31, nm_l_eq, hvn, ← o41, nm_l_eq, hvn, ← o51, nm_l_eq, hvn, ← o61, nm_l_eq, hvn, ← o71, nm_l_eq, hcn, hcn, e7, hinc, ← o81, nm_l_eq, hcn, o82, hdec]
    · have hf7 : f = 0 ∨ f = 1 ∨ f = 2 ∨ f = 3 ∨ f = 4 ∨ f = 5 ∨ f = 6 := by omega
      rcases hf7 with rfl | rfl | rfl | rfl | rfl | rfl | rfl
      · exact (o83 _ _ (by omega)).trans ((o73 _ _ (by omega)).trans ((o63 _ _ (by omega)).trans ((o53 _ _ (by omega)).trans ((o43 _ _ (by omega)).trans ((o33 _ _ (by omega)).trans ((o23 _ _ (by omega)).trans o12))))))
      · exact (o83 _ _ (by omega)).trans ((o73 _ _ (by omega)).trans ((o63 _ _ (by omega)).trans ((o53 _ _ (by omega)).trans ((o43 _ _ (by omega)).trans ((o33 _ _ (by omega)).trans o22)))))
      · exact (o83 _ _ (by omega)).trans ((o73 _ _ (by omega)).trans ((o63 _ _ (by omega)).trans ((o53 _ _ (by omega)).trans ((o43 _ _ (by omega)).trans o32))))
      · exact (o83 _ _ (by omega)).trans ((o73 _ _ (by omega)).trans ((o63 _ _ (by omega)).trans ((o53 _ _ (by omega)).trans o42)))
      · exact (o83 _ _ (by omega)).trans ((o73 _ _ (by omega)).trans ((o63 _ _ (by omega)).trans o52))
      · exact (o83 _ _ (by omega)).trans ((o73 _ _ (by omega)).trans o62)
      · exact (o83 _ _ (by omega)).trans o72
    · rw [o83 _ _ (by omega), o73 _ _ (by omega), o63 _ _ (by omega), o53 _ _ (by omega), o43 _ _ (by omega), o33 _ _ (by omega), o23 _ _ (by omega), o13 _ _ (by omega)]
theorem shM_K {M M' : cm} {K K' : Nat → Nat} {pz : Nat} {s : Nat → Int} (h : shM M K pz s) (e : ∀ j, M'.1 pz j = M.1 pz j) (e2 : M'.2 pz = M.2 pz) (ek : K' pz = K pz) : shM M' K' pz s := by
  have h2 := shM_fr h e e2
  unfold shM at h2 ⊢
  rw [ek]
  exact h2
section
variable {S : ca} {K : Nat → Nat} {I : nm_I}
/-- a shape more, on both sides -/
theorem RR_add (h : RR S K I) {c n : Nat} {s : Nat → Int} {A : Nat → Nat → Int32} {J : Nat → Nat → Int64} {K' : Nat → Nat} {I' : nm_I} (hc8 : c < 8) (hn : n < 16) (hcn : S.1.1 (1000 + 100 * c) 1 = zI (n : Nat)) (hok : okS c s) (hK : ∀ x, 1000 ≤ x → x ≠ 1010 + 100 * c + n → K' x = K x) (hsh : shM (A, J) K' (1010 + 100 * c + n) s) (hA1 : A (1000 + 100 * c) 1 = zI ((n + 1 : Nat) : Int)) (hfl : ∀ x, c ≤ x → x < 8 → A (1000 + 100 * x) 2 = 0)
    (ha : ∀ m j, m ≠ 900 → m ≠ 1010 + 100 * c + n → (m < 1000 + 100 * c ∨ j ≠ 2 ∨ m % 100 ≠ 0 ∨ 1800 ≤ m) → ¬ (m = 1000 + 100 * c ∧ j = 1) → A m j = S.1.1 m j) (hJ' : ∀ m, m ≠ 900 → m ≠ 1010 + 100 * c + n → J m = S.1.2 m)
    (hi7 : ∀ f, f < 7 → I' (1 + f) (16 * c + n) = zI (s f)) (hi8 : I' 8 c = zI ((n + 1 : Nat) : Int)) (hi : ∀ m j, ¬ ((1 ≤ m ∧ m ≤ 7) ∧ j = 16 * c + n) → ¬ (m = 8 ∧ j = c) → I' m j = I m j) : RR ((A, J), S.2) K' I' := by
  obtain ⟨hc, ⟨hA, hB, hU, hE, hJ, hG, hL, hZ⟩, D, T, fo, nets, dn, dev, hC, hF, hW⟩ := id h
  obtain ⟨sd, cnt, hcl, hcO⟩ := id hA
  have hcnt : cnt c = n := by
    have h1 := (hcl c hc8).1.2.1
    have h2 := (hcl c hc8).1.1
    rw [hcn] at h1
    have := (zI_eq (by omega) (by omega) (by omega) (by omega)).mp h1
    omega
  have a1 : ∀ m j, ¬ (1000 ≤ m ∨ m = 900) → A m j = S.1.1 m j := fun m j p => ha m j (by omega) (by omega) (by omega) (by omega)
  have b1 : ∀ m, ¬ (1000 ≤ m ∨ m = 900) → J m = S.1.2 m := fun m p => hJ' m (by omega) (by omega)
  have n1 : ∀ x, ¬ (x = 99999) → S.2 x = S.2 x := fun _ _ => rfl
  have j1 : ∀ m j, ¬ (1 ≤ m ∧ m ≤ 8) → I' m j = I m j := fun m j p => hi m j (by omega) (by omega)
  have hA' : RA ((A, J), S.2) K' I' := by
    refine ⟨fun x => if x = c then (fun k => if k = n then s else sd c k) else sd x, fun x => if x = c then n + 1 else cnt x, cls_out (c := c) hcl ⟨by omega, hA1, fun k hk => ?_⟩ (fun x hx hxc => ?_) (fun _ _ => ⟨rfl, rfl⟩) hfl (fun m j p q => ha m j (by omega) (by omega) (by omega) (by omega)) (fun m p q => hJ' m (by omega) (by omega)) (fun _ _ _ => rfl), fun x hx => ?_⟩
    · by_cases hkn : k = n
      · subst hkn
        simp only [if_pos rfl]
        exact ⟨hok, hsh⟩
      · simp only [if_neg hkn]
        obtain ⟨-, -, b3⟩ := (hcl c hc8).1
        obtain ⟨y1, y2⟩ := b3 k (by omega)
        exact ⟨y1, shM_K y2 (fun j => ha _ _ (by omega) (by omega) (by omega) (by omega)) (hJ' _ (by omega) (by omega)) (hK _ (by omega) (by omega))⟩
    · obtain ⟨b1, b2, b3⟩ := (hcl x hx).1
      refine ⟨b1, (ha _ _ (by omega) (by omega) (by omega) (by omega)).trans b2, fun k hk => ⟨(b3 k hk).1, shM_K (b3 k hk).2 (fun j => ha _ _ (by omega) (by omega) (by omega) (by omega)) (hJ' _ (by omega) (by omega)) (hK _ (by omega) (by omega))⟩⟩
    · by_cases hxc : x = c
      · show shR I' x (if x = c then (fun k => if k = n then s else sd c k) else sd x) (if x = c then n + 1 else cnt x)
        rw [if_pos hxc, if_pos hxc, hxc]
        obtain ⟨-, -, p3⟩ := hcO c hc8
        refine ⟨by omega, hi8, fun k hk => ?_⟩
        show okS c (if k = n then s else sd c k) ∧ ∀ f, f < 7 → I' (1 + f) (16 * c + k) = zI ((if k = n then s else sd c k) f)
        by_cases hkn : k = n
        · rw [if_pos hkn, hkn]
          exact ⟨hok, hi7⟩
        · rw [if_neg hkn]
          obtain ⟨y1, y2⟩ := p3 k (by omega)
          exact ⟨y1, fun f hf => (hi _ _ (by omega) (by omega)).trans (y2 f hf)⟩
      · simp only [if_neg hxc]
        obtain ⟨b1, b2, b3⟩ := hcO x hx
        exact ⟨b1, (hi _ _ (by omega) (by omega)).trans b2, fun k hk => ⟨(b3 k hk).1, fun f hf => (hi _ _ (by omega) (by omega)).trans ((b3 k hk).2 f hf)⟩⟩
  exact ⟨hc, ⟨hA', RB_fr hB (fun m j _ _ => a1 m j (by omega)) (fun m j _ _ => j1 m j (by omega)), RU_fr hU (fun m j _ _ => a1 m j (by omega)) (n1 201 (by omega)) (fun m j _ => j1 m j (by omega)), RE_fr hE (a1 _ _ (by omega)) (fun j => j1 _ _ (by omega)), RJ_fr hJ (fun m j _ => a1 m j (by omega)) (fun m j _ => j1 m j (by omega)), RG_fr hG (fun j _ _ => a1 _ _ (by omega)) (fun j _ _ => j1 _ _ (by omega)), RLn_fr hL (a1 _ _ (by omega)) (b1 0 (by omega)) (fun m j _ => j1 m j (by omega)), RZ_fr hZ (fun k => a1 _ _ (by omega)) (fun k => j1 _ _ (by omega))⟩, D, T, fo, nets, dn, dev, RC_fr hC (fun m j _ => a1 m j (by omega)) (b1 101 (by omega)) (fun m j _ => j1 m j (by omega)), RF_fr hF (fun m j _ => a1 m j (by omega)) (fun m _ => b1 m (by omega)) (fun x _ _ => n1 x (by omega)) (fun m j _ => j1 m j (by omega)), RW_fr hW (fun m j _ _ => a1 m j (by omega)) (fun m j _ => j1 m j (by omega))⟩
end
/-- columns of an oblong -/
theorem w_cols {L W : Int} (h1 : -10 ≤ L) (h2 : L ≤ 63) (h3 : 1 ≤ W) (h4 : W ≤ 64) (h5 : 1 ≤ L + W) {x : Nat} (hx : x < 64) : bx (f_X0_span (zI (max L 0)) (zI (min (L + W - 1) 63 - max L 0 + 1))) x = decide (L ≤ x ∧ (x : Int) < L + W) := by
  obtain ⟨f, hf⟩ := Int.eq_ofNat_of_zero_le (show 0 ≤ max L 0 by omega)
  obtain ⟨m, hm⟩ := Int.eq_ofNat_of_zero_le (show 0 ≤ min (L + W - 1) 63 - max L 0 + 1 by omega)
  rw [hm, hf, bx_span (by omega) (by omega) hx, ← Bool.decide_and]
  refine decide_eq_decide.mpr ?_
  omega
