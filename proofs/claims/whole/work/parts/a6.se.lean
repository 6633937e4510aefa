/-! cells: what a change of shapes leaves of them; times, undo, shape -/
theorem tab_congr {sd sd' : Nat → Nat → Nat → Int} {cnt cnt' : Nat → Nat} : ∀ c, (∀ y, y < c → sd' y = sd y ∧ cnt' y = cnt y) → tab sd' cnt' c = tab sd cnt c := by
  intro c
  induction c with
  | zero => intro _; rfl
  | succ c ih =>
    intro h
    have h1 := ih (fun y hy => h y (by omega))
    obtain ⟨a, b⟩ := h c (by omega)
    show (fun x => if x = c then flT (tab sd' cnt' c) (sd' c) (cnt' c) else tab sd' cnt' c x) = fun x => if x = c then flT (tab sd cnt c) (sd c) (cnt c) else tab sd cnt c x
    rw [h1, a, b]
theorem FL_congr {sd sd' : Nat → Nat → Nat → Int} {cnt cnt' : Nat → Nat} {c : Nat} (h : ∀ y, y ≤ c → sd' y = sd y ∧ cnt' y = cnt y) : FL sd' cnt' c = FL sd cnt c := by
  unfold FL
  rw [tab_congr (c + 1) (fun y hy => h y (by omega))]
theorem stl_lo {S S' : ca} {x : Nat} {f : fl} (h1 : ∀ m j, 1000 + 100 * x ≤ m → m < 1100 + 100 * x → S'.1.1 m j = S.1.1 m j) (h2 : ∀ m, 1000 + 100 * x ≤ m → m < 1100 + 100 * x → S'.1.2 m = S.1.2 m) (h3 : ∀ m, 1000 + 100 * x ≤ m → m < 1100 + 100 * x → S'.2 m = S.2 m) (hs : stl S x f) : stl S' x f := by
  obtain ⟨z1, z2, z3, z4, z5, z6⟩ := hs
  refine ⟨by rw [h3 _ (by omega) (by omega)]; exact z1, by rw [h3 _ (by omega) (by omega)]; exact z2, fun y x hy hx => by rw [h2 _ (by omega) (by omega)]; exact z3 y x hy hx, by rw [h1 _ _ (by omega) (by omega)]; exact z4, z5, fun i hi => ⟨(z6 i hi).1, by rw [h1 _ _ (by omega) (by omega)]; exact (z6 i hi).2⟩⟩
/-- the cells after the shapes of cell c became s' -/
theorem cls_out {S S' : ca} {K K' : Nat → Nat} {sd : Nat → Nat → Nat → Int} {cnt : Nat → Nat} (h : cls S K sd cnt) {c : Nat} {s' : Nat → Nat → Int} {n' : Nat} (hce : ceM S'.1 K' c s' n') (hoth : ∀ x, x < 8 → x ≠ c → ceM S'.1 K' x (sd x) (cnt x)) (hN : ∀ x, x < 8 → S'.2 (1000 + 100 * x + 2) = S.2 (1000 + 100 * x + 2) ∧ S'.2 (1000 + 100 * x + 3) = S.2 (1000 + 100 * x + 3)) (hfl : ∀ x, c ≤ x → x < 8 → S'.1.1 (1000 + 100 * x) 2 = 0) (h1 : ∀ m j, 1000 ≤ m → m < 1000 + 100 * c → S'.1.1 m j = S.1.1 m j) (h2 : ∀ m, 1000 ≤ m → m < 1000 + 100 * c → S'.1.2 m = S.1.2 m) (h3 : ∀ m, 1000 ≤ m → m < 1000 + 100 * c → S'.2 m = S.2 m) : cls S' K' (fun x => if x = c then s' else sd x) (fun x => if x = c then n' else cnt x) := by
  intro x hx
  obtain ⟨a1, a2, a3⟩ := h x hx
  refine ⟨?_, ?_, ?_⟩
  · by_cases hxc : x = c
    · subst hxc
      simp only [if_pos rfl]
      exact hce
    · simp only [if_neg hxc]
      exact hoth x hx hxc
  · rw [(hN x hx).1, (hN x hx).2]
    exact a2
  · by_cases hxc : c ≤ x
    · exact Or.inl (hfl x hxc hx)
    · rw [h1 _ _ (by omega) (by omega)]
      rcases a3 with a3 | ⟨a3, a4⟩
      · exact Or.inl a3
      · rw [FL_congr (sd := sd) (cnt := cnt) (c := x) (fun y hy => ⟨if_neg (by omega), if_neg (by omega)⟩)]
        exact Or.inr ⟨a3, stl_lo (fun m j p q => h1 m j (by omega) (by omega)) (fun m p q => h2 m (by omega) (by omega)) (fun m p q => h3 m (by omega) (by omega)) a4⟩
theorem w_outdate {M : cm} {c : Nat} (hc : c < 8) : ∃ M', f_X11_outdate (zI (c : Nat)) M = some M' ∧ M'.2 = M.2 ∧ (∀ x, c ≤ x → x < 8 → M'.1 (1000 + 100 * x) 2 = 0) ∧ ∀ m j, (m < 1000 + 100 * c ∨ j ≠ 2 ∨ m % 100 ≠ 0 ∨ 1800 ≤ m) → M'.1 m j = M.1 m j := by
  have key : ∀ (f k : Nat) (Z : cm), c ≤ k → k ≤ 8 → 8 - k < f → Z.2 = M.2 → (∀ x, c ≤ x → x < k → Z.1 (1000 + 100 * x) 2 = 0) → (∀ m j, (m < 1000 + 100 * c ∨ j ≠ 2 ∨ m % 100 ≠ 0 ∨ 1800 ≤ m) → Z.1 m j = M.1 m j) → ∃ M', f_X11_outdate_L2 f (zI (k : Nat)) Z = some M' ∧ M'.2 = M.2 ∧ (∀ x, c ≤ x → x < 8 → M'.1 (1000 + 100 * x) 2 = 0) ∧ ∀ m j, (m < 1000 + 100 * c ∨ j ≠ 2 ∨ m % 100 ≠ 0 ∨ 1800 ≤ m) → M'.1 m j = M.1 m j := by
    intro f
    induction f with
    | zero => intro k Z h0 h1 h2; omega
    | succ f ih =>
      intro k Z hck hk hf h2 hI hF
      rw [f_X11_outdate_L2, show (8 : Int32) = zI 8 from rfl]
      simp (disch := omega) only [zI_le]
      by_cases h : (8 : Int) ≤ ((k : Nat) : Int)
      · rw [if_pos h]
        have : k = 8 := by omega
        subst this
        exact ⟨Z, rfl, h2, hI, hF⟩
      rw [if_neg h, nm_cz (by omega) (by omega) (by omega), zI_cl (by omega) (by omega), Int.toNat_natCast, nm_l_eq, nm_l_eq, zI_inc]
      refine ih (k + 1) _ (by omega) (by omega) (by omega) h2 (fun x hx hxk => ?_) (fun m j hm => ?_)
      · show nm_up Z.1 (1000 + 100 * k) 2 0 (1000 + 100 * x) 2 = 0
        rw [nm_up_ap]
        by_cases hx2 : x = k
        · subst hx2
          rw [if_pos ⟨rfl, rfl⟩]
        · rw [if_neg (by omega)]
          exact hI x hx (by omega)
      · show nm_up Z.1 (1000 + 100 * k) 2 0 m j = _
        rw [nm_up_ap, if_neg (by omega)]
        exact hF m j hm
  obtain ⟨M', e, r⟩ := key nm_F c M (by omega) (by omega) (by rw [nm_F_eq]; omega) rfl (fun x h1 h2 => by omega) (fun _ _ _ => rfl)
  unfold f_X11_outdate
  rw [e, nm_s1_some]
  exact ⟨M', rfl, r⟩
theorem isShape_z {I : nm_I} {sd : Nat → Nat → Nat → Int} {cnt : Nat → Nat} (hs : clO I sd cnt) {z w : Int} (z1 : -2147483648 ≤ z) (z2 : z < 2147483648) (w1 : -2147483648 ≤ w) (w2 : w < 2147483648) : f_X12_isShape (zI z) (zI w) I = some (if (0 ≤ z ∧ z < 8) ∧ 0 ≤ w ∧ w < (cnt z.toNat : Nat) then 1 else 0) := by
  unfold f_X12_isShape
  rw [isCell_i z1 z2, iif]
  by_cases hz : ¬ (0 ≤ z ∧ z < 8)
  · rw [if_neg hz, if_neg (fun e => hz e.1)]
  replace hz := Classical.not_not.mp hz
  obtain ⟨c, rfl⟩ := Int.eq_ofNat_of_zero_le hz.1
  obtain ⟨a1, a2, a3⟩ := hs c (by omega)
  have hw0 : zI w < 0 ↔ w < 0 := by rw [show (0 : Int32) = zI 0 from rfl, zI_lt (by omega) (by omega) (by omega) (by omega)]
  rw [if_pos hz, Int.toNat_natCast, nm_cz (by omega) (by omega) (by omega), zI_cl (by omega) (by omega), Int.toNat_natCast, a2]
  simp (disch := omega) only [hw0, zI_le]
  by_cases h0 : w < 0
  · rw [if_pos h0, if_neg (by omega)]
  rw [if_neg h0]
  by_cases h1 : ((cnt c : Nat) : Int) ≤ w
  · rw [if_pos h1, if_neg (by omega)]
  · rw [if_neg h1, if_pos (by omega)]
theorem canT_z {z : Int} (z1 : -2147483648 ≤ z) (z2 : z < 2147483648) : f_X7_canBeTold (zI z) = (if 0 ≤ z ∧ (1 ≤ z / 200 ∧ z / 200 ≤ 4) ∧ -63 ≤ z % 200 - 100 ∧ z % 200 - 100 ≤ 63 then 1 else 0) ∧ f_X12_isTimes (zI z) = (if 0 ≤ z ∧ (1 ≤ z / 200 ∧ z / 200 ≤ 4) ∧ -63 ≤ z % 200 - 100 ∧ z % 200 - 100 ≤ 63 then 1 else 0) := by
  unfold f_X7_canBeTold f_X12_isTimes
  rw [nm_l_eq, nm_l_eq]
  have hz0 : zI z < 0 ↔ z < 0 := by rw [show (0 : Int32) = zI 0 from rfl, zI_lt (by omega) (by omega) (by omega) (by omega)]
  by_cases h0 : z < 0
  · refine ⟨?_, ?_⟩
    · have e : z.tdiv 200 = -((-z) / 200) := by
        have := Int.neg_tdiv (-z) 200
        rw [Int.neg_neg] at this
        rw [this, Int.tdiv_eq_ediv_of_nonneg (by omega)]
      have f1 : zI z / (200 : Int32) < (1 : Int32) := by
        rw [show (200 : Int32) = zI 200 from rfl, zI_tdiv z1 z2 (by omega) (by omega), e, show (1 : Int32) = zI 1 from rfl, zI_lt (by omega) (by omega) (by omega) (by omega)]
        omega
      rw [if_pos f1, if_neg (by omega)]
    · rw [if_pos (hz0.mpr h0), if_neg (by omega)]
  · have e1 : zI z / (200 : Int32) = zI (z / 200) := by rw [show (200 : Int32) = zI 200 from rfl, zI_div (by omega) (by omega) (by omega) (by omega)]
    have e2 : zI z - zI z / (200 : Int32) * (200 : Int32) - (100 : Int32) = zI (z % 200 - 100) := by
      rw [show (200 : Int32) = zI 200 from rfl, md (by omega) (by omega) (by omega) (by omega), show (100 : Int32) = zI 100 from rfl, zI_sub]
    have f1 : zI (z / 200) < (1 : Int32) ↔ z / 200 < 1 := by rw [show (1 : Int32) = zI 1 from rfl, zI_lt (by omega) (by omega) (by omega) (by omega)]
    have f2 : (4 : Int32) < zI (z / 200) ↔ 4 < z / 200 := by rw [show (4 : Int32) = zI 4 from rfl, zI_lt (by omega) (by omega) (by omega) (by omega)]
    have f3 : zI (z % 200 - 100) < (-63 : Int32) ↔ z % 200 - 100 < -63 := by rw [show (-63 : Int32) = zI (-63) from rfl, zI_lt (by omega) (by omega) (by omega) (by omega)]
    have f4 : (63 : Int32) < zI (z % 200 - 100) ↔ 63 < z % 200 - 100 := by rw [show (63 : Int32) = zI 63 from rfl, zI_lt (by omega) (by omega) (by omega) (by omega)]
    rw [e2, e1, isIn_z (by omega) (by omega), isIn_z (by omega) (by omega), show (1 : Int64).toInt = 1 by decide, show (4 : Int64).toInt = 4 by decide, show (-63 : Int64).toInt = -63 by decide, show (63 : Int64).toInt = 63 by decide, iif, iif]
    refine ⟨?_, ?_⟩
    · simp only [f1, f2, f3, f4]
      by_cases g1 : z / 200 < 1
      · rw [if_pos g1, if_neg (by omega)]
      rw [if_neg g1]
      by_cases g2 : 4 < z / 200
      · rw [if_pos g2, if_neg (by omega)]
      rw [if_neg g2]
      by_cases g3 : z % 200 - 100 < -63
      · rw [if_pos g3, if_neg (by omega)]
      rw [if_neg g3]
      by_cases g4 : 63 < z % 200 - 100
      · rw [if_pos g4, if_neg (by omega)]
      rw [if_neg g4, if_pos (by omega)]
    · rw [if_neg (fun e => h0 (hz0.mp e))]
      by_cases g1 : 1 ≤ z / 200 ∧ z / 200 ≤ 4
      · rw [if_pos g1]
        by_cases g2 : -63 ≤ z % 200 - 100 ∧ z % 200 - 100 ≤ 63
        · rw [if_pos g2, if_pos (by omega)]
        · rw [if_neg g2, if_neg (by omega)]
      · rw [if_neg g1, if_neg (by omega)]
