/-! a plane turned over: rows become columns -/
def tp (w : Nat) (p : Nat × Nat) : Nat × Nat := if (p.1 / w) % 2 = (p.2 / w) % 2 then p else if (p.1 / w) % 2 = 0 then (p.1 + w, p.2 - w) else (p.1 - w, p.2 + w)
def w2 (w : Nat) : Prop := w = 1 ∨ w = 2 ∨ w = 4 ∨ w = 8 ∨ w = 16 ∨ w = 32
theorem w2_a {w x : Nat} (h : w2 w) (hx : x < 64) : ((x / w) % 2 = 0 → x + w < 64 ∧ ((x + w) / w) % 2 = 1) ∧ (¬ (x / w) % 2 = 0 → w ≤ x ∧ ((x - w) / w) % 2 = 0) ∧ ((x / w) % 2 = 0 → w ≤ x → ((x - w) / w) % 2 = 1) := by
  rcases h with h | h | h | h | h | h <;> subst h <;> omega
theorem w2_and {w : Nat} (h : w2 w) : ∀ k, k < 64 → (zI ((k : Nat) : Int) &&& zI ((w : Nat) : Int) = 0 ↔ (k / w) % 2 = 0) := by
  rcases h with h | h | h | h | h | h <;> subst h <;> decide +kernel
def mD (a : Nat) (M M' : cm) : Prop := M'.1 = M.1 ∧ ∀ m j, ¬ (m = a ∧ j < 64) → M'.2 m j = M.2 m j
set_option maxHeartbeats 2000000 in
theorem w_trst {a : Nat} {N : Nat → Nat} (hN : N a = 64) {w : Nat} (hw : w2 w) {m : Int64} (hm : ∀ x, x < 64 → bx m x = decide ((x / w) % 2 = 0)) {M : cm} : wp (f_X0_transpose_L14 a N m (zI (w : Nat)) nm_F (zI 0) M) (fun M' => (∀ y x, y < 64 → x < 64 → bx (M'.2 a y) x = bx (M.2 a (tp w (y, x)).1) (tp w (y, x)).2) ∧ mD a M M') := by
  have hw64 : w < 64 := by rcases hw with h | h | h | h | h | h <;> omega
  have hw0 : 0 < w := by rcases hw with h | h | h | h | h | h <;> omega
  refine lpm (fun f (t : Int32 × cm) => f_X0_transpose_L14 a N m (zI (w : Nat)) f t.1 t.2) _ (fun t => ∃ k, k ≤ 64 ∧ t.1 = zI ((k : Nat) : Int) ∧ mD a M t.2 ∧ ∀ y x, y < 64 → x < 64 → bx (t.2.2 a y) x = if ((y / w) % 2 = 0 ∧ y < k) ∨ (¬ (y / w) % 2 = 0 ∧ y - w < k) then bx (M.2 a (tp w (y, x)).1) (tp w (y, x)).2 else bx (M.2 a y) x) (fun t => 100 - t.1.toInt.toNat) ?_ nm_F (zI 0, M) (by show 100 - _ < nm_F; rw [nm_F_eq]; omega) ⟨0, by omega, rfl, ⟨rfl, fun _ _ _ => rfl⟩, fun y x hy hx => ?_⟩
  · rintro f ⟨t, M1⟩ ⟨k, hk, e1, ⟨d1, d2⟩, hI⟩ hn9
    simp only at e1 hI d1 d2
    subst e1
    show wp (f_X0_transpose_L14 a N m _ (f + 1) _ _) _
    rw [f_X0_transpose_L14]
    simp (disch := omega) only [zI_lit, zI_add, zI_le]
    refine wp_if (fun h => wp_r ⟨fun y x hy hx => ?_, d1, d2⟩) (fun h => ?_)
    · rw [hI y x hy hx, if_pos]
      have := w2_a hw hy
      by_cases hc : (y / w) % 2 = 0
      · have := this.1 hc
        exact Or.inl ⟨hc, by omega⟩
      · have := this.2.1 hc
        exact Or.inr ⟨hc, by omega⟩
    have hk2 : k + w < 64 := by omega
    have hand := w2_and hw k (by omega)
    rw [← zI_0]
    have hmeas : 100 - (zI (((k : Nat) : Int) + 1)).toInt.toNat < 100 - (zI ((k : Nat) : Int)).toInt.toNat := by
      rw [zI_ti (by omega) (by omega), zI_ti (by omega) (by omega)]
      omega
    refine wp_if (fun h2 => ?_) (fun h2 => ?_)
    · have hk0 := hand.mp h2
      obtain ⟨-, hkw⟩ := (w2_a hw (x := k) (by omega)).1 hk0
      simp (disch := omega) only [nm_cz, zI_cl, nm_l_eq, hN]
      have e1 : ((k : Nat) : Int).toNat = k := rfl
      have e2 : (((k : Nat) : Int) + ((w : Nat) : Int)).toNat = k + w := by omega
      rw [e1, e2]
      have r1 : ∀ x, x < 64 → bx (M1.2 a k) x = bx (M.2 a k) x := fun x hx => by
        rw [hI k x (by omega) hx, if_neg (by omega)]
      have r2 : ∀ x, x < 64 → bx (M1.2 a (k + w)) x = bx (M.2 a (k + w)) x := fun x hx => by
        rw [hI (k + w) x hk2 hx, if_neg (by omega)]
      generalize hv : (nm_shr (M1.2 a k) (zI ((w : Nat) : Int)) ^^^ M1.2 a (k + w)) &&& m = v
      have hvb : ∀ x, x < 64 → bx v x = (decide ((x / w) % 2 = 0) && (bx (M.2 a k) (x + w) ^^ bx (M.2 a (k + w)) x)) := by
        intro x hx
        rw [← hv, bx_and, bx_xor, hm x hx, bx_shr _ hw64, r2 x hx, Bool.and_comm]
        by_cases hc : (x / w) % 2 = 0
        · rw [r1 _ ((w2_a hw hx).1 hc).1]
        · simp [hc]
      unfold f_X0_transpose_J69
      rw [zI_inc]
      refine hn9 (_, _) ⟨k + 1, by omega, rfl, ⟨d1, fun n j hn => ?_⟩, fun y x hy hx => ?_⟩ hmeas
      · show nm_upJ _ _ _ _ _ _ = _
        rw [nm_upJ_ap, if_neg (by rintro ⟨h1, h2⟩; exact hn ⟨h1, by omega⟩), nm_upJ_ap, if_neg (by rintro ⟨h1, h2⟩; exact hn ⟨h1, by omega⟩)]
        exact d2 n j hn
      · show bx (nm_upJ _ _ _ _ _ _) x = _
        have hyy := w2_a hw hy
        have hxx := w2_a hw hx
        rw [nm_upJ_ap]
        by_cases c1 : y = k + w
        · subst c1
          rw [if_pos ⟨rfl, rfl⟩, nm_upJ_ap, if_neg (by omega), bx_xor, r2 x hx, hvb x hx, if_pos (Or.inr ⟨by omega, by omega⟩)]
          unfold tp
          simp only
          by_cases c2 : (x / w) % 2 = 0
          · rw [if_neg (by omega), if_neg (by omega), show k + w - w = k by omega]
            simp only [c2, decide_true, Bool.true_and]
            cases bx (M.2 a k) (x + w) <;> cases bx (M.2 a (k + w)) x <;> rfl
          · rw [if_pos (by omega)]
            simp [c2]
        · rw [if_neg (fun hh => c1 hh.2), nm_upJ_ap]
          by_cases c3 : y = k
          · subst c3
            rw [if_pos ⟨rfl, rfl⟩, bx_xor, r1 x hx, bx_shl _ hw64 hx, if_pos (Or.inl ⟨hk0, by omega⟩)]
            unfold tp
            simp only
            by_cases c2 : (x / w) % 2 = 0
            · rw [if_pos (by omega)]
              by_cases c4 : w ≤ x
              · rw [hvb (x - w) (by omega)]
                have := hxx.2.2 c2 c4
                simp [this]
              · simp [c4]
            · rw [if_neg (by omega), if_pos hk0]
              have c4 := hxx.2.1 c2
              rw [hvb (x - w) (by omega), show x - w + w = x by omega]
              simp only [c4.1, c4.2, decide_true, Bool.true_and]
              cases bx (M.2 a y) x <;> cases bx (M.2 a (y + w)) (x - w) <;> rfl
          · rw [if_neg (fun hh => c3 hh.2), hI y x hy hx]
            by_cases c6 : ((y / w) % 2 = 0 ∧ y < k) ∨ (¬ (y / w) % 2 = 0 ∧ y - w < k)
            · rw [if_pos c6, if_pos (by omega)]
            · rw [if_neg c6, if_neg]
              intro c7
              by_cases c5 : (y / w) % 2 = 0
              · omega
              · have := hyy.2.1 c5
                omega
    · have hk0 : ¬ (k / w) % 2 = 0 := fun h3 => h2 (hand.mpr h3)
      unfold f_X0_transpose_J69
      rw [zI_inc]
      refine hn9 (_, _) ⟨k + 1, by omega, rfl, ⟨d1, d2⟩, fun y x hy hx => ?_⟩ hmeas
      show bx (M1.2 a y) x = _
      rw [hI y x hy hx]
      have hyy := w2_a hw hy
      by_cases c6 : ((y / w) % 2 = 0 ∧ y < k) ∨ (¬ (y / w) % 2 = 0 ∧ y - w < k)
      · rw [if_pos c6, if_pos (by omega)]
      · rw [if_neg c6, if_neg]
        intro c7
        by_cases c5 : (y / w) % 2 = 0
        · have : y ≠ k := fun e => hk0 (by rw [← e]; exact c5)
          omega
        · have h9 := hyy.2.1 c5
          have : y - w ≠ k := fun e => hk0 (by rw [← e]; exact h9.2)
          omega
  · show bx (M.2 a y) x = _
    rw [if_neg (by omega)]
theorem mD_tr {a : Nat} {M M1 M2 : cm} (h1 : mD a M M1) (h2 : mD a M1 M2) : mD a M M2 := ⟨h2.1.trans h1.1, fun m j h => (h2.2 m j h).trans (h1.2 m j h)⟩
theorem tp_all : ∀ y, y < 64 → ∀ x, x < 64 → (tp 1 (y, x)).1 < 64 ∧ (tp 1 (y, x)).2 < 64 ∧ (tp 2 (tp 1 (y, x))).1 < 64 ∧ (tp 2 (tp 1 (y, x))).2 < 64 ∧ (tp 4 (tp 2 (tp 1 (y, x)))).1 < 64 ∧ (tp 4 (tp 2 (tp 1 (y, x)))).2 < 64 ∧ (tp 8 (tp 4 (tp 2 (tp 1 (y, x))))).1 < 64 ∧ (tp 8 (tp 4 (tp 2 (tp 1 (y, x))))).2 < 64 ∧ (tp 16 (tp 8 (tp 4 (tp 2 (tp 1 (y, x)))))).1 < 64 ∧ (tp 16 (tp 8 (tp 4 (tp 2 (tp 1 (y, x)))))).2 < 64 ∧ tp 32 (tp 16 (tp 8 (tp 4 (tp 2 (tp 1 (y, x)))))) = (x, y) := by decide +kernel
set_option maxHeartbeats 2000000 in
theorem w_transpose {a : Nat} {N : Nat → Nat} (hN : N a = 64) {M : cm} : wp (f_X0_transpose a N M) (fun M' => (∀ y x, y < 64 → x < 64 → bx (M'.2 a y) x = bx (M.2 a x) y) ∧ mD a M M') := by
  unfold f_X0_transpose
  refine wp_s1 (fun M' => (∀ y x, y < 64 → x < 64 → bx (M'.2 a y) x = bx (M.2 a x) y) ∧ mD a M M') ?_ (fun _ h => wp_r h)
  rw [nm_F_eq, show (1000000 : Nat) = 999993 + 1 + 1 + 1 + 1 + 1 + 1 + 1 from rfl]
  rw [f_X0_transpose_L7, if_neg (show ¬ (32 : Int32) ≤ 0 by decide)]
  refine wp_s1 _ (w_trst (w := 32) (M := M) hN (by unfold w2; omega) (m := 4294967295) (by decide +kernel)) ?_
  rintro M1 ⟨a1, b1⟩
  rw [nm_l_eq, nm_l_eq, f_X0_transpose_L7, show (32 : Int32) / 2 = 16 from rfl, show (4294967295 : Int64) ^^^ nm_shl 4294967295 16 = 281470681808895 by decide +kernel, if_neg (show ¬ (16 : Int32) ≤ 0 by decide)]
  refine wp_s1 _ (w_trst (w := 16) (M := M1) hN (by unfold w2; omega) (m := 281470681808895) (by decide +kernel)) ?_
  rintro M2 ⟨a2, b2⟩
  rw [nm_l_eq, nm_l_eq, f_X0_transpose_L7, show (16 : Int32) / 2 = 8 from rfl, show (281470681808895 : Int64) ^^^ nm_shl 281470681808895 8 = 71777214294589695 by decide +kernel, if_neg (show ¬ (8 : Int32) ≤ 0 by decide)]
  refine wp_s1 _ (w_trst (w := 8) (M := M2) hN (by unfold w2; omega) (m := 71777214294589695) (by decide +kernel)) ?_
  rintro M3 ⟨a3, b3⟩
  rw [nm_l_eq, nm_l_eq, f_X0_transpose_L7, show (8 : Int32) / 2 = 4 from rfl, show (71777214294589695 : Int64) ^^^ nm_shl 71777214294589695 4 = 1085102592571150095 by decide +kernel, if_neg (show ¬ (4 : Int32) ≤ 0 by decide)]
  refine wp_s1 _ (w_trst (w := 4) (M := M3) hN (by unfold w2; omega) (m := 1085102592571150095) (by decide +kernel)) ?_
  rintro M4 ⟨a4, b4⟩
  rw [nm_l_eq, nm_l_eq, f_X0_transpose_L7, show (4 : Int32) / 2 = 2 from rfl, show (1085102592571150095 : Int64) ^^^ nm_shl 1085102592571150095 2 = 3689348814741910323 by decide +kernel, if_neg (show ¬ (2 : Int32) ≤ 0 by decide)]
  refine wp_s1 _ (w_trst (w := 2) (M := M4) hN (by unfold w2; omega) (m := 3689348814741910323) (by decide +kernel)) ?_
  rintro M5 ⟨a5, b5⟩
  rw [nm_l_eq, nm_l_eq, f_X0_transpose_L7, show (2 : Int32) / 2 = 1 from rfl, show (3689348814741910323 : Int64) ^^^ nm_shl 3689348814741910323 1 = 6148914691236517205 by decide +kernel, if_neg (show ¬ (1 : Int32) ≤ 0 by decide)]
  refine wp_s1 _ (w_trst (w := 1) (M := M5) hN (by unfold w2; omega) (m := 6148914691236517205) (by decide +kernel)) ?_
  rintro M6 ⟨a6, b6⟩
  rw [nm_l_eq, nm_l_eq, f_X0_transpose_L7, show (1 : Int32) / 2 = 0 from rfl, if_pos (show (0 : Int32) ≤ 0 by decide)]
  refine wp_r ⟨fun y x hy hx => ?_, mD_tr b1 (mD_tr b2 (mD_tr b3 (mD_tr b4 (mD_tr b5 b6))))⟩
  obtain ⟨c1, c2, c3, c4, c5, c6, c7, c8, c9, c10, c11⟩ := tp_all y hy x hx
  rw [a6 y x hy hx, a5 _ _ c1 c2, a4 _ _ c3 c4, a3 _ _ c5 c6, a2 _ _ c7 c8, a1 _ _ c9 c10]
  show bx (M.2 a (tp 32 (tp 16 (tp 8 (tp 4 (tp 2 (tp 1 (y, x))))))).1) (tp 32 (tp 16 (tp 8 (tp 4 (tp 2 (tp 1 (y, x))))))).2 = _
  rw [c11]
theorem w_reverseRows {M : cm} : wp (f_X7_reverseRows M) (fun M' => (∀ y x, y < 64 → x < 64 → bx (M'.2 3 y) x = bx (M.2 3 y) (63 - x)) ∧ mD 3 M M') := by
  unfold f_X7_reverseRows
  refine wp_s1 (fun M' => (∀ y x, y < 64 → x < 64 → bx (M'.2 3 y) x = bx (M.2 3 y) (63 - x)) ∧ mD 3 M M') ?_ (fun _ h => wp_r h)
  rw [zI_0]
  refine lpc f_X7_reverseRows_L2 _ 64 (fun k M1 => 0 ≤ k ∧ mD 3 M M1 ∧ (∀ (y x : Nat), (y : Int) < k → y < 64 → x < 64 → bx (M1.2 3 y) x = bx (M.2 3 y) (63 - x)) ∧ ∀ (y : Nat), k ≤ y → M1.2 3 y = M.2 3 y) ?_ ?_ nm_F 0 M (by omega) (by rw [nm_F_eq]; omega) ⟨by omega, ⟨rfl, fun _ _ _ => rfl⟩, fun y x hy => by omega, fun _ _ => rfl⟩
  · rintro f k M1 hk ⟨h0, ⟨d1, d2⟩, h1, h2⟩ hn9
    obtain ⟨y, rfl⟩ := Int.eq_ofNat_of_zero_le h0
    rw [f_X7_reverseRows_L2]
    simp (disch := omega) only [zI_lit, zI_le, nm_cz, zI_cl, nm_l_eq, zI_add]
    rw [if_neg (by omega), show ((y : Nat) : Int).toNat = y from rfl]
    refine hn9 _ ⟨by omega, ⟨d1, fun m j hm => ?_⟩, fun y' x hy' hy64 hx => ?_, fun y' hy' => ?_⟩
    · show nm_upJ _ _ _ _ _ _ = _
      rw [nm_upJ_ap, if_neg (by rintro ⟨h1, h2⟩; exact hm ⟨h1, by omega⟩)]
      exact d2 m j hm
    · show bx (nm_upJ _ _ _ _ _ _) x = _
      rw [nm_upJ_ap]
      by_cases he : y' = y
      · subst he
        rw [if_pos ⟨rfl, rfl⟩, w_reversed _ hx, h2 y' (by omega)]
      · rw [if_neg (fun h => he h.2)]
        exact h1 y' x (by omega) hy64 hx
    · show nm_upJ M1.2 3 y (f_X0_reversed (M1.2 3 y)) 3 y' = _
      rw [nm_upJ_ap, if_neg (by omega)]
      exact h2 y' (by omega)
  · rintro f M1 ⟨h0, d, h1, h2⟩
    rw [f_X7_reverseRows_L2]
    simp (disch := omega) only [zI_lit, zI_le, Int.le_refl, if_true]
    exact wp_r ⟨fun y x hy hx => h1 y x (by omega) hy hx, d⟩
