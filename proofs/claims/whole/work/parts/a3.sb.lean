/-! calls, told of both sides: copy -/
theorem sum64 {a b : Int} (a1 : -2147483648 ≤ a) (a2 : a < 2147483648) (b1 : -2147483648 ≤ b) (b2 : b < 2147483648) : ((zI a).toInt64 + (zI b).toInt64).toInt = a + b := by
  rw [Int64.toInt_add, zI_64 a1 a2, zI_64 b1 b2]
  exact Int.bmod_eq_of_le (by omega) (by omega)
theorem lg_le0 (x y : Int64) : lg_cmp x y ≤ 0 ↔ x.toInt ≤ y.toInt := by
  rw [← Int32.not_lt, lg_gt0]
  omega
theorem span_0 (x : Int32) : f_X0_span x 0 = 0 := by
  unfold f_X0_span
  rw [if_pos (by decide), show nm_shl (1 : Int64) 0 - (1 : Int64) = 0 by decide]
  unfold nm_shl
  simp
section
variable {S : ca} {K : Nat → Nat} {I : nm_I}
theorem s_copy (h : RR S K I) (x y u : Int32) : simP K S.2 (f_X11_copy x y u S.1) (f_X12_copy x y u I) := by
  obtain ⟨a, a8, a9, rfl⟩ := zI_ex x
  obtain ⟨b, b8, b9, rfl⟩ := zI_ex y
  obtain ⟨k, k8, k9, rfl⟩ := zI_ex u
  obtain ⟨hc, ⟨hA, hB, hU, hE, hJ, hG, hL, hZ⟩, D, T, fo, nets, dn, dev, hC, hF, hW⟩ := id h
  obtain ⟨hr, h1, h2, h3⟩ := id hL
  have hno6 := simP_no h (x := -6) (b := -6) rfl (by decide) (by decide)
  unfold f_X11_copy f_X12_copy
  rw [h1, h2]
  cases hr with
  | false => exact simP_no h (b := -2) rfl (by decide) (by decide)
  | true =>
    obtain ⟨ln, h4⟩ := h3 rfl
    rw [if_neg (show ¬ bq true = 0 by decide), if_neg (show ¬ bq true = 0 by decide)]
    have q0 : ∀ z, (0 ≤ zI z) = (zI 0 ≤ zI z) := fun _ => rfl
    have q1 : ∀ z, (zI z < 0) = (zI z < zI 0) := fun _ => rfl
    have c1 : (0 < lg_cmp ((zI a).toInt64 + (zI k).toInt64) 64) ↔ 64 < a + k := by
      rw [lg_gt0, sum64 a8 a9 k8 k9, show (64 : Int64).toInt = 64 by decide]
    have c2 : (lg_cmp ((zI b).toInt64 + (zI k).toInt64) 64 ≤ 0) ↔ b + k ≤ 64 := by
      rw [lg_le0, sum64 b8 b9 k8 k9, show (64 : Int64).toInt = 64 by decide]
    have e0 : (0 ≤ zI k) ↔ 0 ≤ k := by rw [q0, zI_le (by omega) (by omega) (by omega) (by omega)]
    have ea : (zI a < 0) ↔ a < 0 := by rw [q1, zI_lt (by omega) (by omega) (by omega) (by omega)]
    have eb : (zI b < 0) ↔ b < 0 := by rw [q1, zI_lt (by omega) (by omega) (by omega) (by omega)]
    have ek : ((64 : Int32) < zI k) ↔ 64 < k := by rw [show (64 : Int32) = zI 64 from rfl, zI_lt (by omega) (by omega) (by omega) (by omega)]
    by_cases hk : ¬ 0 ≤ k
    · rw [if_neg (fun e => hk (e0.1 e)), if_neg (fun e => hk (e0.1 e))]
      exact simP_no h (b := -4) rfl (by decide) (by decide)
    replace hk := Classical.not_not.mp hk
    rw [if_pos (e0.2 hk), if_pos (e0.2 hk)]
    by_cases ha : a < 0
    · rw [if_pos (ea.2 ha), if_pos (ea.2 ha)]
      exact hno6
    rw [if_neg (fun e => ha (ea.1 e)), if_neg (fun e => ha (ea.1 e))]
    by_cases hb : b < 0
    · rw [if_pos (eb.2 hb), if_pos (eb.2 hb)]
      exact hno6
    rw [if_neg (fun e => hb (eb.1 e)), if_neg (fun e => hb (eb.1 e))]
    by_cases h64 : 64 < k
    · rw [if_pos (ek.2 h64), if_pos (c1.2 (by omega))]
      exact hno6
    rw [if_neg (fun e => h64 (ek.1 e))]
    have es : (64 : Int32) - zI k = zI (64 - k) := by rw [show (64 : Int32) = zI 64 from rfl, zI_sub]
    have e5 : (zI (64 - k) < zI a) ↔ 64 < a + k := by
      rw [zI_lt (by omega) (by omega) (by omega) (by omega)]
      omega
    have e6 : (zI b ≤ zI (64 - k)) ↔ b + k ≤ 64 := by
      rw [zI_le (by omega) (by omega) (by omega) (by omega)]
      omega
    rw [es]
    by_cases h5 : 64 < a + k
    · rw [if_pos (e5.2 h5), if_pos (c1.2 h5)]
      exact hno6
    rw [if_neg (fun e => h5 (e5.1 e)), if_neg (fun e => h5 (c1.1 e))]
    by_cases h6 : ¬ b + k ≤ 64
    · rw [if_neg (fun e => h6 (e6.1 e)), if_neg (fun e => h6 (c2.1 e))]
      exact hno6
    replace h6 := Classical.not_not.mp h6
    rw [if_pos (e6.2 h6), if_pos (c2.2 h6)]
    obtain ⟨a, rfl⟩ := Int.eq_ofNat_of_zero_le (show 0 ≤ a by omega)
    obtain ⟨b, rfl⟩ := Int.eq_ofNat_of_zero_le (show 0 ≤ b by omega)
    obtain ⟨k, rfl⟩ := Int.eq_ofNat_of_zero_le hk
    clear q0 q1 c1 c2 e0 ea eb ek es e5 e6 hno6
    obtain ⟨l2, hl2⟩ : ∃ l2 : Nat → Bool, l2 = fun i => if b ≤ i ∧ i < b + k then ln (a + (i - b)) else ln i := ⟨_, rfl⟩
    have hl3 : ∀ i, l2 i = if b ≤ i ∧ i < b + k then ln (a + (i - b)) else ln i := fun i => by rw [hl2]
    have key1 : ∀ (f j : Nat) (Z : nm_I), j ≤ k → k - j < f → (∀ i, i < j → Z 79 i = bq (ln (a + i))) → (∀ m i, m ≠ 79 → Z m i = I m i) → wp (f_X12_copy_L67 (zI (a : Nat)) (zI (k : Nat)) f (zI (j : Nat)) Z) (fun Z' => (∀ i, i < k → Z' 79 i = bq (ln (a + i))) ∧ ∀ m i, m ≠ 79 → Z' m i = I m i) := by
      intro f
      induction f with
      | zero => intro j Z h1 h2; omega
      | succ f ih =>
        intro j Z hj hf hI hF9
        rw [f_X12_copy_L67]
        simp (disch := omega) only [zI_le]
        refine wp_if (fun h => ?_) (fun h => ?_)
        · have : j = k := by omega
          subst this
          exact wp_r ⟨hI, hF9⟩
        rw [zI_add, nm_cz (by omega) (by omega) (by omega), nm_cz (by omega) (by omega) (by omega), zI_cl (by omega) (by omega), zI_cl (by omega) (by omega), show (((a : Nat) : Int) + ((j : Nat) : Int)).toNat = a + j by omega, Int.toNat_natCast, nm_l_eq, zI_inc]
        refine ih (j + 1) _ (by omega) (by omega) (fun i hi => ?_) (fun m i hm => ?_)
        · rw [nm_up_ap]
          by_cases hij : i = j
          · rw [if_pos ⟨rfl, hij⟩, hF9 _ _ (by omega), (h4 _ (by omega)).2, hij]
          · rw [if_neg (fun e => hij e.2)]
            exact hI i (by omega)
        · rw [nm_up_ap, if_neg (fun e => hm e.1)]
          exact hF9 m i hm
    obtain ⟨Z1, ez1, z1, z2⟩ := key1 nm_F 0 I (by omega) (by rw [nm_F_eq]; omega) (fun i hi => absurd hi (Nat.not_lt_zero _)) (fun _ _ _ => rfl)
    have ez1' : f_X12_copy_L67 (zI (a : Nat)) (zI (k : Nat)) nm_F 0 I = some Z1 := ez1
    have key2 : ∀ (f j : Nat) (Z : nm_I), j ≤ k → k - j < f → (∀ i, i < 64 → Z 78 i = bq (if b ≤ i ∧ i < b + j then ln (a + (i - b)) else ln i)) → (∀ m i, m ≠ 78 → Z m i = Z1 m i) → wp (f_X12_copy_L98 (zI (b : Nat)) (zI (k : Nat)) f (zI (j : Nat)) Z) (fun Z' => (∀ i, i < 64 → Z' 78 i = bq (if b ≤ i ∧ i < b + k then ln (a + (i - b)) else ln i)) ∧ ∀ m i, m ≠ 78 → Z' m i = Z1 m i) := by
      intro f
      induction f with
      | zero => intro j Z h1 h2; omega
      | succ f ih =>
        intro j Z hj hf hI hF9
        rw [f_X12_copy_L98]
        simp (disch := omega) only [zI_le]
        refine wp_if (fun h => ?_) (fun h => ?_)
        · have : j = k := by omega
          subst this
          exact wp_r ⟨hI, hF9⟩
        rw [zI_add, nm_cz (by omega) (by omega) (by omega), nm_cz (by omega) (by omega) (by omega), zI_cl (by omega) (by omega), zI_cl (by omega) (by omega), show (((b : Nat) : Int) + ((j : Nat) : Int)).toNat = b + j by omega, Int.toNat_natCast, nm_l_eq, zI_inc]
        refine ih (j + 1) _ (by omega) (by omega) (fun i hi => ?_) (fun m i hm => ?_)
        · rw [nm_up_ap]
          by_cases hij : i = b + j
          · rw [if_pos ⟨rfl, hij⟩, hF9 _ _ (by omega), z1 _ (by omega), if_pos (by omega), hij, Nat.add_sub_cancel_left]
          · rw [if_neg (fun e => hij e.2), hI i hi]
            by_cases hbi : b ≤ i ∧ i < b + j
            · rw [if_pos hbi, if_pos (by omega)]
            · rw [if_neg hbi, if_neg (by omega)]
        · rw [nm_up_ap, if_neg (fun e => hm e.1)]
          exact hF9 m i hm
    obtain ⟨Z2, ez2, z3, z4⟩ := key2 nm_F 0 Z1 (by omega) (by rw [nm_F_eq]; omega) (fun i hi => by
      rw [z2 _ _ (by omega), (h4 i hi).2, if_neg (by omega)]) (fun _ _ _ => rfl)
    have ez2' : f_X12_copy_L98 (zI (b : Nat)) (zI (k : Nat)) nm_F 0 Z1 = some Z2 := ez2
    rw [ez1', nm_s1_some, ez2', nm_s1_some, nm_l_eq, nm_l_eq]
    obtain ⟨w, hw⟩ : ∃ w : Int64, w = (S.1.2 0 7 &&& (f_X0_span (zI (b : Nat)) (zI (k : Nat)) ^^^ (-1))) ||| nm_shl (nm_shr (S.1.2 0 7) (zI (a : Nat)) &&& f_X0_span 0 (zI (k : Nat))) (zI (b : Nat)) := ⟨_, rfl⟩
    rw [← hw]
    have hwb : ∀ x, x < 64 → bx w x = l2 x := by
      intro x hx
      rw [hw, hl3]
      by_cases hk0 : k = 0
      · subst hk0
        rw [show zI ((0 : Nat) : Int) = 0 from rfl, span_0, span_0, bx_or, bx_and, bx_not _ hx, bx_0]
        have e : nm_shl (nm_shr (S.1.2 0 7) (zI (a : Nat)) &&& 0) (zI (b : Nat)) = 0 := by
          unfold nm_shl
          simp
        rw [e, bx_0]
        simp only [Bool.not_false, Bool.and_true, Bool.or_false]
        rw [(h4 x hx).1, if_neg (by omega)]
      · rw [bx_or, bx_and, bx_not _ hx, bx_span (by omega) (by omega) hx, bx_shl _ (by omega) hx, (h4 x hx).1]
        by_cases hbx : b ≤ x
        · rw [bx_and, bx_shr _ (by omega), show (0 : Int32) = zI ((0 : Nat) : Int) from rfl, bx_span (by omega) (by omega) (by omega), decide_eq_true hbx, decide_eq_true (Nat.zero_le _)]
          by_cases hxk : x < b + k
          · rw [decide_eq_true hxk, decide_eq_true (show x - b < 0 + k by omega), if_pos ⟨hbx, hxk⟩, (h4 _ (by omega)).1, Nat.add_comm (x - b) a]
            simp
          · rw [decide_eq_false hxk, decide_eq_false (show ¬ x - b < 0 + k by omega), if_neg (fun e => hxk e.2)]
            simp
        · rw [decide_eq_false hbx, if_neg (fun e => hbx e.1)]
          simp
    obtain ⟨B, hB9⟩ : ∃ B, B = nm_upJ S.1.2 0 7 w := ⟨_, rfl⟩
    rw [← hB9]
    have b1 : ∀ m, m ≠ 0 → B m = S.1.2 m := fun m h => by rw [hB9, nm_upJ_n _ _ _ _ h]
    have b2 : B 0 7 = w := by rw [hB9, nm_upJ_ap, if_pos ⟨rfl, rfl⟩]
    clear hB9
    have a1 : ∀ m j, ¬ (m = 0 ∧ j = 9999) → S.1.1 m j = S.1.1 m j := fun m j _ => rfl
    have j1 : ∀ m j, ¬ (m = 78 ∨ m = 79) → Z2 m j = I m j := fun m j h => by rw [z4 m j (by omega), z2 m j (by omega)]
    have hn : RLn ((S.1.1, B), S.2) Z2 := ⟨true, h1, (j1 _ _ (by omega)).trans h2, fun _ => ⟨l2, fun x hx => ⟨by
      show bx (B 0 7) x = l2 x
      rw [b2]
      exact hwb x hx, by
      rw [z3 x hx, hl3]⟩⟩⟩
    have hA' : RA ((S.1.1, B), S.2) K Z2 := RA_fr hA ⟨fun m j h => a1 m j (by omega), fun m h => b1 m (by omega), fun _ _ => rfl⟩ (fun m j _ _ => j1 m j (by omega))
    exact ⟨zI (k : Nat), (S.1.1, B), Z2, rfl, rfl, hc, ⟨hA', RB_fr hB (fun m j _ _ => a1 m j (by omega)) (fun m j _ _ => j1 m j (by omega)), RU_fr hU (fun m j _ _ => a1 m j (by omega)) rfl (fun m j _ => j1 m j (by omega)), RE_fr hE (a1 _ _ (by omega)) (fun j => j1 _ _ (by omega)), RJ_fr hJ (fun m j _ => a1 m j (by omega)) (fun m j _ => j1 m j (by omega)), RG_fr hG (fun j _ _ => a1 _ _ (by omega)) (fun j _ _ => j1 _ _ (by omega)), hn, RZ_fr hZ (fun k => a1 _ _ (by omega)) (fun k => j1 _ _ (by omega))⟩, D, T, fo, nets, dn, dev, RC_fr hC (fun m j _ => a1 m j (by omega)) (b1 101 (by omega)) (fun m j _ => j1 m j (by omega)), RF_fr hF (fun m j _ => a1 m j (by omega)) (fun m _ => b1 m (by omega)) (fun _ _ _ => rfl) (fun m j _ => j1 m j (by omega)), RW_fr hW (fun m j _ _ => a1 m j (by omega)) (fun m j _ => j1 m j (by omega))⟩
end
