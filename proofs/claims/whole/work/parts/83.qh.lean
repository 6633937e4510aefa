/-! holes, and all eight layers -/
set_option maxHeartbeats 1000000 in
theorem w_ownCut {c l : Nat} (hc : c < 8) (hl : l < 8) {s : Nat → Nat → Int} {n : Nat} {I0 I : nm_I} (hs : shR I0 c s n) (h0 : ∀ Y X, Y < 64 → X < 64 → I 13 (4096 * (8 * c + l) + 64 * Y + X) = if bP (inB s l n Y X) = true then 1 else 0) (hF0 : o13 (4096 * (8 * c + l)) I0 I) :
    wp (f_X12_laysOwn_L182 (zI (c : Nat)) (zI (l : Nat)) (zI ((4096 * (8 * c + l) : Nat) : Int)) nm_F (zI ((16 * c : Nat) : Int)) I) (fun I' => (∀ Y X, Y < 64 → X < 64 → I' 13 (4096 * (8 * c + l) + 64 * Y + X) = if bP (inB s l n Y X ∧ ¬ inH s l n Y X) = true then 1 else 0) ∧ o13 (4096 * (8 * c + l)) I0 I') := by
  obtain ⟨b, hb⟩ : ∃ b, b = 4096 * (8 * c + l) := ⟨_, rfl⟩
  rw [← hb] at h0 hF0 ⊢
  have hb2 : b ≤ 258048 := by omega
  have hn16 := hs.1
  have key : ∀ (f k : Nat) (S : nm_I), k ≤ n → n - k < f → (∀ Y X, Y < 64 → X < 64 → S 13 (b + 64 * Y + X) = if bP (inB s l n Y X ∧ ¬ inH s l k Y X) = true then 1 else 0) → o13 b I0 S → wp (f_X12_laysOwn_L182 (zI (c : Nat)) (zI (l : Nat)) (zI (b : Nat)) f (zI ((16 * c + k : Nat) : Int)) S) (fun I' => (∀ Y X, Y < 64 → X < 64 → I' 13 (b + 64 * Y + X) = if bP (inB s l n Y X ∧ ¬ inH s l n Y X) = true then 1 else 0) ∧ o13 b I0 I') := by
    intro f
    induction f with
    | zero => intro k S h1 h2; omega
    | succ f ih =>
      intro k S hk hf hI hF
      have hsS : shR S c s n := shR_fr hs (fun m j h1 h2 => hF m j (by omega))
      rw [f_X12_laysOwn_L182, nm_cz (by omega) (by omega) (by omega), zI_cl (by omega) (by omega), Int.toNat_natCast, hsS.2.1, show (16 : Int32) = zI 16 from rfl, zI_mul, zI_add]
      simp (disch := omega) only [zI_le]
      refine wp_if (fun h => ?_) (fun h => ?_)
      · have : k = n := by omega
        subst this
        exact wp_r ⟨hI, hF⟩
      obtain ⟨o1, o2⟩ := hsS.2.2 k (by omega)
      obtain ⟨g1, g2, g3, g4, g5, g6⟩ := o1
      have e0 : S 1 (16 * c + k) = zI (s k 0) := o2 0 (by omega)
      have e1 : S 2 (16 * c + k) = zI (s k 1) := o2 1 (by omega)
      have e2 : S 3 (16 * c + k) = zI (s k 2) := o2 2 (by omega)
      have e3 : S 4 (16 * c + k) = zI (s k 3) := o2 3 (by omega)
      have hnx : zI ((16 * c + k : Nat) : Int) + 1 = zI ((16 * c + (k + 1) : Nat) : Int) := by rw [zI_inc]; rfl
      have hskip : (¬ (s k 0 = 1 ∧ s k 1 = (l : Int))) → wp (f_X12_laysOwn_J266 (zI ((16 * c + k : Nat) : Int)) S (f_X12_laysOwn_L182 (zI (c : Nat)) (zI (l : Nat)) (zI (b : Nat)) f)) (fun I' => (∀ Y X, Y < 64 → X < 64 → I' 13 (b + 64 * Y + X) = if bP (inB s l n Y X ∧ ¬ inH s l n Y X) = true then 1 else 0) ∧ o13 b I0 I') := by
        intro hno
        unfold f_X12_laysOwn_J266
        rw [hnx]
        refine ih (k + 1) S (by omega) (by omega) (fun Y X hY hX => ?_) hF
        rw [hI Y X hY hX, show bP (inB s l n Y X ∧ ¬ inH s l (k + 1) Y X) = bP (inB s l n Y X ∧ ¬ inH s l k Y X) from bP_congr (by
          rw [inH_s]
          exact ⟨fun q => ⟨q.1, fun q2 => q.2 (Or.inl q2)⟩, fun q => ⟨q.1, fun q2 => q2.elim q.2 (fun q3 => hno ⟨q3.1, q3.2.1⟩)⟩⟩)]
      rw [nm_cz (by omega) (by omega) (by omega), zI_cl (by omega) (by omega), Int.toNat_natCast, e1, e0, show (1 : Int32) = zI 1 from rfl]
      simp (disch := omega) only [zI_eq, nm_cz]
      refine wp_if (fun hk0 => ?_) (fun hk0 => hskip (fun q => hk0 q.1))
      refine wp_if (fun hlay => ?_) (fun hlay => hskip (fun q => hlay q.2))
      obtain ⟨-, u1, u2, u3, u4, u5⟩ := g4 (Or.inr hk0)
      have hm1 : zI (s k 2) - zI (s k 2) / (64 : Int32) * (64 : Int32) = zI (s k 2 % 64) := by
        rw [show (64 : Int32) = zI 64 from rfl, zI_div (by omega) (by omega) (by omega) (by omega), zI_mul, zI_sub]
        exact congrArg zI (by omega)
      have hm2 : zI (s k 3) - zI (s k 3) / (100 : Int32) * (100 : Int32) = zI (s k 3 % 100) := by
        rw [show (100 : Int32) = zI 100 from rfl, zI_div (by omega) (by omega) (by omega) (by omega), zI_mul, zI_sub]
        exact congrArg zI (by omega)
      rw [e2, e3, hm1, hm2, show (64 : Int32) = zI 64 from rfl, show (100 : Int32) = zI 100 from rfl, zI_div (by omega) (by omega) (by omega) (by omega), zI_div (by omega) (by omega) (by omega) (by omega), zI_0]
      refine wp_s1 _ (w_fillR (v := zI 0) (Or.inl rfl) hb2 (by omega) (by omega) (by omega) (by omega) (by omega) (by omega) (by omega) (by omega) S) ?_
      rintro S2 ⟨q1, q2⟩
      have hrc : rcT (s k) = (s k 2 % 64, s k 2 / 64, s k 3 / 100, s k 3 % 100) := by
        unfold rcT
        rw [if_neg (by omega)]
      unfold f_X12_laysOwn_J266
      rw [show zI 1 = (1 : Int32) from rfl, hnx]
      refine ih (k + 1) S2 (by omega) (by omega) (fun Y X hY hX => ?_) (fun m j hj => (q2 m j hj).trans (hF m j hj))
      rw [q1 Y X hY hX, hI Y X hY hX]
      by_cases hcv : rc (s k 2 % 64) (s k 2 / 64) (s k 3 / 100) (s k 3 % 100) Y X
      · rw [if_pos hcv, if_neg (fun q => (bP_t.mp q).2 (inH_s.mpr (Or.inr ⟨hk0, hlay, by unfold cov; rw [hrc]; exact hcv⟩)))]
        rfl
      · rw [if_neg hcv, show bP (inB s l n Y X ∧ ¬ inH s l (k + 1) Y X) = bP (inB s l n Y X ∧ ¬ inH s l k Y X) from bP_congr (by
          rw [inH_s]
          exact ⟨fun q => ⟨q.1, fun q2 => q.2 (Or.inl q2)⟩, fun q => ⟨q.1, fun q2 => q2.elim q.2 (fun q3 => hcv (by have := q3.2.2; unfold cov at this; rw [hrc] at this; exact this))⟩⟩)]
  exact key nm_F 0 I (by omega) (by rw [nm_F_eq]; omega) (fun Y X hY hX => by
    rw [h0 Y X hY hX, show bP (inB s l n Y X ∧ ¬ inH s l 0 Y X) = bP (inB s l n Y X) from bP_congr ⟨fun q => q.1, fun q => ⟨q, fun ⟨k, hk, _⟩ => absurd hk (Nat.not_lt_zero _)⟩⟩]) hF0
/-- the flat map of one cell, as the reference holds it -/
abbrev fR (I : nm_I) (c : Nat) (F : Nat → Bool) : Prop := ∀ p, p < 32768 → I 13 (32768 * c + p) = if F p = true then 1 else 0
abbrev fX (c : Nat) (I I' : nm_I) : Prop := ∀ n j, ¬ (n = 13 ∧ 32768 * c ≤ j ∧ j < 32768 * c + 32768) → I' n j = I n j
theorem w_laysOwn {c : Nat} (hc : c < 8) {s : Nat → Nat → Int} {n : Nat} {I : nm_I} (hs : shR I c s n) :
    wp (f_X12_laysOwn (zI (c : Nat)) I) (fun I' => fR I' c (ownB s n) ∧ fX c I I') := by
  have hn16 := hs.1
  unfold f_X12_laysOwn
  refine wp_s1 (fun I' => fR I' c (ownB s n) ∧ fX c I I') ?_ (fun _ h => wp_r h)
  rw [zI_0]
  have key : ∀ (f l : Nat) (S : nm_I), l ≤ 8 → 8 - l < f → (∀ p, p < 4096 * l → S 13 (32768 * c + p) = if ownB s n p = true then 1 else 0) → fX c I S → wp (f_X12_laysOwn_L2 (zI (c : Nat)) f (zI ((l : Nat) : Int)) S) (fun I' => fR I' c (ownB s n) ∧ fX c I I') := by
    intro f
    induction f with
    | zero => intro k S h1 h2; omega
    | succ f ih =>
      intro l S hl hf hI hF
      rw [f_X12_laysOwn_L2, show (8 : Int32) = zI 8 from rfl]
      simp (disch := omega) only [zI_le]
      refine wp_if (fun h => ?_) (fun h => ?_)
      · have : l = 8 := by omega
        subst this
        exact wp_r ⟨fun p hp => hI p (by omega), hF⟩
      have hsS : shR S c s n := shR_fr hs (fun m j h1 h2 => hF m j (by omega))
      have eb : f_X12_flatAt (zI (c : Nat)) (zI (l : Nat)) = zI ((4096 * (8 * c + l) : Nat) : Int) := by
        unfold f_X12_flatAt
        rw [show (4096 : Int32) = zI 4096 from rfl, show (8 : Int32) = zI 8 from rfl, zI_mul, zI_add, zI_mul]
        rfl
      rw [nm_l_eq, eb]
      refine wp_s1 _ (w_ownClr (by omega) S) ?_
      rintro S1 ⟨q1, q2⟩
      rw [nm_l_eq, show (16 : Int32) * zI (c : Nat) = zI ((16 * c : Nat) : Int) by rw [show (16 : Int32) = zI 16 from rfl, zI_mul]; rfl]
      refine wp_s1 _ (w_ownAdd hc (by omega) hsS q1 q2) ?_
      rintro S2 ⟨q3, q4⟩
      rw [nm_l_eq]
      refine wp_s1 _ (w_ownCut hc (by omega) hsS q3 q4) ?_
      rintro S3 ⟨q5, q6⟩
      rw [zI_inc]
      refine ih (l + 1) S3 (by omega) (by omega) (fun p hp => ?_) (fun m j hj => (q6 m j (by omega)).trans (hF m j hj))
      by_cases hpl : p < 4096 * l
      · rw [q6 _ _ (by omega)]
        exact hI p hpl
      · have e := q5 (p % 4096 / 64) (p % 64) (by omega) (by omega)
        rw [show 4096 * (8 * c + l) + 64 * (p % 4096 / 64) + p % 64 = 32768 * c + p by omega] at e
        rw [e]
        have hpd : p / 4096 = l := by omega
        unfold ownB
        rw [hpd]
  exact key nm_F 0 I (by omega) (by rw [nm_F_eq]; omega) (fun p hp => by omega) (fun _ _ _ => rfl)
