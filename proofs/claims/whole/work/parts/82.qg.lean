/-! the reference's own layers of a cell -/
/-- a cell's shapes, as the reference holds them -/
def shR (I : nm_I) (c : Nat) (s : Nat → Nat → Int) (n : Nat) : Prop := n ≤ 16 ∧ I 8 c = zI (n : Nat) ∧ ∀ k, k < n → okS c (s k) ∧ ∀ f, f < 7 → I (1 + f) (16 * c + k) = zI (s k f)
theorem shR_fr {I I' : nm_I} {c : Nat} {s : Nat → Nat → Int} {n : Nat} (h : shR I c s n) (hf : ∀ m j, 1 ≤ m → m ≤ 8 → I' m j = I m j) : shR I' c s n := by
  refine ⟨h.1, by rw [hf _ _ (by omega) (by omega)]; exact h.2.1, fun k hk => ⟨(h.2.2 k hk).1, fun f hf2 => by rw [hf _ _ (by omega) (by omega)]; exact (h.2.2 k hk).2 f hf2⟩⟩
abbrev inB (s : Nat → Nat → Int) (l n : Nat) (Y X : Nat) : Prop := ∃ k, k < n ∧ (s k 0 = 0 ∨ s k 0 = 2) ∧ s k 1 = (l : Int) ∧ cov (s k) Y X
abbrev inH (s : Nat → Nat → Int) (l n : Nat) (Y X : Nat) : Prop := ∃ k, k < n ∧ s k 0 = 1 ∧ s k 1 = (l : Int) ∧ cov (s k) Y X
theorem inB_s {s : Nat → Nat → Int} {l n Y X : Nat} : inB s l (n + 1) Y X ↔ inB s l n Y X ∨ ((s n 0 = 0 ∨ s n 0 = 2) ∧ s n 1 = (l : Int) ∧ cov (s n) Y X) := by
  constructor
  · rintro ⟨k, h1, h2⟩
    by_cases hk : k = n
    · subst hk
      exact Or.inr h2
    · exact Or.inl ⟨k, by omega, h2⟩
  · rintro (⟨k, h1, h2⟩ | h)
    · exact ⟨k, by omega, h2⟩
    · exact ⟨n, by omega, h⟩
theorem inH_s {s : Nat → Nat → Int} {l n Y X : Nat} : inH s l (n + 1) Y X ↔ inH s l n Y X ∨ (s n 0 = 1 ∧ s n 1 = (l : Int) ∧ cov (s n) Y X) := by
  constructor
  · rintro ⟨k, h1, h2⟩
    by_cases hk : k = n
    · subst hk
      exact Or.inr h2
    · exact Or.inl ⟨k, by omega, h2⟩
  · rintro (⟨k, h1, h2⟩ | h)
    · exact ⟨k, by omega, h2⟩
    · exact ⟨n, by omega, h⟩
theorem w_ownClr {b : Nat} (hb : b ≤ 258048) (I : nm_I) : wp (f_X12_laysOwn_L17 (zI (b : Nat)) nm_F 0 I) (fun I' => (∀ p, p < 4096 → I' 13 (b + p) = 0) ∧ o13 b I I') := by
  rw [zI_0]
  refine lpc (fun f k S => f_X12_laysOwn_L17 (zI (b : Nat)) f k S) _ 4096 (fun k S => 0 ≤ k ∧ (∀ p : Nat, p < 4096 → (p : Int) < k → S 13 (b + p) = 0) ∧ o13 b I S) ?_ ?_ nm_F 0 I (by omega) (by rw [nm_F_eq]; omega) ⟨by omega, fun p h1 h2 => by omega, fun _ _ _ => rfl⟩
  · rintro f k S hk ⟨hk0, hI, hF⟩ hn
    show wp (f_X12_laysOwn_L17 _ (f + 1) _ _) _
    rw [f_X12_laysOwn_L17, show (4096 : Int32) = zI 4096 from rfl, zI_0]
    simp (disch := omega) only [zI_le, zI_add, nm_cz, zI_cl, nm_l_eq, zI_inc]
    rw [if_neg (by omega), ← zI_0, vp_narZ (Or.inl rfl)]
    refine hn _ ⟨by omega, fun p h1 h2 => ?_, fun n j hj => ?_⟩
    · rw [nm_up_ap]
      by_cases hp : (p : Int) = k
      · rw [if_pos ⟨rfl, by omega⟩]
      · rw [if_neg (by omega)]
        exact hI p h1 (by omega)
    · rw [nm_up_ap, if_neg (by omega)]
      exact hF n j hj
  · rintro f S ⟨-, hI, hF⟩
    show wp (f_X12_laysOwn_L17 _ (f + 1) _ _) _
    rw [f_X12_laysOwn_L17, show (4096 : Int32) = zI 4096 from rfl, if_pos (show zI 4096 ≤ zI 4096 from Int32.le_refl _)]
    exact wp_r ⟨fun p hp => hI p hp (by omega), hF⟩
set_option maxHeartbeats 1000000 in
theorem w_ownAdd {c l : Nat} (hc : c < 8) (hl : l < 8) {s : Nat → Nat → Int} {n : Nat} {I0 I : nm_I} (hs : shR I0 c s n) (h0 : ∀ p, p < 4096 → I 13 (4096 * (8 * c + l) + p) = 0) (hF0 : o13 (4096 * (8 * c + l)) I0 I) :
    wp (f_X12_laysOwn_L47 (zI (c : Nat)) (zI (l : Nat)) (zI ((4096 * (8 * c + l) : Nat) : Int)) nm_F (zI ((16 * c : Nat) : Int)) I) (fun I' => (∀ Y X, Y < 64 → X < 64 → I' 13 (4096 * (8 * c + l) + 64 * Y + X) = if bP (inB s l n Y X) = true then 1 else 0) ∧ o13 (4096 * (8 * c + l)) I0 I') := by
  obtain ⟨b, hb⟩ : ∃ b, b = 4096 * (8 * c + l) := ⟨_, rfl⟩
  rw [← hb] at h0 hF0 ⊢
  have hb2 : b ≤ 258048 := by omega
  have hn16 := hs.1
  have key : ∀ (f k : Nat) (S : nm_I), k ≤ n → n - k < f → (∀ Y X, Y < 64 → X < 64 → S 13 (b + 64 * Y + X) = if bP (inB s l k Y X) = true then 1 else 0) → o13 b I0 S → wp (f_X12_laysOwn_L47 (zI (c : Nat)) (zI (l : Nat)) (zI (b : Nat)) f (zI ((16 * c + k : Nat) : Int)) S) (fun I' => (∀ Y X, Y < 64 → X < 64 → I' 13 (b + 64 * Y + X) = if bP (inB s l n Y X) = true then 1 else 0) ∧ o13 b I0 I') := by
    intro f
    induction f with
    | zero => intro k S h1 h2; omega
    | succ f ih =>
      intro k S hk hf hI hF
      have hsS : shR S c s n := shR_fr hs (fun m j h1 h2 => hF m j (by omega))
      rw [f_X12_laysOwn_L47, nm_cz (by omega) (by omega) (by omega), zI_cl (by omega) (by omega), Int.toNat_natCast, hsS.2.1, show (16 : Int32) = zI 16 from rfl, zI_mul, zI_add]
      simp (disch := omega) only [zI_le]
      refine wp_if (fun h => ?_) (fun h => ?_)
      · have : k = n := by omega
        subst this
        exact wp_r ⟨hI, hF⟩
      obtain ⟨o1, o2⟩ := hsS.2.2 k (by omega)
      obtain ⟨g1, g2, g3, g4, g5, g6⟩ := o1
      have e0 : S 1 (16 * c + k) = zI (s k 0) := o2 0 (by omega)
      have e1 : S 2 (16 * c + k) = zI (s k 1) := o2 1 (by omega)
      have e2 : S 3 (16 * c + k) = zI (s k 2) := o2 2 (by omega)
      have e3 : S 4 (16 * c + k) = zI (s k 3) := o2 3 (by omega)
      have e4 : S 5 (16 * c + k) = zI (s k 4) := o2 4 (by omega)
      have hnx : zI ((16 * c + k : Nat) : Int) + 1 = zI ((16 * c + (k + 1) : Nat) : Int) := by rw [zI_inc]; rfl
      have hskip : (¬ ((s k 0 = 0 ∨ s k 0 = 2) ∧ s k 1 = (l : Int))) → wp (f_X12_laysOwn_J170 (zI ((16 * c + k : Nat) : Int)) S (f_X12_laysOwn_L47 (zI (c : Nat)) (zI (l : Nat)) (zI (b : Nat)) f)) (fun I' => (∀ Y X, Y < 64 → X < 64 → I' 13 (b + 64 * Y + X) = if bP (inB s l n Y X) = true then 1 else 0) ∧ o13 b I0 I') := by
        intro hno
        unfold f_X12_laysOwn_J170
        rw [hnx]
        refine ih (k + 1) S (by omega) (by omega) (fun Y X hY hX => ?_) hF
        rw [hI Y X hY hX, show bP (inB s l (k + 1) Y X) = bP (inB s l k Y X) from bP_congr (by
          rw [inB_s]
          exact ⟨fun q => q.elim id (fun q => absurd ⟨q.1, q.2.1⟩ hno), Or.inl⟩)]
      have hadd : ∀ S2 : nm_I, ((s k 0 = 0 ∨ s k 0 = 2) ∧ s k 1 = (l : Int)) → (∀ Y X, Y < 64 → X < 64 → S2 13 (b + 64 * Y + X) = if rc (rcT (s k)).1 (rcT (s k)).2.1 (rcT (s k)).2.2.1 (rcT (s k)).2.2.2 Y X then 1 else S 13 (b + 64 * Y + X)) → o13 b S S2 → wp (f_X12_laysOwn_L47 (zI (c : Nat)) (zI (l : Nat)) (zI (b : Nat)) f (zI ((16 * c + (k + 1) : Nat) : Int)) S2) (fun I' => (∀ Y X, Y < 64 → X < 64 → I' 13 (b + 64 * Y + X) = if bP (inB s l n Y X) = true then 1 else 0) ∧ o13 b I0 I') := by
        intro S2 hy q1 q2
        refine ih (k + 1) S2 (by omega) (by omega) (fun Y X hY hX => ?_) (fun m j hj => (q2 m j hj).trans (hF m j hj))
        rw [q1 Y X hY hX, hI Y X hY hX]
        by_cases hcv : rc (rcT (s k)).1 (rcT (s k)).2.1 (rcT (s k)).2.2.1 (rcT (s k)).2.2.2 Y X
        · rw [if_pos hcv, if_pos (bP_t.mpr (inB_s.mpr (Or.inr ⟨hy.1, hy.2, hcv⟩)))]
        · rw [if_neg hcv, show bP (inB s l (k + 1) Y X) = bP (inB s l k Y X) from bP_congr (by
            rw [inB_s]
            exact ⟨fun q => q.elim id (fun q => absurd q.2.2 hcv), Or.inl⟩)]
      rw [nm_cz (by omega) (by omega) (by omega), zI_cl (by omega) (by omega), Int.toNat_natCast, e1, e0, zI_0]
      simp (disch := omega) only [zI_eq, nm_cz]
      have hJ : s k 0 ≠ 0 → s k 1 = (l : Int) → wp (f_X12_laysOwn_J133 (zI (b : Nat)) (zI ((16 * c + k : Nat) : Int)) S (f_X12_laysOwn_L47 (zI (c : Nat)) (zI (l : Nat)) (zI (b : Nat)) f)) (fun I' => (∀ Y X, Y < 64 → X < 64 → I' 13 (b + 64 * Y + X) = if bP (inB s l n Y X) = true then 1 else 0) ∧ o13 b I0 I') := by
        intro hk0 hlay
        unfold f_X12_laysOwn_J133
        rw [nm_cz (by omega) (by omega) (by omega), zI_cl (by omega) (by omega), Int.toNat_natCast, e0, e2, e3, e4, show (2 : Int32) = zI 2 from rfl]
        simp (disch := omega) only [zI_eq, nm_cz]
        refine wp_if (fun h2 => ?_) (fun h2 => ?_)
        · refine wp_s1 _ (w_laysPath hb2 ⟨g1, g2, g3, g4, g5, g6⟩ h2 S) ?_
          rintro S2 ⟨q1, q2⟩
          unfold f_X12_laysOwn_J170
          rw [hnx]
          exact hadd S2 ⟨Or.inr h2, hlay⟩ q1 q2
        · exact hskip (fun q => q.1.elim hk0 h2)
      refine wp_if (fun hlay => ?_) (fun hlay => hskip (fun q => hlay q.2))
      refine wp_if (fun hk0 => ?_) (fun hk0 => hJ hk0 hlay)
      obtain ⟨-, u1, u2, u3, u4, u5⟩ := g4 (Or.inl hk0)
      have hm1 : zI (s k 2) - zI (s k 2) / (64 : Int32) * (64 : Int32) = zI (s k 2 % 64) := by
        rw [show (64 : Int32) = zI 64 from rfl, zI_div (by omega) (by omega) (by omega) (by omega), zI_mul, zI_sub]
        exact congrArg zI (by omega)
      have hm2 : zI (s k 3) - zI (s k 3) / (100 : Int32) * (100 : Int32) = zI (s k 3 % 100) := by
        rw [show (100 : Int32) = zI 100 from rfl, zI_div (by omega) (by omega) (by omega) (by omega), zI_mul, zI_sub]
        exact congrArg zI (by omega)
      rw [e2, e3, hm1, hm2, show (64 : Int32) = zI 64 from rfl, show (100 : Int32) = zI 100 from rfl, zI_div (by omega) (by omega) (by omega) (by omega), zI_div (by omega) (by omega) (by omega) (by omega), show (1 : Int32) = zI 1 from rfl]
      refine wp_s1 _ (w_fillR (v := zI 1) (Or.inr rfl) hb2 (by omega) (by omega) (by omega) (by omega) (by omega) (by omega) (by omega) (by omega) S) ?_
      rintro S2 ⟨q1, q2⟩
      have hrc : rcT (s k) = (s k 2 % 64, s k 2 / 64, s k 3 / 100, s k 3 % 100) := by
        unfold rcT
        rw [if_neg (by omega)]
      have e0' : S2 1 (16 * c + k) = zI (s k 0) := (q2 _ _ (by omega)).trans e0
      unfold f_X12_laysOwn_J133
      rw [nm_cz (by omega) (by omega) (by omega), zI_cl (by omega) (by omega), Int.toNat_natCast, e0', show (2 : Int32) = zI 2 from rfl]
      simp (disch := omega) only [zI_eq]
      rw [if_neg (by omega)]
      unfold f_X12_laysOwn_J170
      rw [hnx]
      exact hadd S2 ⟨Or.inl hk0, hlay⟩ (by rw [hrc]; exact q1) q2
  exact key nm_F 0 I (by omega) (by rw [nm_F_eq]; omega) (fun Y X hY hX => by
    rw [show b + 64 * Y + X = b + (64 * Y + X) by omega, h0 _ (by omega), if_neg (fun q => by
      obtain ⟨k, hk, -⟩ := bP_t.mp q
      omega)]) hF0
