/-! another cell's squares, brought by the reference -/
theorem flatAt_z (c l : Nat) : f_X12_flatAt (zI (c : Nat)) (zI (l : Nat)) = zI ((4096 * (8 * c + l) : Nat) : Int) := by
  unfold f_X12_flatAt
  rw [show (4096 : Int32) = zI 4096 from rfl, show (8 : Int32) = zI 8 from rfl, zI_mul, zI_add, zI_mul]
  rfl
theorem sR1_o {b q : Nat} {s : Nat → Int} {I I' : nm_I} (h : sR1 I q s) (ho : o13 b I I') : sR1 I' q s := fun f hf => by
  rw [ho _ _ (by omega)]
  exact h f hf
theorem o13_tr {b : Nat} {I I1 I2 : nm_I} (h1 : o13 b I I1) (h2 : o13 b I1 I2) : o13 b I I2 := fun n j h => (h2 n j h).trans (h1 n j h)
set_option maxHeartbeats 1000000 in
theorem w_putX {c l q j : Nat} (hc : c < 8) (hl : l < 8) (hq : q < 128) (hj : j ≤ 3) {I : nm_I} {s : Nat → Int} (hs : sR1 I q s) (hp : okP s) {A B : Int} (hA : I 0 17 = zI A) (hB : I 0 18 = zI B) (a1 : -200 ≤ A ∧ A ≤ 200) (b1 : -200 ≤ B ∧ B ≤ 200) {P : Nat → Nat → Prop} (h0 : sQ (4096 * (8 * c + l)) P I) :
    wp (f_X12_laysPut_L75 (zI (c : Nat)) (zI (q : Nat)) (zI (l : Nat)) (zI (j : Nat)) nm_F 0 I) (fun I' => sQ (4096 * (8 * c + l)) (fun Y X => P Y X ∨ (hitI A (tmF (s 5)) (tmT (s 5)) X ∧ B + (j : Int) * tmF (s 6) = (Y : Int))) I' ∧ o13 (4096 * (8 * c + l)) I I') := by
  have ht : (tmT (s 5) : Int) = s 5 / 200 ∧ tmT (s 5) ≤ 4 := by
    obtain ⟨-, -, -, p5, -⟩ := hp
    unfold tmT
    omega
  have hr5 : 0 ≤ s 5 ∧ s 5 < 1000 := by
    obtain ⟨-, -, -, p5, -⟩ := hp
    omega
  have key : ∀ (f i : Nat) (S : nm_I), i ≤ tmT (s 5) → tmT (s 5) - i < f → sQ (4096 * (8 * c + l)) (fun Y X => P Y X ∨ (hitI A (tmF (s 5)) i X ∧ B + (j : Int) * tmF (s 6) = (Y : Int))) S → o13 (4096 * (8 * c + l)) I S → wp (f_X12_laysPut_L75 (zI (c : Nat)) (zI (q : Nat)) (zI (l : Nat)) (zI (j : Nat)) f (zI (i : Nat)) S) (fun I' => sQ (4096 * (8 * c + l)) (fun Y X => P Y X ∨ (hitI A (tmF (s 5)) (tmT (s 5)) X ∧ B + (j : Int) * tmF (s 6) = (Y : Int))) I' ∧ o13 (4096 * (8 * c + l)) I I') := by
    intro f
    induction f with
    | zero => intro i S h1 h2; omega
    | succ f ih =>
      intro i S hi hf hI hF
      have hsS := sR1_o hs hF
      have e5 : S 6 q = zI (s 5) := hsS 5 (by omega)
      rw [f_X12_laysPut_L75, nm_cz (by omega) (by omega) (by omega), zI_cl (by omega) (by omega), Int.toNat_natCast, e5, show (200 : Int32) = zI 200 from rfl, zI_div (by omega) (by omega) (by omega) (by omega)]
      simp (disch := omega) only [zI_le]
      refine wp_if (fun h => ?_) (fun h => ?_)
      · have : i = tmT (s 5) := by omega
        subst this
        exact wp_r ⟨hI, hF⟩
      have hpl := w_placed (i := i) hq hsS hp ((hF 0 17 (by omega)).trans hA) ((hF 0 18 (by omega)).trans hB) a1 b1 (by omega) hj
      refine wp_s1 _ ⟨_, hpl, rfl⟩ ?_
      rintro _ rfl
      have m1 := mul_rng (i := i) (f := tmF (s 5)) (by omega) (by have := hp.2.2.2.1; unfold tmF; omega) (by have := hp.2.2.2.1; unfold tmF; omega)
      have m2 := mul_rng (f := tmF (s 6)) hj (by have := hp.2.2.2.2; unfold tmF; omega) (by have := hp.2.2.2.2; unfold tmF; omega)
      by_cases hin : (0 ≤ A + (i : Int) * tmF (s 5) ∧ A + (i : Int) * tmF (s 5) ≤ 63) ∧ 0 ≤ B + (j : Int) * tmF (s 6) ∧ B + (j : Int) * tmF (s 6) ≤ 63
      · rw [if_pos hin, zI_0]
        simp (disch := omega) only [zI_lt]
        rw [if_neg (by omega), flatAt_z, zI_add, nm_cz (by omega) (by omega) (by omega), zI_cl (by omega) (by omega), nm_l_eq, vp_narZ (Or.inr rfl)]
        unfold f_X12_laysPut_J120
        rw [zI_inc]
        refine ih (i + 1) _ (by omega) (by omega) (fun Y X hY hX => ?_) (fun n m hn => ?_)
        · rw [nm_up_ap]
          by_cases hit : A + (i : Int) * tmF (s 5) = X ∧ B + (j : Int) * tmF (s 6) = Y
          · rw [if_pos ⟨rfl, by omega⟩, if_pos (bP_t.mpr (Or.inr ⟨hitI_s.mpr (Or.inr hit.1), hit.2⟩))]
          · rw [if_neg (by omega), hI Y X hY hX]
            refine if_iff ?_
            rw [bP_t, bP_t]
            show (P Y X ∨ (hitI A (tmF (s 5)) i X ∧ B + (j : Int) * tmF (s 6) = (Y : Int))) ↔ (P Y X ∨ (hitI A (tmF (s 5)) (i + 1) X ∧ B + (j : Int) * tmF (s 6) = (Y : Int)))
            rw [hitI_s]
            exact ⟨fun q => q.elim Or.inl (fun q => Or.inr ⟨Or.inl q.1, q.2⟩), fun q => q.elim Or.inl (fun q => q.1.elim (fun q1 => Or.inr ⟨q1, q.2⟩) (fun q1 => absurd ⟨q1, q.2⟩ hit))⟩
        · rw [nm_up_ap, if_neg (by omega)]
          exact hF n m hn
      · rw [if_neg hin, zI_0]
        simp (disch := omega) only [zI_lt]
        rw [if_pos (by omega)]
        unfold f_X12_laysPut_J120
        rw [zI_inc]
        refine ih (i + 1) S (by omega) (by omega) (sQ_congr hI (fun Y X hY hX => ?_)) hF
        rw [hitI_s]
        exact ⟨fun q => q.elim Or.inl (fun q => Or.inr ⟨Or.inl q.1, q.2⟩), fun q => q.elim Or.inl (fun q => q.1.elim (fun q1 => Or.inr ⟨q1, q.2⟩) (fun q1 => absurd ⟨⟨by omega, by omega⟩, by omega, by omega⟩ hin))⟩
  refine key nm_F 0 I (by omega) (by rw [nm_F_eq]; omega) (sQ_congr h0 (fun Y X hY hX => ?_)) (fun _ _ _ => rfl)
  exact ⟨Or.inl, fun q => q.elim id (fun q => absurd q.1 (fun ⟨i, hi, _⟩ => absurd hi (Nat.not_lt_zero _)))⟩
theorem w_putY {c l q : Nat} (hc : c < 8) (hl : l < 8) (hq : q < 128) {I : nm_I} {s : Nat → Int} (hs : sR1 I q s) (hp : okP s) {A B : Int} (hA : I 0 17 = zI A) (hB : I 0 18 = zI B) (a1 : -200 ≤ A ∧ A ≤ 200) (b1 : -200 ≤ B ∧ B ≤ 200) {P : Nat → Nat → Prop} (h0 : sQ (4096 * (8 * c + l)) P I) :
    wp (f_X12_laysPut_L57 (zI (c : Nat)) (zI (q : Nat)) (zI (l : Nat)) nm_F 0 I) (fun I' => sQ (4096 * (8 * c + l)) (fun Y X => P Y X ∨ (hitI A (tmF (s 5)) (tmT (s 5)) X ∧ hitI B (tmF (s 6)) (tmT (s 6)) Y)) I' ∧ o13 (4096 * (8 * c + l)) I I') := by
  have ht : (tmT (s 6) : Int) = s 6 / 200 ∧ tmT (s 6) ≤ 4 := by
    obtain ⟨-, -, -, -, p6⟩ := hp
    unfold tmT
    omega
  have hr5 : 0 ≤ s 6 ∧ s 6 < 1000 := by
    obtain ⟨-, -, -, -, p6⟩ := hp
    omega
  have key : ∀ (f j : Nat) (S : nm_I), j ≤ tmT (s 6) → tmT (s 6) - j < f → sQ (4096 * (8 * c + l)) (fun Y X => P Y X ∨ (hitI A (tmF (s 5)) (tmT (s 5)) X ∧ hitI B (tmF (s 6)) j Y)) S → o13 (4096 * (8 * c + l)) I S → wp (f_X12_laysPut_L57 (zI (c : Nat)) (zI (q : Nat)) (zI (l : Nat)) f (zI (j : Nat)) S) (fun I' => sQ (4096 * (8 * c + l)) (fun Y X => P Y X ∨ (hitI A (tmF (s 5)) (tmT (s 5)) X ∧ hitI B (tmF (s 6)) (tmT (s 6)) Y)) I' ∧ o13 (4096 * (8 * c + l)) I I') := by
    intro f
    induction f with
    | zero => intro i S h1 h2; omega
    | succ f ih =>
      intro j S hj hf hI hF
      have hsS := sR1_o hs hF
      have e6 : S 7 q = zI (s 6) := hsS 6 (by omega)
      rw [f_X12_laysPut_L57, nm_cz (by omega) (by omega) (by omega), zI_cl (by omega) (by omega), Int.toNat_natCast, e6, show (200 : Int32) = zI 200 from rfl, zI_div (by omega) (by omega) (by omega) (by omega)]
      simp (disch := omega) only [zI_le]
      refine wp_if (fun h => ?_) (fun h => ?_)
      · have : j = tmT (s 6) := by omega
        subst this
        exact wp_r ⟨hI, hF⟩
      refine wp_s1 _ (w_putX hc hl hq (by omega) hsS hp ((hF 0 17 (by omega)).trans hA) ((hF 0 18 (by omega)).trans hB) a1 b1 hI) ?_
      rintro S2 ⟨q1, q2⟩
      rw [zI_inc]
      refine ih (j + 1) S2 (by omega) (by omega) (sQ_congr q1 (fun Y X hY hX => ?_)) (o13_tr hF q2)
      rw [hitI_s]
      constructor
      · rintro ((q | q) | q)
        · exact Or.inl q
        · exact Or.inr ⟨q.1, Or.inl q.2⟩
        · exact Or.inr ⟨q.1, Or.inr q.2⟩
      · rintro (q | ⟨q, q2 | q2⟩)
        · exact Or.inl (Or.inl q)
        · exact Or.inl (Or.inr ⟨q, q2⟩)
        · exact Or.inr ⟨q, q2⟩
  refine key nm_F 0 I (by omega) (by rw [nm_F_eq]; omega) (sQ_congr h0 (fun Y X hY hX => ?_)) (fun _ _ _ => rfl)
  exact ⟨Or.inl, fun q => q.elim id (fun q => absurd q.2 (fun ⟨i, hi, _⟩ => absurd hi (Nat.not_lt_zero _)))⟩
/-- one layer of another cell -/
abbrev oP (b : Nat) (I I' : nm_I) : Prop := ∀ n j, ¬ (n = 13 ∧ b ≤ j ∧ j < b + 4096) → ¬ (n = 0 ∧ (j = 17 ∨ j = 18)) → I' n j = I n j
abbrev brK (g : Nat → Bool) (s : Nat → Int) (k Y X : Nat) : Prop := ∃ p i j, p < k ∧ g p = true ∧ i < tmT (s 5) ∧ j < tmT (s 6) ∧ brq (s 2).toNat (s 3).toNat (mirB s) (tmF (s 5)) (tmF (s 6)) i j p Y X
theorem brK_s {g : Nat → Bool} {s : Nat → Int} {k Y X : Nat} : brK g s (k + 1) Y X ↔ brK g s k Y X ∨ (g k = true ∧ hitI (pX (s 3).toNat (mirB s) ((k % 64 : Nat) : Int) ((k / 64 : Nat) : Int) + (((s 2).toNat % 64 : Nat) : Int)) (tmF (s 5)) (tmT (s 5)) X ∧ hitI (pY (s 3).toNat (mirB s) ((k % 64 : Nat) : Int) ((k / 64 : Nat) : Int) + (((s 2).toNat / 64 : Nat) : Int)) (tmF (s 6)) (tmT (s 6)) Y) := by
  constructor
  · rintro ⟨p, i, j, h1, h2, h3, h4, h5⟩
    by_cases hp : p = k
    · subst hp
      exact Or.inr ⟨h2, ⟨i, h3, h5.1⟩, ⟨j, h4, h5.2⟩⟩
    · exact Or.inl ⟨p, i, j, by omega, h2, h3, h4, h5⟩
  · rintro (⟨p, i, j, h1, h2⟩ | ⟨h2, ⟨i, h3, h5⟩, ⟨j, h4, h6⟩⟩)
    · exact ⟨p, i, j, by omega, h2⟩
    · exact ⟨k, i, j, by omega, h2, h3, h4, h5, h6⟩
set_option maxHeartbeats 1000000 in
theorem w_putP {c l q d : Nat} (hc : c < 8) (hl : l < 8) (hq : q < 128) (hd : d < c) {I : nm_I} {s : Nat → Int} (hs : sR1 I q s) (hp : okP s) {g : Nat → Bool} (hg : ∀ p, p < 4096 → I 13 (4096 * (8 * d + l) + p) = if g p = true then 1 else 0) {P : Nat → Nat → Prop} (h0 : sQ (4096 * (8 * c + l)) P I) :
    wp (f_X12_laysPut_L23 (zI (c : Nat)) (zI (q : Nat)) (zI (l : Nat)) (zI ((4096 * (8 * d + l) : Nat) : Int)) nm_F 0 I) (fun I' => sQ (4096 * (8 * c + l)) (fun Y X => P Y X ∨ brP g (s 2).toNat (s 3).toNat (mirB s) (tmT (s 5)) (tmT (s 6)) (tmF (s 5)) (tmF (s 6)) Y X) I' ∧ oP (4096 * (8 * c + l)) I I') := by
  have key : ∀ (f k : Nat) (S : nm_I), k ≤ 4096 → 4096 - k < f → sQ (4096 * (8 * c + l)) (fun Y X => P Y X ∨ brK g s k Y X) S → oP (4096 * (8 * c + l)) I S → wp (f_X12_laysPut_L23 (zI (c : Nat)) (zI (q : Nat)) (zI (l : Nat)) (zI ((4096 * (8 * d + l) : Nat) : Int)) f (zI (k : Nat)) S) (fun I' => sQ (4096 * (8 * c + l)) (fun Y X => P Y X ∨ brP g (s 2).toNat (s 3).toNat (mirB s) (tmT (s 5)) (tmT (s 6)) (tmF (s 5)) (tmF (s 6)) Y X) I' ∧ oP (4096 * (8 * c + l)) I I') := by
    intro f
    induction f with
    | zero => intro i S h1 h2; omega
    | succ f ih =>
      intro k S hk hf hI hF
      rw [f_X12_laysPut_L23, show (4096 : Int32) = zI 4096 from rfl]
      simp (disch := omega) only [zI_le]
      refine wp_if (fun h => ?_) (fun h => ?_)
      · have : k = 4096 := by omega
        subst this
        exact wp_r ⟨hI, hF⟩
      rw [zI_add, nm_cz (by omega) (by omega) (by omega), zI_cl (by omega) (by omega), show (((4096 * (8 * d + l) : Nat) : Int) + (k : Nat)).toNat = 4096 * (8 * d + l) + k by omega, hF _ _ (by omega) (by omega), hg k (by omega)]
      refine wp_if (fun h2 => ?_) (fun h2 => ?_)
      · have hgk : g k = false := by
          cases hgk : g k with
          | false => rfl
          | true =>
            rw [hgk, if_pos rfl] at h2
            exact absurd h2 (by decide)
        unfold f_X12_laysPut_J132
        rw [zI_inc]
        refine ih (k + 1) S (by omega) (by omega) (sQ_congr hI (fun Y X hY hX => ?_)) hF
        rw [brK_s, hgk]
        exact ⟨fun q => q.elim Or.inl (fun q => Or.inr (Or.inl q)), fun q => q.elim Or.inl (fun q => q.elim Or.inr (fun q => absurd q.1 (by decide)))⟩
      · have hgk : g k = true := by
          cases hgk : g k with
          | true => rfl
          | false =>
            rw [hgk] at h2
            exact absurd rfl h2
        have hsS : sR1 S q s := fun f2 hf2 => by
          rw [hF _ _ (by omega) (by omega)]
          exact hs f2 hf2
        refine wp_s1 _ (w_turns hq hsS hp (p := k) (by omega)) ?_
        rintro S1 ⟨t1, t2, t3⟩
        have hsS1 : sR1 S1 q s := fun f2 hf2 => by
          rw [t3 _ _ (by omega)]
          exact hsS f2 hf2
        have hr := pXY_rng (n := (s 3).toNat) (mir := mirB s) (x := ((k % 64 : Nat) : Int)) (y := ((k / 64 : Nat) : Int)) (by omega) (by omega)
        have hp2 := hp.1
        refine wp_s1 _ (w_putY hc hl hq hsS1 hp t1 t2 (by omega) (by omega) (P := fun Y X => P Y X ∨ brK g s k Y X) (fun Y X hY hX => by rw [t3 _ _ (by omega)]; exact hI Y X hY hX)) ?_
        rintro S2 ⟨q1, q2⟩
        unfold f_X12_laysPut_J132
        rw [zI_inc]
        refine ih (k + 1) S2 (by omega) (by omega) (sQ_congr q1 (fun Y X hY hX => ?_)) (fun n m h3 h4 => by rw [q2 n m h3, t3 n m h4]; exact hF n m h3 h4)
        rw [brK_s]
        constructor
        · rintro ((q | q) | q)
          · exact Or.inl q
          · exact Or.inr (Or.inl q)
          · exact Or.inr (Or.inr ⟨hgk, q⟩)
        · rintro (q | (q | ⟨-, q⟩))
          · exact Or.inl (Or.inl q)
          · exact Or.inl (Or.inr q)
          · exact Or.inr q
  refine key nm_F 0 I (by omega) (by rw [nm_F_eq]; omega) (sQ_congr h0 (fun Y X hY hX => ?_)) (fun _ _ _ _ => rfl)
  exact ⟨Or.inl, fun q => q.elim id (fun ⟨p, i, j, hp, _⟩ => absurd hp (Nat.not_lt_zero _))⟩
/-- all eight layers -/
theorem w_laysPut {c q d : Nat} (hc : c < 8) (hq : q < 128) (hd : d < c) {I : nm_I} {s : Nat → Int} (hs : sR1 I q s) (hp : okP s) (h1 : s 1 = (d : Int)) {F F2 : Nat → Bool} (hF : fR I c F) (hF2 : fR I d F2) :
    wp (f_X12_laysPut (zI (c : Nat)) (zI (q : Nat)) I) (fun I' => fR I' c (brF F F2 (s 2).toNat (s 3).toNat (mirB s) (tmT (s 5)) (tmT (s 6)) (tmF (s 5)) (tmF (s 6))) ∧ ∀ n j, ¬ (n = 13 ∧ 32768 * c ≤ j ∧ j < 32768 * c + 32768) → ¬ (n = 0 ∧ (j = 17 ∨ j = 18)) → I' n j = I n j) := by
  obtain ⟨G, hG⟩ : ∃ G, G = brF F F2 (s 2).toNat (s 3).toNat (mirB s) (tmT (s 5)) (tmT (s 6)) (tmF (s 5)) (tmF (s 6)) := ⟨_, rfl⟩
  rw [← hG]
  have key : ∀ (f l : Nat) (S : nm_I), l ≤ 8 → 8 - l < f → (∀ p, p < 32768 → S 13 (32768 * c + p) = if p < 4096 * l then (if G p = true then 1 else 0) else if F p = true then 1 else 0) → (∀ n j, ¬ (n = 13 ∧ 32768 * c ≤ j ∧ j < 32768 * c + 32768) → ¬ (n = 0 ∧ (j = 17 ∨ j = 18)) → S n j = I n j) → wp (f_X12_laysPut_L2 (zI (c : Nat)) (zI (q : Nat)) f (zI (l : Nat)) S) (fun I' => fR I' c G ∧ ∀ n j, ¬ (n = 13 ∧ 32768 * c ≤ j ∧ j < 32768 * c + 32768) → ¬ (n = 0 ∧ (j = 17 ∨ j = 18)) → I' n j = I n j) := by
    intro f
    induction f with
    | zero => intro i S h1 h2; omega
    | succ f ih =>
      intro l S hl hf hI hfr
      rw [f_X12_laysPut_L2, show (8 : Int32) = zI 8 from rfl]
      simp (disch := omega) only [zI_le]
      refine wp_if (fun h => ?_) (fun h => ?_)
      · have : l = 8 := by omega
        subst this
        refine wp_r ⟨fun p hp => ?_, hfr⟩
        rw [hI p hp, if_pos (by omega)]
      have hsS : sR1 S q s := fun f2 hf2 => by
        rw [hfr _ _ (by omega) (by omega)]
        exact hs f2 hf2
      have e1 : S 2 q = zI (s 1) := hsS 1 (by omega)
      rw [nm_cz (by omega) (by omega) (by omega), zI_cl (by omega) (by omega), Int.toNat_natCast, e1, h1, flatAt_z, nm_l_eq]
      refine wp_s1 _ (w_putP hc (by omega) hq hd hsS hp (g := fun p => F2 (4096 * l + p)) (P := fun Y X => F (4096 * l + (64 * Y + X)) = true) (fun p hp => ?_) (fun Y X hY hX => ?_)) ?_
      · rw [hfr _ _ (by omega) (by omega), show 4096 * (8 * d + l) + p = 32768 * d + (4096 * l + p) by omega]
        exact hF2 _ (by omega)
      · rw [show 4096 * (8 * c + l) + 64 * Y + X = 32768 * c + (4096 * l + (64 * Y + X)) by omega, hI _ (by omega), if_neg (by omega)]
        exact if_iff bP_t.symm
      · rintro S2 ⟨q1, q2⟩
        rw [zI_inc]
        refine ih (l + 1) S2 (by omega) (by omega) (fun p hp => ?_) (fun n j h3 h4 => (q2 n j (by omega) h4).trans (hfr n j h3 h4))
        by_cases hpl : p / 4096 = l
        · have e := q1 (p % 4096 / 64) (p % 64) (by omega) (by omega)
          rw [show 4096 * (8 * c + l) + 64 * (p % 4096 / 64) + p % 64 = 32768 * c + p by omega] at e
          rw [e, if_pos (show p < 4096 * (l + 1) by omega), hG]
          unfold brF
          rw [hpl]
          have e4 : 4096 * l + (64 * (p % 4096 / 64) + p % 64) = p := by omega
          refine if_iff ?_
          rw [bP_t, bP_t]
          show (F (4096 * l + (64 * (p % 4096 / 64) + p % 64)) = true ∨ _) ↔ _
          rw [e4]
        · rw [q2 _ _ (by omega) (by omega), hI p hp]
          exact if_iff (by omega)
  unfold f_X12_laysPut
  refine wp_s1 _ (key nm_F 0 I (by omega) (by rw [nm_F_eq]; omega) (fun p hp => ?_) (fun _ _ _ _ => rfl)) (fun _ h => wp_r h)
  rw [hF p hp, if_neg (show ¬ p < 4096 * 0 by omega)]
