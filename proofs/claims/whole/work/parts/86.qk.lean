/-! texts, as the reference holds them -/
def tO (I : nm_I) (c : Nat) (T : List tx) : Prop := I 17 c = zI ((T.length : Nat) : Int) ∧ T.length ≤ 200 ∧ ∀ i, i < T.length → tok (T.getD i d0) ∧ I 14 (200 * c + i) = zI (((T.getD i d0).1 : Nat) : Int) ∧ I 15 (200 * c + i) = zI (((T.getD i d0).2.1 : Nat) : Int) ∧ I 16 (200 * c + i) = zI (((T.getD i d0).2.2 : Nat) : Int)
abbrev oT (c : Nat) (I I' : nm_I) : Prop := ∀ n j, ¬ (n = 17 ∧ j = c) → ¬ ((14 ≤ n ∧ n ≤ 16) ∧ 200 * c ≤ j ∧ j < 200 * c + 200) → ¬ (n = 0 ∧ (j = 17 ∨ j = 18)) → I' n j = I n j
theorem oT_tr {c : Nat} {I I1 I2 : nm_I} (h1 : oT c I I1) (h2 : oT c I1 I2) : oT c I I2 := fun n j a b d => (h2 n j a b d).trans (h1 n j a b d)
theorem tO_fr {I I' : nm_I} {c d : Nat} {T : List tx} (hd : d ≠ c) (h : tO I d T) (hf : oT c I I') : tO I' d T := by
  obtain ⟨h1, h2, h3⟩ := h
  refine ⟨by rw [hf _ _ (by omega) (by omega) (by omega)]; exact h1, h2, fun i hi => ⟨(h3 i hi).1, ?_, ?_, ?_⟩⟩
  · rw [hf _ _ (by omega) (by omega) (by omega)]
    exact (h3 i hi).2.1
  · rw [hf _ _ (by omega) (by omega) (by omega)]
    exact (h3 i hi).2.2.1
  · rw [hf _ _ (by omega) (by omega) (by omega)]
    exact (h3 i hi).2.2.2
theorem sR1_T {c q : Nat} {s : Nat → Int} {I I' : nm_I} (h : sR1 I q s) (hf : oT c I I') : sR1 I' q s := fun f hf2 => by
  rw [hf _ _ (by omega) (by omega) (by omega)]
  exact h f hf2
theorem w_addTextO {c : Nat} (hc : c < 8) {I : nm_I} {T : List tx} (hT : tO I c T) {t : tx} (ht : tok t) :
    wp (f_X12_addText (zI (c : Nat)) (zI ((t.1 : Nat) : Int)) (zI ((t.2.1 : Nat) : Int)) (zI ((t.2.2 : Nat) : Int)) I) (fun I' => tO I' c (addT T t) ∧ oT c I I') := by
  obtain ⟨h1, h2, h3⟩ := hT
  unfold f_X12_addText
  rw [nm_cz (by omega) (by omega) (by omega), zI_cl (by omega) (by omega), Int.toNat_natCast, h1, show (200 : Int32) = zI 200 from rfl]
  simp (disch := omega) only [zI_eq]
  refine wp_if (fun h => ?_) (fun h => ?_)
  · refine wp_r ⟨?_, fun _ _ _ _ _ => rfl⟩
    unfold addT
    rw [if_neg (by omega)]
    exact ⟨h1, h2, h3⟩
  · rw [nm_cz (by omega) (by omega) (by omega), zI_mul, zI_add, nm_l_eq, nm_cz (by omega) (by omega) (by omega), zI_cl (by omega) (by omega), show (200 * ((c : Nat) : Int) + ((T.length : Nat) : Int)).toNat = 200 * c + T.length by omega, nm_l_eq, nm_cz (by omega) (by omega) (by omega), nm_l_eq, nm_cz (by omega) (by omega) (by omega), nm_l_eq, nm_cz (by omega) (by omega) (by omega), nm_cz (by omega) (by omega) (by omega), nm_l_eq]
    have e17 : nm_up (nm_up (nm_up I 14 (200 * c + T.length) (zI ((t.1 : Nat) : Int))) 15 (200 * c + T.length) (zI ((t.2.1 : Nat) : Int))) 16 (200 * c + T.length) (zI ((t.2.2 : Nat) : Int)) 17 c = zI ((T.length : Nat) : Int) := by
      rw [nm_up_ap, if_neg (by omega), nm_up_ap, if_neg (by omega), nm_up_ap, if_neg (by omega)]
      exact h1
    rw [e17, zI_inc]
    have hadd : addT T t = T ++ [t] := by
      unfold addT
      rw [if_pos (by omega)]
    rw [hadd]
    refine wp_r ⟨⟨?_, ?_, fun i hi => ?_⟩, fun n j a b d => ?_⟩
    · rw [nm_up_ap, if_pos ⟨rfl, rfl⟩, List.length_append]
      rfl
    · rw [List.length_append]
      show T.length + 1 ≤ 200
      omega
    · rw [List.length_append] at hi
      have hi2 : i < T.length + 1 := hi
      rw [getD_app]
      by_cases hiT : i = T.length
      · subst hiT
        rw [if_neg (by omega), if_pos rfl]
        refine ⟨ht, ?_, ?_, ?_⟩
        · rw [nm_up_ap, if_neg (by omega), nm_up_ap, if_neg (by omega), nm_up_ap, if_neg (by omega), nm_up_ap, if_pos ⟨rfl, rfl⟩]
        · rw [nm_up_ap, if_neg (by omega), nm_up_ap, if_neg (by omega), nm_up_ap, if_pos ⟨rfl, rfl⟩]
        · rw [nm_up_ap, if_neg (by omega), nm_up_ap, if_pos ⟨rfl, rfl⟩]
      · rw [if_pos (by omega)]
        obtain ⟨k1, k2, k3, k4⟩ := h3 i (by omega)
        refine ⟨k1, ?_, ?_, ?_⟩
        · rw [nm_up_ap, if_neg (by omega), nm_up_ap, if_neg (by omega), nm_up_ap, if_neg (by omega), nm_up_ap, if_neg (by omega)]
          exact k2
        · rw [nm_up_ap, if_neg (by omega), nm_up_ap, if_neg (by omega), nm_up_ap, if_neg (by omega), nm_up_ap, if_neg (by omega)]
          exact k3
        · rw [nm_up_ap, if_neg (by omega), nm_up_ap, if_neg (by omega), nm_up_ap, if_neg (by omega), nm_up_ap, if_neg (by omega)]
          exact k4
    · rw [nm_up_ap, if_neg (by omega), nm_up_ap, if_neg (by omega), nm_up_ap, if_neg (by omega), nm_up_ap, if_neg (by omega)]
abbrev btS (s : Nat → Int) (T2 : List tx) (i j t : Nat) (T : List tx) : List tx := bt1 (s 2).toNat (s 3).toNat (mirB s) (tmF (s 5)) (tmF (s 6)) i j (T2.getD t d0) T
set_option maxHeartbeats 1000000 in
theorem w_textsX {c d q i j : Nat} (hc : c < 8) (hd : d < 8) (hdc : d ≠ c) (hq : q < 128) (hi : i ≤ 3) (hj : j ≤ 3) {I : nm_I} {s : Nat → Int} (hs : sR1 I q s) (hp : okP s) {T T2 : List tx} (hT : tO I c T) (hT2 : tO I d T2) :
    wp (f_X12_textsOf_L50 (zI (c : Nat)) (zI (q : Nat)) (zI (d : Nat)) (zI (j : Nat)) (zI (i : Nat)) nm_F (zI ((200 * d : Nat) : Int)) I) (fun I' => tO I' c (fo (fun t T => btS s T2 i j t T) T2.length T) ∧ oT c I I') := by
  have h200 := hT2.2.1
  have key : ∀ (f m : Nat) (S : nm_I), m ≤ T2.length → T2.length - m < f → tO S c (fo (fun t T => btS s T2 i j t T) m T) → oT c I S → wp (f_X12_textsOf_L50 (zI (c : Nat)) (zI (q : Nat)) (zI (d : Nat)) (zI (j : Nat)) (zI (i : Nat)) f (zI ((200 * d + m : Nat) : Int)) S) (fun I' => tO I' c (fo (fun t T => btS s T2 i j t T) T2.length T) ∧ oT c I I') := by
    intro f
    induction f with
    | zero => intro m S h1 h2; omega
    | succ f ih =>
      intro m S hm hf hI hF
      have hsS := sR1_T hs hF
      have hTS := tO_fr hdc hT2 hF
      rw [f_X12_textsOf_L50, nm_cz (by omega) (by omega) (by omega), zI_cl (by omega) (by omega), Int.toNat_natCast, hTS.1, show (200 : Int32) = zI 200 from rfl, zI_mul, zI_add]
      simp (disch := omega) only [zI_le]
      refine wp_if (fun h => ?_) (fun h => ?_)
      · have : m = T2.length := by omega
        subst this
        exact wp_r ⟨hI, hF⟩
      obtain ⟨k1, k2, k3, k4⟩ := hTS.2.2 m (by omega)
      obtain ⟨t, ht⟩ : ∃ t, t = T2.getD m d0 := ⟨_, rfl⟩
      rw [← ht] at k1 k2 k3 k4
      obtain ⟨y1, y2, y3⟩ := k1
      rw [nm_cz (by omega) (by omega) (by omega), zI_cl (by omega) (by omega), Int.toNat_natCast, k3]
      refine wp_s1 _ (w_turns hq hsS hp y2) ?_
      rintro S1 ⟨t1, t2, t3⟩
      have hF1 : oT c S S1 := fun n j _ _ h => t3 n j h
      have hsS1 := sR1_T hsS hF1
      have hr := pXY_rng (n := (s 3).toNat) (mir := mirB s) (x := ((t.2.1 % 64 : Nat) : Int)) (y := ((t.2.1 / 64 : Nat) : Int)) (by omega) (by omega)
      have hp2 := hp.1
      refine wp_s1 _ ⟨_, w_placed hq hsS1 hp t1 t2 (by omega) (by omega) hi hj, rfl⟩ ?_
      rintro _ rfl
      have m1 := mul_rng (f := tmF (s 5)) hi (by have := hp.2.2.2.1; unfold tmF; omega) (by have := hp.2.2.2.1; unfold tmF; omega)
      have m2 := mul_rng (f := tmF (s 6)) hj (by have := hp.2.2.2.2; unfold tmF; omega) (by have := hp.2.2.2.2; unfold tmF; omega)
      have hI1 : tO S1 c (fo (fun t T => btS s T2 i j t T) m T) := by
        obtain ⟨z1, z2, z3⟩ := hI
        refine ⟨by rw [t3 _ _ (by omega)]; exact z1, z2, fun i hi => ⟨(z3 i hi).1, ?_, ?_, ?_⟩⟩
        · rw [t3 _ _ (by omega)]
          exact (z3 i hi).2.1
        · rw [t3 _ _ (by omega)]
          exact (z3 i hi).2.2.1
        · rw [t3 _ _ (by omega)]
          exact (z3 i hi).2.2.2
      have hnx : zI ((200 * d + m : Nat) : Int) + 1 = zI ((200 * d + (m + 1) : Nat) : Int) := by rw [zI_inc]; rfl
      have hfo : fo (fun t T => btS s T2 i j t T) (m + 1) T = bt1 (s 2).toNat (s 3).toNat (mirB s) (tmF (s 5)) (tmF (s 6)) i j t (fo (fun t T => btS s T2 i j t T) m T) := by
        rw [ht]
        rfl
      unfold bt1 at hfo
      obtain ⟨x, hx⟩ : ∃ x, x = pX (s 3).toNat (mirB s) ((t.2.1 % 64 : Nat) : Int) ((t.2.1 / 64 : Nat) : Int) + (((s 2).toNat % 64 : Nat) : Int) + (i : Int) * tmF (s 5) := ⟨_, rfl⟩
      obtain ⟨y, hy⟩ : ∃ y, y = pY (s 3).toNat (mirB s) ((t.2.1 % 64 : Nat) : Int) ((t.2.1 / 64 : Nat) : Int) + (((s 2).toNat / 64 : Nat) : Int) + (j : Int) * tmF (s 6) := ⟨_, rfl⟩
      rw [← Int.add_assoc, ← Int.add_assoc, ← hx, ← hy] at hfo
      rw [← hx, ← hy]
      by_cases hin : (0 ≤ x ∧ x ≤ 63) ∧ 0 ≤ y ∧ y ≤ 63
      · rw [if_pos (by omega)] at hfo
        rw [if_pos hin, zI_0]
        simp (disch := omega) only [zI_lt]
        have k2' : S1 14 (200 * d + m) = zI ((t.1 : Nat) : Int) := (t3 _ _ (by omega)).trans k2
        have k4' : S1 16 (200 * d + m) = zI ((t.2.2 : Nat) : Int) := (t3 _ _ (by omega)).trans k4
        rw [if_neg (by omega), nm_cz (by omega) (by omega) (by omega), nm_cz (by omega) (by omega) (by omega), k2', k4', show 64 * y + x = ((64 * y.toNat + x.toNat : Nat) : Int) by omega]
        refine wp_s1 _ (w_addTextO hc hI1 (t := (t.1, 64 * y.toNat + x.toNat, t.2.2)) ⟨y1, (by show 64 * y.toNat + x.toNat < 4096; omega), y3⟩) ?_
        rintro S2 ⟨u1, u2⟩
        unfold f_X12_textsOf_J116
        rw [hnx]
        refine ih (m + 1) S2 (by omega) (by omega) ?_ (oT_tr hF (oT_tr hF1 u2))
        rw [hfo]
        exact u1
      · rw [if_neg (by omega)] at hfo
        rw [if_neg hin, zI_0]
        simp (disch := omega) only [zI_lt]
        rw [if_pos (by omega)]
        unfold f_X12_textsOf_J116
        rw [hnx]
        refine ih (m + 1) S1 (by omega) (by omega) ?_ (oT_tr hF hF1)
        rw [hfo]
        exact hI1
  exact key nm_F 0 I (by omega) (by rw [nm_F_eq]; omega) hT (fun _ _ _ _ _ => rfl)
theorem w_textsOf {c q d : Nat} (hc : c < 8) (hq : q < 128) (hd : d < c) {I : nm_I} {s : Nat → Int} (hs : sR1 I q s) (hp : okP s) (h1 : s 1 = (d : Int)) {T T2 : List tx} (hT : tO I c T) (hT2 : tO I d T2) :
    wp (f_X12_textsOf (zI (c : Nat)) (zI (q : Nat)) I) (fun I' => tO I' c (btA T2 (s 2).toNat (s 3).toNat (mirB s) (tmT (s 5)) (tmT (s 6)) (tmF (s 5)) (tmF (s 6)) T) ∧ oT c I I') := by
  have ht : ((tmT (s 5) : Int) = s 5 / 200 ∧ tmT (s 5) ≤ 4) ∧ (tmT (s 6) : Int) = s 6 / 200 ∧ tmT (s 6) ≤ 4 := by
    obtain ⟨-, -, -, p5, p6⟩ := hp
    unfold tmT
    omega
  have hr5 : (0 ≤ s 5 ∧ s 5 < 1000) ∧ 0 ≤ s 6 ∧ s 6 < 1000 := by
    obtain ⟨-, -, -, p5, p6⟩ := hp
    omega
  have key1 : ∀ (f i j : Nat) (T0 : List tx) (S0 S : nm_I), j ≤ 3 → i ≤ tmT (s 5) → tmT (s 5) - i < f → tO S c (fo (fun i T => fo (fun t T => btS s T2 i j t T) T2.length T) i T0) → oT c I S → wp (f_X12_textsOf_L28 (zI (c : Nat)) (zI (q : Nat)) (zI (d : Nat)) (zI (j : Nat)) f (zI (i : Nat)) S) (fun I' => tO I' c (fo (fun i T => fo (fun t T => btS s T2 i j t T) T2.length T) (tmT (s 5)) T0) ∧ oT c I I') := by
    intro f
    induction f with
    | zero => intro i j T0 S0 S h0 h1 h2; omega
    | succ f ih =>
      intro i j T0 S0 S hj hi hf hI hF
      have hsS := sR1_T hs hF
      have e5 : S 6 q = zI (s 5) := hsS 5 (by omega)
      rw [f_X12_textsOf_L28, nm_cz (by omega) (by omega) (by omega), zI_cl (by omega) (by omega), Int.toNat_natCast, e5, show (200 : Int32) = zI 200 from rfl, zI_div (by omega) (by omega) (by omega) (by omega)]
      simp (disch := omega) only [zI_le]
      refine wp_if (fun h => ?_) (fun h => ?_)
      · have : i = tmT (s 5) := by omega
        subst this
        exact wp_r ⟨hI, hF⟩
      rw [zI_mul, nm_l_eq, show (200 * ((d : Nat) : Int)) = ((200 * d : Nat) : Int) by omega]
      refine wp_s1 _ (w_textsX (i := i) (j := j) hc (by omega) (by omega) hq (by omega) hj hsS hp hI (tO_fr (by omega) hT2 hF)) ?_
      rintro S2 ⟨u1, u2⟩
      rw [zI_inc]
      exact ih (i + 1) j T0 S0 S2 hj (by omega) (by omega) u1 (oT_tr hF u2)
  have key2 : ∀ (f j : Nat) (S : nm_I), j ≤ tmT (s 6) → tmT (s 6) - j < f → tO S c (fo (fun j T => fo (fun i T => fo (fun t T => btS s T2 i j t T) T2.length T) (tmT (s 5)) T) j T) → oT c I S → wp (f_X12_textsOf_L10 (zI (c : Nat)) (zI (q : Nat)) (zI (d : Nat)) f (zI (j : Nat)) S) (fun I' => tO I' c (btA T2 (s 2).toNat (s 3).toNat (mirB s) (tmT (s 5)) (tmT (s 6)) (tmF (s 5)) (tmF (s 6)) T) ∧ oT c I I') := by
    intro f
    induction f with
    | zero => intro j S h1 h2; omega
    | succ f ih =>
      intro j S hj hf hI hF
      have hsS := sR1_T hs hF
      have e6 : S 7 q = zI (s 6) := hsS 6 (by omega)
      rw [f_X12_textsOf_L10, nm_cz (by omega) (by omega) (by omega), zI_cl (by omega) (by omega), Int.toNat_natCast, e6, show (200 : Int32) = zI 200 from rfl, zI_div (by omega) (by omega) (by omega) (by omega)]
      simp (disch := omega) only [zI_le]
      refine wp_if (fun h => ?_) (fun h => ?_)
      · have : j = tmT (s 6) := by omega
        subst this
        exact wp_r ⟨hI, hF⟩
      rw [zI_0]
      refine wp_s1 _ (key1 nm_F 0 j _ S S (by omega) (by omega) (by rw [nm_F_eq]; omega) hI hF) ?_
      rintro S2 ⟨u1, u2⟩
      rw [zI_inc]
      exact ih (j + 1) S2 (by omega) (by omega) u1 u2
  have e1 : I 2 q = zI (s 1) := hs 1 (by omega)
  unfold f_X12_textsOf
  rw [nm_cz (by omega) (by omega) (by omega), zI_cl (by omega) (by omega), Int.toNat_natCast, e1, h1, nm_l_eq, zI_0]
  exact wp_s1 _ (key2 nm_F 0 I (by omega) (by rw [nm_F_eq]; omega) hT (fun _ _ _ _ _ => rfl)) (fun _ h => wp_r h)
