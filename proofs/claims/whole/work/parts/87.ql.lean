/-! a whole cell, laid by the reference -/
abbrev yO (c : Nat) (I I' : nm_I) : Prop := ∀ n j, ¬ (n = 13 ∧ 32768 * c ≤ j ∧ j < 32768 * c + 32768) → ¬ (n = 17 ∧ j = c) → ¬ ((14 ≤ n ∧ n ≤ 16) ∧ 200 * c ≤ j ∧ j < 200 * c + 200) → ¬ (n = 0 ∧ (j = 17 ∨ j = 18)) → I' n j = I n j
theorem yO_tr {c : Nat} {I I1 I2 : nm_I} (h1 : yO c I I1) (h2 : yO c I1 I2) : yO c I I2 := fun n j a b d e => (h2 n j a b d e).trans (h1 n j a b d e)
theorem yO_T {c : Nat} {I I' : nm_I} (h : oT c I I') : yO c I I' := fun n j _ b d e => h n j b d e
theorem tO_y {I I' : nm_I} {c d : Nat} {T : List tx} (hd : d ≠ c) (h : tO I d T) (hf : yO c I I') : tO I' d T := by
  obtain ⟨h1, h2, h3⟩ := h
  refine ⟨by rw [hf _ _ (by omega) (by omega) (by omega) (by omega)]; exact h1, h2, fun i hi => ⟨(h3 i hi).1, ?_, ?_, ?_⟩⟩
  · rw [hf _ _ (by omega) (by omega) (by omega) (by omega)]
    exact (h3 i hi).2.1
  · rw [hf _ _ (by omega) (by omega) (by omega) (by omega)]
    exact (h3 i hi).2.2.1
  · rw [hf _ _ (by omega) (by omega) (by omega) (by omega)]
    exact (h3 i hi).2.2.2
theorem fR_y {I I' : nm_I} {c d : Nat} {F : Nat → Bool} (hd : d ≠ c) (h : fR I d F) (hf : yO c I I') : fR I' d F := fun p hp => by
  rw [hf _ _ (by omega) (by omega) (by omega) (by omega)]
  exact h p hp
theorem shR_y {I I' : nm_I} {c d : Nat} {s : Nat → Nat → Int} {n : Nat} (h : shR I d s n) (hf : yO c I I') : shR I' d s n := shR_fr h (fun m j h1 h2 => hf m j (by omega) (by omega) (by omega) (by omega))
theorem okP_of {c : Nat} {s : Nat → Int} (h : okS c s) (h4 : s 0 = 4) : okP s := by
  obtain ⟨a0, a1, a2, a3, a4, a5, a6⟩ := h
  obtain ⟨b1, b2, b3, b4, b5⟩ := a6 h4
  exact ⟨a2, b2, b3, b4, b5⟩
theorem w_laysT {c : Nat} (hc : c < 8) {s : Nat → Nat → Int} {n : Nat} {I : nm_I} (hs : shR I c s n) (h0 : tO I c []) :
    wp (f_X12_lays_L19 (zI (c : Nat)) (zI ((16 * c : Nat) : Int)) nm_F (zI ((16 * c : Nat) : Int)) I) (fun I' => tO I' c (ownT s n) ∧ oT c I I') := by
  have hn16 := hs.1
  have key : ∀ (f k : Nat) (S : nm_I), k ≤ n → n - k < f → tO S c (fo (fun k T => if s k 0 = 3 then addT T (txt (s k)) else T) k []) → oT c I S → wp (f_X12_lays_L19 (zI (c : Nat)) (zI ((16 * c : Nat) : Int)) f (zI ((16 * c + k : Nat) : Int)) S) (fun I' => tO I' c (ownT s n) ∧ oT c I I') := by
    intro f
    induction f with
    | zero => intro k S h1 h2; omega
    | succ f ih =>
      intro k S hk hf hI hF
      have hsS : shR S c s n := shR_y hs (yO_T hF)
      rw [f_X12_lays_L19, nm_cz (by omega) (by omega) (by omega), zI_cl (by omega) (by omega), Int.toNat_natCast, hsS.2.1, zI_add]
      simp (disch := omega) only [zI_le]
      refine wp_if (fun h => ?_) (fun h => ?_)
      · have : k = n := by omega
        subst this
        exact wp_r ⟨hI, hF⟩
      obtain ⟨o1, o2⟩ := hsS.2.2 k (by omega)
      obtain ⟨g1, g2, g3, g4, g5, g6, g7⟩ := o1
      have e0 : S 1 (16 * c + k) = zI (s k 0) := o2 0 (by omega)
      have e1 : S 2 (16 * c + k) = zI (s k 1) := o2 1 (by omega)
      have e2 : S 3 (16 * c + k) = zI (s k 2) := o2 2 (by omega)
      have e3 : S 4 (16 * c + k) = zI (s k 3) := o2 3 (by omega)
      have hnx : zI ((16 * c + k : Nat) : Int) + 1 = zI ((16 * c + (k + 1) : Nat) : Int) := by rw [zI_inc]; rfl
      rw [nm_cz (by omega) (by omega) (by omega), zI_cl (by omega) (by omega), Int.toNat_natCast, e0, e1, e2, e3, show (3 : Int32) = zI 3 from rfl]
      simp (disch := omega) only [zI_eq, nm_cz]
      refine wp_if (fun h3 => ?_) (fun h3 => ?_)
      · have g9 := g6 h3
        have ht : tok (txt (s k)) := by
          unfold tok txt
          simp only
          omega
        have hw := w_addTextO hc hI ht
        rw [show (((txt (s k)).1 : Nat) : Int) = s k 1 by show (((s k 1).toNat : Nat) : Int) = _; omega, show (((txt (s k)).2.1 : Nat) : Int) = s k 2 by show (((s k 2).toNat : Nat) : Int) = _; omega, show (((txt (s k)).2.2 : Nat) : Int) = s k 3 by show (((s k 3).toNat : Nat) : Int) = _; omega] at hw
        refine wp_s1 _ hw ?_
        rintro S2 ⟨u1, u2⟩
        unfold f_X12_lays_J64
        rw [hnx]
        refine ih (k + 1) S2 (by omega) (by omega) ?_ (oT_tr hF u2)
        show tO S2 c (if s k 0 = 3 then addT _ (txt (s k)) else _)
        rw [if_pos h3]
        exact u1
      · unfold f_X12_lays_J64
        rw [hnx]
        refine ih (k + 1) S (by omega) (by omega) ?_ hF
        show tO S c (if s k 0 = 3 then addT _ (txt (s k)) else _)
        rw [if_neg h3]
        exact hI
  exact key nm_F 0 I (by omega) (by rw [nm_F_eq]; omega) h0 (fun _ _ _ _ _ => rfl)
set_option maxHeartbeats 1000000 in
theorem w_laysP {c : Nat} (hc : c < 8) {s : Nat → Nat → Int} {n : Nat} {I : nm_I} (hs : shR I c s n) {tb : Nat → fl} (htb : ∀ d, d < c → fR I d (tb d).1 ∧ tO I d (tb d).2) {st0 : fl} (h0 : fR I c st0.1 ∧ tO I c st0.2) :
    wp (f_X12_lays_L72 (zI (c : Nat)) (zI ((16 * c : Nat) : Int)) nm_F (zI ((16 * c : Nat) : Int)) I) (fun I' => (fR I' c (fo (fun k st => if s k 0 = 4 then putS (tb (s k 1).toNat) (s k) st else st) n st0).1 ∧ tO I' c (fo (fun k st => if s k 0 = 4 then putS (tb (s k 1).toNat) (s k) st else st) n st0).2) ∧ yO c I I') := by
  have hn16 := hs.1
  have key : ∀ (f k : Nat) (S : nm_I), k ≤ n → n - k < f → (fR S c (fo (fun k st => if s k 0 = 4 then putS (tb (s k 1).toNat) (s k) st else st) k st0).1 ∧ tO S c (fo (fun k st => if s k 0 = 4 then putS (tb (s k 1).toNat) (s k) st else st) k st0).2) → yO c I S → wp (f_X12_lays_L72 (zI (c : Nat)) (zI ((16 * c : Nat) : Int)) f (zI ((16 * c + k : Nat) : Int)) S) (fun I' => (fR I' c (fo (fun k st => if s k 0 = 4 then putS (tb (s k 1).toNat) (s k) st else st) n st0).1 ∧ tO I' c (fo (fun k st => if s k 0 = 4 then putS (tb (s k 1).toNat) (s k) st else st) n st0).2) ∧ yO c I I') := by
    intro f
    induction f with
    | zero => intro k S h1 h2; omega
    | succ f ih =>
      intro k S hk hf hI hF
      have hsS : shR S c s n := shR_y hs hF
      rw [f_X12_lays_L72, nm_cz (by omega) (by omega) (by omega), zI_cl (by omega) (by omega), Int.toNat_natCast, hsS.2.1, zI_add]
      simp (disch := omega) only [zI_le]
      refine wp_if (fun h => ?_) (fun h => ?_)
      · have : k = n := by omega
        subst this
        exact wp_r ⟨hI, hF⟩
      obtain ⟨o1, o2⟩ := hsS.2.2 k (by omega)
      have e0 : S 1 (16 * c + k) = zI (s k 0) := o2 0 (by omega)
      have g1 := o1.1
      have hnx : zI ((16 * c + k : Nat) : Int) + 1 = zI ((16 * c + (k + 1) : Nat) : Int) := by rw [zI_inc]; rfl
      rw [nm_cz (by omega) (by omega) (by omega), zI_cl (by omega) (by omega), Int.toNat_natCast, e0, show (4 : Int32) = zI 4 from rfl]
      simp (disch := omega) only [zI_eq, nm_cz]
      refine wp_if (fun h4 => ?_) (fun h4 => ?_)
      · obtain ⟨r1, r2, -⟩ := put_rng o1 h4
        have hp := okP_of o1 h4
        obtain ⟨b1, b2⟩ := htb _ r1
        refine wp_s1 _ (w_laysPut hc (by omega) r1 o2 hp r2 hI.1 (fR_y (by omega) b1 hF)) ?_
        rintro S1 ⟨u1, u2⟩
        have hy1 : yO c S S1 := fun n j a _ _ e => u2 n j a e
        have hs1 : sR1 S1 (16 * c + k) (s k) := fun f hf2 => by
          rw [hy1 _ _ (by omega) (by omega) (by omega) (by omega)]
          exact o2 f hf2
        have hT1 : tO S1 c (fo (fun k st => if s k 0 = 4 then putS (tb (s k 1).toNat) (s k) st else st) k st0).2 := by
          obtain ⟨z1, z2, z3⟩ := hI.2
          refine ⟨by rw [u2 _ _ (by omega) (by omega)]; exact z1, z2, fun i hi => ⟨(z3 i hi).1, ?_, ?_, ?_⟩⟩
          · rw [u2 _ _ (by omega) (by omega)]
            exact (z3 i hi).2.1
          · rw [u2 _ _ (by omega) (by omega)]
            exact (z3 i hi).2.2.1
          · rw [u2 _ _ (by omega) (by omega)]
            exact (z3 i hi).2.2.2
        refine wp_s1 _ (w_textsOf hc (by omega) r1 hs1 hp r2 hT1 (tO_y (by omega) b2 (yO_tr hF hy1))) ?_
        rintro S2 ⟨v1, v2⟩
        unfold f_X12_lays_J109
        rw [hnx]
        refine ih (k + 1) S2 (by omega) (by omega) ?_ (yO_tr hF (yO_tr hy1 (yO_T v2)))
        have hfo : fo (fun k st => if s k 0 = 4 then putS (tb (s k 1).toNat) (s k) st else st) (k + 1) st0 = putS (tb (s k 1).toNat) (s k) (fo (fun k st => if s k 0 = 4 then putS (tb (s k 1).toNat) (s k) st else st) k st0) := by
          show (if s k 0 = 4 then _ else _) = _
          rw [if_pos h4]
        rw [hfo]
        refine ⟨fun p hp => ?_, v1⟩
        rw [v2 _ _ (by omega) (by omega) (by omega)]
        exact u1 p hp
      · unfold f_X12_lays_J109
        rw [hnx]
        refine ih (k + 1) S (by omega) (by omega) ?_ hF
        have hfo : fo (fun k st => if s k 0 = 4 then putS (tb (s k 1).toNat) (s k) st else st) (k + 1) st0 = fo (fun k st => if s k 0 = 4 then putS (tb (s k 1).toNat) (s k) st else st) k st0 := by
          show (if s k 0 = 4 then _ else _) = _
          rw [if_neg h4]
        rw [hfo]
        exact hI
  exact key nm_F 0 I (by omega) (by rw [nm_F_eq]; omega) h0 (fun _ _ _ _ _ _ => rfl)
theorem w_lays {c : Nat} (hc : c < 8) {s : Nat → Nat → Int} {n : Nat} {I : nm_I} (hs : shR I c s n) {tb : Nat → fl} (htb : ∀ d, d < c → fR I d (tb d).1 ∧ tO I d (tb d).2) :
    wp (f_X12_lays (zI (c : Nat)) I) (fun I' => (fR I' c (flT tb s n).1 ∧ tO I' c (flT tb s n).2) ∧ yO c I I') := by
  unfold f_X12_lays
  refine wp_s1 _ (w_laysOwn hc hs) ?_
  rintro S1 ⟨u1, u2⟩
  have hy1 : yO c I S1 := fun n j a _ _ _ => u2 n j a
  rw [nm_cz (by omega) (by omega) (by omega), zI_cl (by omega) (by omega), Int.toNat_natCast, nm_l_eq, nm_l_eq, show (16 : Int32) * zI (c : Nat) = zI ((16 * c : Nat) : Int) by rw [show (16 : Int32) = zI 16 from rfl, zI_mul]; rfl]
  have hy2 : yO c S1 (nm_up S1 17 c 0) := fun n j _ b _ _ => by rw [nm_up_ap, if_neg b]
  refine wp_s1 _ (w_laysT hc (shR_y hs (yO_tr hy1 hy2)) ⟨by rw [nm_up_ap, if_pos ⟨rfl, rfl⟩]; rfl, Nat.zero_le _, fun i hi => absurd hi (Nat.not_lt_zero _)⟩) ?_
  rintro S2 ⟨v1, v2⟩
  have hy3 := yO_tr hy1 (yO_tr hy2 (yO_T v2))
  refine wp_s1 _ (w_laysP hc (shR_y hs hy3) (tb := tb) (fun d hd => ⟨fR_y (by omega) (htb d hd).1 hy3, tO_y (by omega) (htb d hd).2 hy3⟩) (st0 := (ownB s n, ownT s n)) ⟨fun p hp => ?_, v1⟩) ?_
  · rw [v2 _ _ (by omega) (by omega) (by omega), nm_up_ap, if_neg (by omega)]
    exact u1 p hp
  · rintro S3 ⟨q1, q2⟩
    exact wp_r ⟨q1, yO_tr hy3 q2⟩
