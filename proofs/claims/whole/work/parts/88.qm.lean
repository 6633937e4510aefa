/-! FLAT, by the reference -/
theorem isCell_z {c : Nat} (hc : c < 8) : f_X12_isCell (zI (c : Nat)) = 1 := by
  unfold f_X12_isCell
  rw [zI_0, show (8 : Int32) = zI 8 from rfl]
  simp (disch := omega) only [zI_lt, zI_le]
  rw [if_neg (by omega), if_neg (by omega)]
def mO (I : nm_I) (m : mo) : Prop := ∀ i, i < 8 → I 9 (8 + i) = zI (m i).1 ∧ I 10 (8 + i) = zI (((m i).2.1 : Nat) : Int) ∧ I 11 (8 + i) = zI (((m i).2.2 : Nat) : Int)
def dO (I : nm_I) (T : List tx) : Prop := I 0 26 = zI ((T.length : Nat) : Int) ∧ T.length ≤ 200 ∧ ∀ i, i < T.length → tok (T.getD i d0) ∧ I 24 i = zI (((T.getD i d0).1 : Nat) : Int) ∧ I 25 i = zI (((T.getD i d0).2.1 : Nat) : Int) ∧ I 26 i = zI (((T.getD i d0).2.2 : Nat) : Int)
def clO (I : nm_I) (sd : Nat → Nat → Nat → Int) (cnt : Nat → Nat) : Prop := ∀ c, c < 8 → shR I c (sd c) (cnt c)
abbrev yA (I I' : nm_I) : Prop := ∀ n j, ¬ (13 ≤ n ∧ n ≤ 17) → ¬ (n = 0 ∧ (j = 17 ∨ j = 18)) → I' n j = I n j
theorem w_flatO1 {c : Nat} (hc : c < 8) {sd : Nat → Nat → Nat → Int} {cnt : Nat → Nat} {I : nm_I} (hs : clO I sd cnt) :
    wp (f_X12_flat_L16 (zI (c : Nat)) nm_F 0 I) (fun I' => fR I' c (FL sd cnt c).1 ∧ tO I' c (FL sd cnt c).2 ∧ yA I I') := by
  have key : ∀ (f x : Nat) (S : nm_I), x ≤ c + 1 → c + 1 - x < f → (∀ d, d < x → fR S d (FL sd cnt d).1 ∧ tO S d (FL sd cnt d).2) → yA I S → wp (f_X12_flat_L16 (zI (c : Nat)) f (zI (x : Nat)) S) (fun I' => fR I' c (FL sd cnt c).1 ∧ tO I' c (FL sd cnt c).2 ∧ yA I I') := by
    intro f
    induction f with
    | zero => intro x S h1 h2; omega
    | succ f ih =>
      intro x S hx hf hI hF
      rw [f_X12_flat_L16]
      simp (disch := omega) only [zI_lt]
      refine wp_if (fun h => ?_) (fun h => ?_)
      · obtain ⟨z1, z2⟩ := hI c (by omega)
        exact wp_r ⟨z1, z2, hF⟩
      have hsS : shR S x (sd x) (cnt x) := shR_fr (hs x (by omega)) (fun m j h1 h2 => hF m j (by omega) (by omega))
      refine wp_s1 _ (w_lays (by omega) hsS (tb := tab sd cnt x) (fun d hd => by rw [tab_lt x d hd]; exact hI d hd)) ?_
      rintro S2 ⟨⟨u1, u2⟩, u3⟩
      rw [← FL_eq] at u1 u2
      rw [zI_inc]
      refine ih (x + 1) S2 (by omega) (by omega) (fun d hd => ?_) (fun n j a b => (u3 n j (by omega) (by omega) (by omega) b).trans (hF n j a b))
      by_cases hdx : d = x
      · subst hdx
        exact ⟨u1, u2⟩
      · exact ⟨fR_y hdx (hI d (by omega)).1 u3, tO_y hdx (hI d (by omega)).2 u3⟩
  rw [zI_0]
  exact key nm_F 0 I (by omega) (by rw [nm_F_eq]; omega) (fun d hd => absurd hd (Nat.not_lt_zero _)) (fun _ _ _ _ => rfl)
theorem hv01 (b : Bool) : (if b = true then (1 : Int32) else 0) = 0 ∨ (if b = true then (1 : Int32) else 0) = 1 := by
  cases b
  · exact Or.inl rfl
  · exact Or.inr rfl
theorem w_flatO2 {c : Nat} (hc : c < 8) {F D : Nat → Bool} {I : nm_I} (hF : fR I c F) (hO : oR I D) :
    wp (f_X12_flat_L36 (zI (c : Nat)) nm_F 0 0 I) (fun r => r.1 = zI ((pc F 32768 : Nat) : Int) ∧ oR r.2 (bas F D) ∧ ∀ n j, n ≠ 20 → r.2 n j = I n j) := by
  have key : ∀ (f k : Nat) (S : nm_I), k ≤ 32768 → 32768 - k < f → (∀ p, p < 65536 → S 20 p = if (if p < k then F p else D p) = true then 1 else 0) → (∀ n j, n ≠ 20 → S n j = I n j) → wp (f_X12_flat_L36 (zI (c : Nat)) f (zI ((pc F k : Nat) : Int)) (zI (k : Nat)) S) (fun r => r.1 = zI ((pc F 32768 : Nat) : Int) ∧ oR r.2 (bas F D) ∧ ∀ n j, n ≠ 20 → r.2 n j = I n j) := by
    intro f
    induction f with
    | zero => intro k S h1 h2; omega
    | succ f ih =>
      intro k S hk hf hI hfr
      have hpc := pc_le F k
      rw [f_X12_flat_L36, show (32768 : Int32) = zI 32768 from rfl]
      simp (disch := omega) only [zI_le]
      refine wp_if (fun h => ?_) (fun h => ?_)
      · have : k = 32768 := by omega
        subst this
        exact wp_r ⟨rfl, fun p hp => hI p hp, hfr⟩
      have hb := hF k (by omega)
      obtain ⟨v, hv⟩ : ∃ v : Int32, v = if F k = true then 1 else 0 := ⟨_, rfl⟩
      rw [← hv] at hb
      have hat : nm_up S 20 k v 20 k = v := (nm_up_ap S 20 k v 20 k).trans (if_pos ⟨rfl, rfl⟩)
      rw [zI_mul, zI_add, nm_cz (by omega) (by omega) (by omega), nm_cz (by omega) (by omega) (by omega), zI_cl (by omega) (by omega), zI_cl (by omega) (by omega), show (32768 * ((c : Nat) : Int) + ((k : Nat) : Int)).toNat = 32768 * c + k by omega, Int.toNat_natCast, hfr _ _ (by omega), hb, vp_narZ (by rw [hv]; exact hv01 (F k)), nm_l_eq, nm_cz (by omega) (by omega) (by omega), hat]
      have hnext : ∀ z, z = (((pc F (k + 1)) : Nat) : Int) → wp (f_X12_flat_L36 (zI (c : Nat)) f (zI z) (zI (((k : Nat) : Int) + 1)) (nm_up S 20 k v)) (fun r => r.1 = zI ((pc F 32768 : Nat) : Int) ∧ oR r.2 (bas F D) ∧ ∀ n j, n ≠ 20 → r.2 n j = I n j) := by
        rintro _ rfl
        refine ih (k + 1) _ (by omega) (by omega) (fun p hp => ?_) (fun n j hn => ?_)
        · rw [nm_up_ap]
          by_cases hpk : p = k
          · subst hpk
            rw [if_pos ⟨rfl, rfl⟩, if_pos (show p < p + 1 by omega)]
            exact hv
          · rw [if_neg (fun q => hpk q.2), hI p hp]
            by_cases h2 : p < k
            · rw [if_pos h2, if_pos (show p < k + 1 by omega)]
            · rw [if_neg h2, if_neg (show ¬ p < k + 1 by omega)]
        · rw [nm_up_ap, if_neg (fun q => hn q.1)]
          exact hfr n j hn
      unfold f_X12_flat_J76
      have hps := pc_s F k
      refine wp_if (fun h0 => ?_) (fun h0 => ?_)
      · have hFk : F k = false := by
          cases hFk : F k with
          | false => rfl
          | true =>
            rw [hv, hFk] at h0
            exact absurd h0 (by decide)
        rw [hFk] at hps
        rw [zI_0, zI_add, nm_l_eq, zI_inc]
        exact hnext _ (by rw [hps]; rfl)
      · have hFk : F k = true := by
          cases hFk : F k with
          | true => rfl
          | false =>
            rw [hv, hFk] at h0
            exact absurd rfl h0
        rw [hFk] at hps
        rw [zI_inc, nm_l_eq, zI_inc]
        exact hnext _ (by rw [hps]; rfl)
  rw [zI_0]
  refine key nm_F 0 I (by omega) (by rw [nm_F_eq]; omega) (fun p hp => ?_) (fun _ _ _ => rfl)
  rw [if_neg (Nat.not_lt_zero _)]
  exact hO p hp
theorem w_flatO3 {D : Nat → Bool} {m : mo} {I : nm_I} (hO : oR I D) (hm : mO I m) (hk : mok m) :
    wp (f_X12_flat_L87 nm_F 8 I) (fun I' => oR I' (mkA m D 8) ∧ mkF I I') := by
  have key : ∀ (f i : Nat) (S : nm_I), i ≤ 8 → 8 - i < f → oR S (mkA m D i) → mkF I S → wp (f_X12_flat_L87 f (zI ((8 + i : Nat) : Int)) S) (fun I' => oR I' (mkA m D 8) ∧ mkF I I') := by
    intro f
    induction f with
    | zero => intro x S h1 h2; omega
    | succ f ih =>
      intro i S hi hf hI hF
      rw [f_X12_flat_L87, show (16 : Int32) = zI 16 from rfl]
      simp (disch := omega) only [zI_le]
      refine wp_if (fun h => ?_) (fun h => ?_)
      · have : i = 8 := by omega
        subst this
        exact wp_r ⟨hI, hF⟩
      obtain ⟨k1, k2, k3, k4, k5⟩ := hk i (by omega)
      obtain ⟨r1, r2, r3⟩ := hm i (by omega)
      refine wp_s1 _ (w_makes (by omega) k1 k2 k3 k4 k5 hI (by rw [hF _ _ (by omega) (by omega) (by omega)]; exact r1) (by rw [hF _ _ (by omega) (by omega) (by omega)]; exact r2) (by rw [hF _ _ (by omega) (by omega) (by omega)]; exact r3)) ?_
      rintro S2 ⟨u1, u2⟩
      rw [zI_inc]
      refine ih (i + 1) S2 (by omega) (by omega) ?_ (fun n j a b d => (u2 n j a b d).trans (hF n j a b d))
      rw [mkA_s]
      exact u1
  rw [show (8 : Int32) = zI ((8 + 0 : Nat) : Int) from rfl]
  exact key nm_F 0 I (by omega) (by rw [nm_F_eq]; omega) hO (fun _ _ _ _ _ => rfl)
theorem w_flatO4 {c : Nat} (hc : c < 8) {T : List tx} {I : nm_I} (hT : tO I c T) (h26 : I 0 26 = zI ((T.length : Nat) : Int)) :
    wp (f_X12_flat_L116 (zI (c : Nat)) nm_F 0 I) (fun I' => dO I' T ∧ ∀ n j, ¬ (24 ≤ n ∧ n ≤ 26) → I' n j = I n j) := by
  obtain ⟨t1, t2, t3⟩ := hT
  have key : ∀ (f k : Nat) (S : nm_I), k ≤ T.length → T.length - k < f → (∀ i, i < k → tok (T.getD i d0) ∧ S 24 i = zI (((T.getD i d0).1 : Nat) : Int) ∧ S 25 i = zI (((T.getD i d0).2.1 : Nat) : Int) ∧ S 26 i = zI (((T.getD i d0).2.2 : Nat) : Int)) → (∀ n j, ¬ (24 ≤ n ∧ n ≤ 26) → S n j = I n j) → wp (f_X12_flat_L116 (zI (c : Nat)) f (zI (k : Nat)) S) (fun I' => dO I' T ∧ ∀ n j, ¬ (24 ≤ n ∧ n ≤ 26) → I' n j = I n j) := by
    intro f
    induction f with
    | zero => intro x S h1 h2; omega
    | succ f ih =>
      intro k S hk hf hI hF
      rw [f_X12_flat_L116, hF _ _ (by omega), h26]
      simp (disch := omega) only [zI_le]
      refine wp_if (fun h => ?_) (fun h => ?_)
      · have : k = T.length := by omega
        subst this
        exact wp_r ⟨⟨by rw [hF _ _ (by omega)]; exact h26, t2, hI⟩, hF⟩
      obtain ⟨k1, k2, k3, k4⟩ := t3 k (by omega)
      have e14 : S 14 (200 * c + k) = _ := (hF _ _ (by omega)).trans k2
      have e15 : S 15 (200 * c + k) = _ := (hF _ _ (by omega)).trans k3
      have e16 : S 16 (200 * c + k) = _ := (hF _ _ (by omega)).trans k4
      rw [show (200 : Int32) = zI 200 from rfl, zI_mul, zI_add, nm_cz (by omega) (by omega) (by omega), nm_cz (by omega) (by omega) (by omega), zI_cl (by omega) (by omega), zI_cl (by omega) (by omega), show (200 * ((c : Nat) : Int) + ((k : Nat) : Int)).toNat = 200 * c + k by omega, Int.toNat_natCast, e14, nm_l_eq, nm_cz (by omega) (by omega) (by omega), nm_cz (by omega) (by omega) (by omega), nm_up_ap, if_neg (by omega), e15, nm_l_eq, nm_cz (by omega) (by omega) (by omega), nm_cz (by omega) (by omega) (by omega), nm_up_ap, if_neg (by omega), nm_up_ap, if_neg (by omega), e16, nm_l_eq, zI_inc]
      refine ih (k + 1) _ (by omega) (by omega) (fun i hi => ?_) (fun n j hn => ?_)
      · by_cases hik : i = k
        · subst hik
          refine ⟨k1, ?_, ?_, ?_⟩
          · rw [nm_up_ap, if_neg (by omega), nm_up_ap, if_neg (by omega), nm_up_ap, if_pos ⟨rfl, rfl⟩]
          · rw [nm_up_ap, if_neg (by omega), nm_up_ap, if_pos ⟨rfl, rfl⟩]
          · rw [nm_up_ap, if_pos ⟨rfl, rfl⟩]
        · obtain ⟨l1, l2, l3, l4⟩ := hI i (by omega)
          refine ⟨l1, ?_, ?_, ?_⟩
          · rw [nm_up_ap, if_neg (by omega), nm_up_ap, if_neg (by omega), nm_up_ap, if_neg (by omega)]
            exact l2
          · rw [nm_up_ap, if_neg (by omega), nm_up_ap, if_neg (by omega), nm_up_ap, if_neg (by omega)]
            exact l3
          · rw [nm_up_ap, if_neg (by omega), nm_up_ap, if_neg (by omega), nm_up_ap, if_neg (by omega)]
            exact l4
      · rw [nm_up_ap, if_neg (by omega), nm_up_ap, if_neg (by omega), nm_up_ap, if_neg (by omega)]
        exact hF n j hn
  rw [zI_0]
  exact key nm_F 0 I (by omega) (by rw [nm_F_eq]; omega) (fun i hi => absurd hi (Nat.not_lt_zero _)) (fun _ _ _ => rfl)
/-- what FLAT leaves as it was -/
abbrev flF (I I' : nm_I) : Prop := ∀ n j, ¬ (13 ≤ n ∧ n ≤ 17) → n ≠ 20 → ¬ (24 ≤ n ∧ n ≤ 26) → ¬ (28 ≤ n ∧ n ≤ 33) → ¬ (n = 0 ∧ (j = 17 ∨ j = 18 ∨ j = 20 ∨ j = 21 ∨ j = 22 ∨ j = 26 ∨ j = 33 ∨ j = 34 ∨ j = 72)) → I' n j = I n j
theorem w_flatO {c : Nat} (hc : c < 8) {sd : Nat → Nat → Nat → Int} {cnt : Nat → Nat} {I : nm_I} (hs : clO I sd cnt) {D : Nat → Bool} (hO : oR I D) {m : mo} (hm : mO I m) (hk : mok m) :
    wp (f_X12_flat (zI (c : Nat)) I) (fun r => r.1 = zI ((pc (FL sd cnt c).1 32768 : Nat) : Int) ∧ oR r.2 (mkA m (bas (FL sd cnt c).1 D) 8) ∧ dO r.2 (FL sd cnt c).2 ∧ (r.2 0 20 = 1 ∧ r.2 0 21 = 0 ∧ r.2 0 22 = 0 ∧ r.2 0 72 = 0) ∧ flF I r.2) := by
  unfold f_X12_flat
  rw [isCell_z hc, if_neg (by decide)]
  refine wp_s1 _ (w_flatO1 hc hs) ?_
  rintro I1 ⟨u1, u2, u3⟩
  refine wp_s2 _ (w_flatO2 hc u1 (oR_fr hO (fun j => u3 _ _ (by omega) (by omega)))) ?_
  rintro y I2 ⟨v1, v2, v3'⟩
  have v3 : ∀ n j, n ≠ 20 → I2 n j = I1 n j := v3'
  refine wp_s1 _ (w_flatO3 v2 (fun i hi => ?_) hk) ?_
  · rw [v3 _ _ (by omega), v3 _ _ (by omega), v3 _ _ (by omega), u3 _ _ (by omega) (by omega), u3 _ _ (by omega) (by omega), u3 _ _ (by omega) (by omega)]
    exact hm i hi
  rintro I3 ⟨x1, x2⟩
  have hf3 : ∀ n j, n ≠ 20 → ¬ (28 ≤ n ∧ n ≤ 33) → ¬ (n = 0 ∧ (j = 33 ∨ j = 34)) → I3 n j = I1 n j := fun n j a b d => (x2 n j a b d).trans (v3 n j a)
  have hT3 : tO I3 c (FL sd cnt c).2 := by
    obtain ⟨z1, z2, z3⟩ := u2
    refine ⟨by rw [hf3 _ _ (by omega) (by omega) (by omega)]; exact z1, z2, fun i hi => ⟨(z3 i hi).1, ?_, ?_, ?_⟩⟩
    · rw [hf3 _ _ (by omega) (by omega) (by omega)]
      exact (z3 i hi).2.1
    · rw [hf3 _ _ (by omega) (by omega) (by omega)]
      exact (z3 i hi).2.2.1
    · rw [hf3 _ _ (by omega) (by omega) (by omega)]
      exact (z3 i hi).2.2.2
  rw [nm_cz (by omega) (by omega) (by omega), zI_cl (by omega) (by omega), Int.toNat_natCast, hT3.1, nm_l_eq]
  have hT4 : tO (nm_up I3 0 26 (zI (((FL sd cnt c).2.length : Nat) : Int))) c (FL sd cnt c).2 := by
    obtain ⟨z1, z2, z3⟩ := hT3
    refine ⟨by rw [nm_up_ap, if_neg (by omega)]; exact z1, z2, fun i hi => ⟨(z3 i hi).1, ?_, ?_, ?_⟩⟩
    · rw [nm_up_ap, if_neg (by omega)]
      exact (z3 i hi).2.1
    · rw [nm_up_ap, if_neg (by omega)]
      exact (z3 i hi).2.2.1
    · rw [nm_up_ap, if_neg (by omega)]
      exact (z3 i hi).2.2.2
  refine wp_s1 _ (w_flatO4 hc hT4 (by rw [nm_up_ap, if_pos ⟨rfl, rfl⟩])) ?_
  rintro I4 ⟨y1, y2⟩
  obtain ⟨I5, h5⟩ : ∃ I5, I5 = nm_up (nm_up (nm_up (nm_up I4 0 20 1) 0 21 0) 0 22 0) 0 72 0 := ⟨_, rfl⟩
  simp only [nm_l_eq]
  rw [← h5]
  have hn5 : ∀ n j, ¬ (n = 0 ∧ (j = 20 ∨ j = 21 ∨ j = 22 ∨ j = 72)) → I5 n j = I4 n j := fun n j h => by
    rw [h5, nm_up_ap, if_neg (by omega), nm_up_ap, if_neg (by omega), nm_up_ap, if_neg (by omega), nm_up_ap, if_neg (by omega)]
  refine wp_r ⟨v1, ?_, ?_, ⟨?_, ?_, ?_, ?_⟩, ?_⟩
  · refine oR_fr x1 (fun j => ?_)
    show I5 20 j = I3 20 j
    rw [hn5 _ _ (by omega), y2 _ _ (by omega), nm_up_ap, if_neg (by omega)]
  · obtain ⟨z1, z2, z3⟩ := y1
    refine ⟨by rw [← z1]; exact hn5 _ _ (by omega), z2, fun i hi => ⟨(z3 i hi).1, ?_, ?_, ?_⟩⟩
    · rw [← (z3 i hi).2.1]
      exact hn5 _ _ (by omega)
    · rw [← (z3 i hi).2.2.1]
      exact hn5 _ _ (by omega)
    · rw [← (z3 i hi).2.2.2]
      exact hn5 _ _ (by omega)
  · show I5 0 20 = 1
    rw [h5, nm_up_ap, if_neg (by omega), nm_up_ap, if_neg (by omega), nm_up_ap, if_neg (by omega), nm_up_ap, if_pos ⟨rfl, rfl⟩]
  · show I5 0 21 = 0
    rw [h5, nm_up_ap, if_neg (by omega), nm_up_ap, if_neg (by omega), nm_up_ap, if_pos ⟨rfl, rfl⟩]
  · show I5 0 22 = 0
    rw [h5, nm_up_ap, if_neg (by omega), nm_up_ap, if_pos ⟨rfl, rfl⟩]
  · show I5 0 72 = 0
    rw [h5, nm_up_ap, if_pos ⟨rfl, rfl⟩]
  · intro n j a1 a2 a3 a4 a5
    show I5 n j = I n j
    rw [hn5 _ _ (by omega), y2 _ _ a3, nm_up_ap, if_neg (by omega), hf3 _ _ a2 a4 (by omega), u3 _ _ a1 (by omega)]
