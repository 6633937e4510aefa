/-! all rules, by the reference -/
abbrev rnF (I I' : nm_I) : Prop := ∀ n j, ¬ (28 ≤ n ∧ n ≤ 32) → ¬ (n = 0 ∧ (j = 21 ∨ j = 33 ∨ j = 34 ∨ j = 46)) → ¬ (41 ≤ n ∧ n ≤ 46) → I' n j = I n j
theorem w_runClr (I : nm_I) : wp (f_X12_run_L21 nm_F 0 I) (fun I' => (∀ r, r < 16 → I' 45 r = 0 ∧ I' 46 r = -1) ∧ ∀ n j, n ≠ 45 → n ≠ 46 → I' n j = I n j) := by
  have key : ∀ (f k : Nat) (S : nm_I), k ≤ 16 → 16 - k < f → (∀ r, r < k → S 45 r = 0 ∧ S 46 r = -1) → (∀ n j, n ≠ 45 → n ≠ 46 → S n j = I n j) → wp (f_X12_run_L21 f (zI (k : Nat)) S) (fun I' => (∀ r, r < 16 → I' 45 r = 0 ∧ I' 46 r = -1) ∧ ∀ n j, n ≠ 45 → n ≠ 46 → I' n j = I n j) := by
    intro f
    induction f with
    | zero => intro k S h1 h2; omega
    | succ f ih =>
      intro k S hk hf hI hF
      rw [f_X12_run_L21, show (16 : Int32) = zI 16 from rfl]
      simp (disch := omega) only [zI_le]
      refine wp_if (fun h => ?_) (fun h => ?_)
      · have : k = 16 := by omega
        subst this
        exact wp_r ⟨hI, hF⟩
      rw [nm_cz (by omega) (by omega) (by omega), zI_cl (by omega) (by omega), Int.toNat_natCast, nm_l_eq, nm_cz (by omega) (by omega) (by omega), nm_l_eq, zI_inc]
      refine ih (k + 1) _ (by omega) (by omega) (fun r hr => ?_) (fun n j a b => ?_)
      · by_cases hrk : r = k
        · subst hrk
          exact ⟨by rw [nm_up_ap, if_neg (by omega), nm_up_ap, if_pos ⟨rfl, rfl⟩], by rw [nm_up_ap, if_pos ⟨rfl, rfl⟩]⟩
        · obtain ⟨x, y⟩ := hI r (by omega)
          exact ⟨by rw [nm_up_ap, if_neg (by omega), nm_up_ap, if_neg (by omega)]; exact x, by rw [nm_up_ap, if_neg (by omega), nm_up_ap, if_neg (by omega)]; exact y⟩
      · rw [nm_up_ap, if_neg (by omega), nm_up_ap, if_neg (by omega)]
        exact hF n j a b
  rw [zI_0]
  exact key nm_F 0 I (by omega) (by rw [nm_F_eq]; omega) (fun r hr => absurd hr (Nat.not_lt_zero _)) (fun _ _ _ _ => rfl)
set_option maxHeartbeats 1000000 in
theorem w_runR {D : Nat → Bool} {q : ro} {n : Nat} (hq : rok q n) {I0 : nm_I} (hO0 : oR I0 D) (hr : rO I0 q n) (hL0 : faO I0 []) :
    wp (f_X12_run_L49 nm_F (zI 0) I0) (fun I' => faO I' (ruA D q n) ∧ oR I' D ∧ rnF I0 I') := by
  obtain ⟨hn, hq⟩ := hq
  obtain ⟨hr0, hr⟩ := hr
  have key : ∀ (f i : Nat) (S : nm_I), i ≤ n → n - i < f → faO S (ruA D q i) → oR S D → rnF I0 S → wp (f_X12_run_L49 f (zI (i : Nat)) S) (fun I' => faO I' (ruA D q n) ∧ oR I' D ∧ rnF I0 I') := by
    intro f
    induction f with
    | zero => intro i S h1 h2; omega
    | succ f ih =>
      intro i S hi hf hI hO hF
      have hlk := ruA_len D q i
      rw [f_X12_run_L49, hF 0 39 (by omega) (by omega) (by omega), hr0]
      simp (disch := omega) only [zI_le]
      refine wp_if (fun h => ?_) (fun h => ?_)
      · have : i = n := by omega
        subst this
        exact wp_r ⟨hI, hO, hF⟩
      obtain ⟨k1, k2, k3, k4⟩ := hq i (by omega)
      obtain ⟨r1, r2, r3, r4⟩ := hr i (by omega)
      have s1 : S 36 i = _ := (hF 36 i (by omega) (by omega) (by omega)).trans r1
      have s2 : S 37 i = _ := (hF 37 i (by omega) (by omega) (by omega)).trans r2
      have s3 : (q i).1 = 2 → S 38 i = _ := fun hz => (hF 38 i (by omega) (by omega) (by omega)).trans (r3 hz)
      have s4 : S 39 i = _ := (hF 39 i (by omega) (by omega) (by omega)).trans r4
      have hnext : ∀ S' : nm_I, faO S' (ruL D i (q i) (ruA D q i)) → oR S' D → rnF S S' → wp (f_X12_run_J136 (zI (i : Nat)) S' (f_X12_run_L49 f)) (fun I' => faO I' (ruA D q n) ∧ oR I' D ∧ rnF I0 I') := by
        intro S' a b d
        unfold f_X12_run_J136
        rw [zI_inc]
        exact ih (i + 1) S' (by omega) (by omega) a b (fun n j x y z => (d n j x y z).trans (hF n j x y z))
      have hfo : ∀ S' : nm_I, faOF S S' → oR S' D ∧ rnF S S' := fun S' z => ⟨oR_fr hO (fun j => z 20 j (by omega) (by omega)), fun n j x y w => z n j (by omega) w⟩
      rw [nm_cz (by omega) (by omega) (by omega), zI_cl (by omega) (by omega), Int.toNat_natCast, s1, zI_0, show (1 : Int32) = zI 1 from rfl, show (2 : Int32) = zI 2 from rfl, show (3 : Int32) = zI 3 from rfl]
      simp (disch := omega) only [zI_eq]
      have hlin : (q i).1 < 2 → wp (f_X12_run_J92 (zI (i : Nat)) S (f_X12_run_L49 f)) (fun I' => faO I' (ruA D q n) ∧ oR I' D ∧ rnF I0 I') := by
        intro hk
        have hgo : wp (f_X12_run_J109 (zI (i : Nat)) (zI (((q i).1 : Nat) : Int)) (zI (i : Nat)) S (f_X12_run_L49 f)) (fun I' => faO I' (ruA D q n) ∧ oR I' D ∧ rnF I0 I') := by
          unfold f_X12_run_J109
          refine wp_s1 _ (w_lines hO (by omega) k4 hk k2 s4 s2 hI (by omega)) ?_
          rintro S' ⟨z1, z2⟩
          obtain ⟨z3, z4⟩ := hfo S' z2
          refine hnext S' ?_ z3 z4
          unfold ruL
          rw [if_neg (by omega), if_neg (by omega), if_neg (by omega)]
          exact z1
        unfold f_X12_run_J92
        rw [nm_cz (by omega) (by omega) (by omega), zI_cl (by omega) (by omega), Int.toNat_natCast, s1, show (1 : Int32) = zI 1 from rfl]
        simp (disch := omega) only [zI_eq]
        refine wp_if (fun h1 => ?_) (fun h1 => ?_)
        · have e1 : (q i).1 = 1 := by omega
          rw [e1] at hgo
          exact hgo
        · have e1 : (q i).1 = 0 := by omega
          rw [e1] at hgo
          exact hgo
      refine wp_if (fun h2 => hlin (by omega)) (fun h0 => ?_)
      refine wp_if (fun h2 => hlin (by omega)) (fun h1 => ?_)
      refine wp_if (fun h2 => ?_) (fun h2 => ?_)
      · have e2 : (q i).1 = 2 := by omega
        obtain ⟨k31, k32⟩ := k3 e2
        refine wp_s1 _ (w_inside hO hI (by omega) (by omega) k32 k2 k31 s4 s2 (s3 e2)) ?_
        rintro S' ⟨z1, z2⟩
        obtain ⟨z3, z4⟩ := hfo S' z2
        refine hnext S' ?_ z3 z4
        unfold ruL
        rw [if_pos e2]
        exact z1
      have e2 : ¬ (q i).1 = 2 := by omega
      refine wp_if (fun h3 => ?_) (fun h3 => ?_)
      · have e3 : (q i).1 = 3 := by omega
        refine wp_s1 _ (w_areas hO hI (by omega) (by omega) k4 k2 s4 s2) ?_
        rintro S' ⟨z1, z2, z3⟩
        refine hnext S' ?_ z2 (fun n j x y w => z3 n j x (by omega) w)
        unfold ruL
        rw [if_neg e2, if_pos e3]
        exact z1
      · have e4 : (q i).1 = 4 := by omega
        refine wp_s1 _ (w_shares hO hI (by omega) (by omega) k4 k2 s4 s2) ?_
        rintro S' ⟨z1, z2⟩
        obtain ⟨z3, z4⟩ := hfo S' z2
        refine hnext S' ?_ z3 z4
        unfold ruL
        rw [if_neg e2, if_neg (by omega), if_pos e4]
        exact z1
  exact key nm_F 0 I0 (by omega) (by rw [nm_F_eq]; omega) hL0 hO0 (fun _ _ _ _ _ => rfl)
theorem w_runO {D : Nat → Bool} {q : ro} {n : Nat} (hq : rok q n) {I : nm_I} (hO : oR I D) (hr : rO I q n) (hd : I 0 20 ≠ 0) :
    wp (f_X12_run I) (fun r => r.1 = zI (((ruA D q n).length : Nat) : Int) ∧ faO r.2 (ruA D q n) ∧ r.2 0 21 = 1 ∧ oR r.2 D ∧ rnF I r.2) := by
  unfold f_X12_run
  rw [if_neg hd, nm_l_eq]
  refine wp_s1 _ (w_runClr _) ?_
  rintro I1 ⟨c1, c2⟩
  have c3 : ∀ n j, ¬ (n = 0 ∧ j = 46) → n ≠ 45 → n ≠ 46 → I1 n j = I n j := fun n j x y z => by rw [c2 n j y z, nm_up_ap, if_neg x]
  have hL0 : faO I1 [] := ⟨rng_nil, by rw [c2 0 46 (by omega) (by omega), nm_up_ap, if_pos ⟨rfl, rfl⟩]; rfl, fun i hi => absurd hi (Nat.not_lt_zero _), fun r h => ⟨((c1 r h).1).trans zI_0, ((c1 r h).2).trans rfl⟩⟩
  have hr1 : rO I1 q n := by
    obtain ⟨r0, r1⟩ := hr
    refine ⟨(c3 _ _ (by omega) (by omega) (by omega)).trans r0, fun i hi => ?_⟩
    obtain ⟨u1, u2, u3, u4⟩ := r1 i hi
    exact ⟨(c3 _ _ (by omega) (by omega) (by omega)).trans u1, (c3 _ _ (by omega) (by omega) (by omega)).trans u2, fun hz => (c3 _ _ (by omega) (by omega) (by omega)).trans (u3 hz), (c3 _ _ (by omega) (by omega) (by omega)).trans u4⟩
  rw [zI_0]
  refine wp_s1 _ (w_runR hq (oR_fr hO (fun j => c3 20 j (by omega) (by omega) (by omega))) hr1 hL0) ?_
  rintro I2 ⟨u1, u2, u3⟩
  rw [nm_l_eq]
  obtain ⟨B, hB⟩ : ∃ B, B = nm_up I2 0 21 1 := ⟨_, rfl⟩
  rw [← hB]
  have b1 : ∀ m j, ¬ (m = 0 ∧ j = 21) → B m j = I2 m j := fun m j x => by rw [hB, nm_up_ap, if_neg x]
  have b2 : B 0 21 = 1 := by rw [hB, nm_up_ap, if_pos ⟨rfl, rfl⟩]
  clear hB
  have hfB : faO B (ruA D q n) := by
    obtain ⟨y1, y2, y3, y4⟩ := u1
    refine ⟨y1, (b1 _ _ (by omega)).trans y2, fun i x y => ?_, fun r x => ?_⟩
    · obtain ⟨w1, w2, w3, w4⟩ := y3 i x y
      exact ⟨(b1 _ _ (by omega)).trans w1, (b1 _ _ (by omega)).trans w2, (b1 _ _ (by omega)).trans w3, (b1 _ _ (by omega)).trans w4⟩
    · obtain ⟨w1, w2⟩ := y4 r x
      exact ⟨(b1 _ _ (by omega)).trans w1, (b1 _ _ (by omega)).trans w2⟩
  refine wp_r ⟨hfB.2.1, hfB, b2, oR_fr u2 (fun j => b1 20 j (by omega)), fun m j x y z => ?_⟩
  show B m j = _
  rw [b1 m j (by omega), u3 m j x y z, c3 m j (by omega) (by omega) (by omega)]
