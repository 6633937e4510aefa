theorem zI_0 : (0 : Int32) = zI 0 := rfl
def bX (r : Nat → Bool) (s p : Nat) (I : nm_I) (v : Nat → Bool) (cnt : Nat) (qu : Nat → Nat) (I' : nm_I) (v' : Nat → Bool) (cnt' : Nat) (qu' : Nat → Nat) : Prop :=
  bI I' r s p v' cnt' qu' ∧ (∀ q, v q = true → v' q = true) ∧ cnt ≤ cnt' ∧ (∀ j, j < cnt → qu' j = qu j) ∧ mF I I'
theorem w_stage {D : Nat → Bool} {a b : Nat} (ha : a < 16) (hb : b < 16) {I : nm_I} (hO : oR I D) {s p : Nat} (hp : p < 4096) (hs : ldr (rcm D a b) (CP (rcm D a b)) s = true) {v : Nat → Bool} {cnt : Nat} {qu : Nat → Nat} (hB : bI I (rcm D a b) s p v cnt qu) {c : Prop} [Decidable c] {u : Nat} {xu : Int32} {Kf : nm_I → Option nm_I} {P : nm_I → Prop} (hu : ¬ c → u < 4096 ∧ xu = zI (u : Nat) ∧ (rcm D a b u = true → CP (rcm D a b) s u))
    (hk : ∀ I' v' cnt' qu', bX (rcm D a b) s p I v cnt qu I' v' cnt' qu' → (¬ c → rcm D a b u = true → v' u = true) → wp (Kf I') P) : wp (if c then Kf I else nm_s1 (f_X12_meets (zI ((4096 * a : Nat) : Int)) (zI (b : Nat)) xu (zI (p : Nat)) I) Kf) P := by
  refine wp_if (fun h => hk I v cnt qu ⟨hB, fun _ h => h, Nat.le_refl _, fun _ _ => rfl, fun _ _ _ _ _ => rfl⟩ (fun h2 => absurd h h2)) (fun h => ?_)
  obtain ⟨u1, u2, u3⟩ := hu h
  subst u2
  refine wp_s1 _ (w_meets ha hb hO hp hs hB u1 u3) ?_
  rintro I' ⟨v', cnt', qu', k1, k2, k3, k4, k5, k6⟩
  exact hk I' v' cnt' qu' ⟨k1, k2, k4, k5, k6⟩ (fun _ => k3)
theorem oR_fr {I I' : nm_I} {D : Nat → Bool} (h : oR I D) (h2 : ∀ k, I' 20 k = I 20 k) : oR I' D := fun p hp => by rw [h2]; exact h p hp
theorem mF_20 {I I' : nm_I} (h : mF I I') (k : Nat) : I' 20 k = I 20 k := h 20 k (by decide) (by decide) (fun h => absurd h.1 (by decide))
def pF (I I' : nm_I) (p : Nat) : Prop := (∀ n k, n ≠ 28 → n ≠ 30 → n ≠ 32 → ¬ (n = 0 ∧ k = 34) → I' n k = I n k) ∧ ∀ g, g ≠ p → I' 30 g = I 30 g
theorem pF_m {I I1 I2 : nm_I} {p : Nat} (h : pF I I1 p) (h2 : mF I1 I2) : pF I I2 p := ⟨fun n k a b c d => (h2 n k a c d).trans (h.1 n k a b c d), fun g hg => (h2 30 g (by decide) (by decide) (fun h => absurd h.1 (by decide))).trans (h.2 g hg)⟩
set_option maxHeartbeats 4000000 in
theorem w_flood {D : Nat → Bool} {a b : Nat} (ha : a < 16) (hb : b < 16) {I0 : nm_I} (hO0 : oR I0 D) {s p : Nat} (hp : p < 4096) (hs4 : s < 4096) (hs : ldr (rcm D a b) (CP (rcm D a b)) s = true) (h30 : I0 30 p = zI (s : Nat)) {v0 : Nat → Bool} {cnt0 : Nat} {qu0 : Nat → Nat} (hB0 : bI I0 (rcm D a b) s p v0 cnt0 qu0) (hv0 : v0 s = true) :
    wp (f_X12_findPieces_L123 (zI ((4096 * a : Nat) : Int)) (zI (b : Nat)) (zI (p : Nat)) nm_F (zI 0) I0) (fun I' => (∀ q, q < 4096 → I' 28 q = zI (if rcm D a b q = true ∧ lead (rcm D a b) (CP (rcm D a b)) q = s then (p : Int) else if rcm D a b q = true ∧ lead (rcm D a b) (CP (rcm D a b)) q < s then lc (rcm D a b) q else -1)) ∧ I' 0 34 = zI ((pc (fun q => decide (rcm D a b q = true ∧ lead (rcm D a b) (CP (rcm D a b)) q = s)) 4096 : Nat) : Int) ∧ (∃ L : Nat, L < 4096 ∧ I' 30 p = zI (L : Nat) ∧ rcm D a b L = true ∧ CP (rcm D a b) s L ∧ ∀ q, q < 4096 → rcm D a b q = true → CP (rcm D a b) s q → q ≤ L) ∧ oR I' D ∧ pF I0 I' p) := by
  have key := lpm (fun f (t : Int32 × nm_I) => f_X12_findPieces_L123 (zI ((4096 * a : Nat) : Int)) (zI (b : Nat)) (zI (p : Nat)) f t.1 t.2) (fun I' => (∀ q, q < 4096 → I' 28 q = zI (if rcm D a b q = true ∧ lead (rcm D a b) (CP (rcm D a b)) q = s then (p : Int) else if rcm D a b q = true ∧ lead (rcm D a b) (CP (rcm D a b)) q < s then lc (rcm D a b) q else -1)) ∧ I' 0 34 = zI ((pc (fun q => decide (rcm D a b q = true ∧ lead (rcm D a b) (CP (rcm D a b)) q = s)) 4096 : Nat) : Int) ∧ (∃ L : Nat, L < 4096 ∧ I' 30 p = zI (L : Nat) ∧ rcm D a b L = true ∧ CP (rcm D a b) s L ∧ ∀ q, q < 4096 → rcm D a b q = true → CP (rcm D a b) s q → q ≤ L) ∧ oR I' D ∧ pF I0 I' p)
    (fun t => ∃ k v cnt qu, t.1 = zI ((k : Nat) : Int) ∧ bI t.2 (rcm D a b) s p v cnt qu ∧ v s = true ∧ k ≤ cnt ∧ (∀ j, j < k → ∀ u, (Ap (rcm D a b) (qu j) u ∨ Ap (rcm D a b) u (qu j)) → v u = true) ∧ (∃ L : Nat, t.2 30 p = zI (L : Nat) ∧ s ≤ L ∧ v L = true ∧ ∀ j, j < k → qu j ≤ L) ∧ oR t.2 D ∧ pF I0 t.2 p) (fun t => 5000 - t.1.toInt.toNat) ?_ nm_F (zI 0, I0) (by show 5000 - _ < nm_F; rw [nm_F_eq]; omega) ⟨0, v0, cnt0, qu0, rfl, hB0, hv0, Nat.zero_le _, fun j hj => by omega, ⟨s, h30, Nat.le_refl _, hv0, fun j hj => by omega⟩, hO0, ⟨fun _ _ _ _ _ _ => rfl, fun _ _ => rfl⟩⟩
  · exact key
  rintro f ⟨x, I⟩ ⟨k, v, cnt, qu, e1, hB, hvs, hk, hpr, ⟨L, L1, L2, L3, L4⟩, hO, hF⟩ hn9
  simp only at e1 hB L1 hO hF
  subst e1
  have hcnt : cnt ≤ 4096 := by
    rw [← hB.2.2.1]
    exact pc_le _ _
  show wp (f_X12_findPieces_L123 _ _ _ (f + 1) (zI ((k : Nat) : Int)) I) _
  rw [f_X12_findPieces_L123, hB.2.2.2.1]
  simp (disch := omega) only [zI_le, nm_cz, zI_cl, nm_l_eq]
  refine wp_if (fun h => wp_r ?_) (fun h => ?_)
  · -- all that was found has been gone over
    have hkc : k = cnt := by omega
    subst hkc
    have hcl : ∀ x y, Ap (rcm D a b) x y → (v x = true ↔ v y = true) := by
      intro x y hxy
      constructor
      · intro hx
        obtain ⟨j, j1, j2⟩ := hB.2.2.2.2.2 x hx
        exact hpr j j1 y (Or.inl (by rw [j2]; exact hxy))
      · intro hy
        obtain ⟨j, j1, j2⟩ := hB.2.2.2.2.2 y hy
        exact hpr j j1 x (Or.inr (by rw [j2]; exact hxy))
    have hall : ∀ q, CP (rcm D a b) s q → v q = true := fun q hq => Cn_set (fun z => v z = true) hcl hq hvs
    have hv : ∀ q, v q = decide (rcm D a b q = true ∧ lead (rcm D a b) (CP (rcm D a b)) q = s) := by
      intro q
      apply Bool.eq_iff_iff.mpr
      rw [decide_eq_true_iff]
      constructor
      · intro hq
        obtain ⟨x1, x2, x3⟩ := hB.2.1 q hq
        exact ⟨x2, (lead_eq x2 hs).mpr x3⟩
      · rintro ⟨x1, x2⟩
        exact hall q ((lead_eq x1 hs).mp x2)
    refine ⟨fun q hq => ?_, ?_, ⟨L, ?_, L1, (hB.2.1 L L3).2.1, (hB.2.1 L L3).2.2, ?_⟩, hO, hF⟩
    · rw [hB.1 q hq, hv q]
      by_cases hc : rcm D a b q = true ∧ lead (rcm D a b) (CP (rcm D a b)) q = s
      · rw [if_pos (by simp [hc]), if_pos hc]
      · rw [if_neg (by simp only [decide_eq_true_iff]; exact hc), if_neg hc]
    · rw [hB.2.2.2.1, ← hB.2.2.1, pc_congr (fun q _ => hv q)]
    · exact (hB.2.1 L L3).1
    · intro q hq hr hc
      obtain ⟨j, j1, j2⟩ := hB.2.2.2.2.2 q (hall q hc)
      rw [← j2]
      exact L4 j j1
  · have hkc : k < cnt := by omega
    obtain ⟨q1, q2, q3⟩ := hB.2.2.2.2.1 k hkc
    obtain ⟨q4, q5, q6⟩ := hB.2.1 _ q2
    have hL4 := (hB.2.1 L L3).1
    rw [show ((k : Nat) : Int).toNat = k from rfl, show ((p : Nat) : Int).toNat = p from rfl, q3, L1]
    simp (disch := omega) only [zI_le]
    -- behind the greatest so far
    have hgo : ∀ (I1 : nm_I) (L' : Nat), bI I1 (rcm D a b) s p v cnt qu → oR I1 D → pF I0 I1 p → I1 30 p = zI (L' : Nat) → s ≤ L' → v L' = true → (∀ j, j < k + 1 → qu j ≤ L') → wp (f_X12_findPieces_J162 (zI ((4096 * a : Nat) : Int)) (zI (b : Nat)) (zI (p : Nat)) (zI ((k : Nat) : Int)) (zI ((qu k : Nat) : Int)) I1 (f_X12_findPieces_L123 (zI ((4096 * a : Nat) : Int)) (zI (b : Nat)) (zI (p : Nat)) f)) (fun I' => (∀ q, q < 4096 → I' 28 q = zI (if rcm D a b q = true ∧ lead (rcm D a b) (CP (rcm D a b)) q = s then (p : Int) else if rcm D a b q = true ∧ lead (rcm D a b) (CP (rcm D a b)) q < s then lc (rcm D a b) q else -1)) ∧ I' 0 34 = zI ((pc (fun q => decide (rcm D a b q = true ∧ lead (rcm D a b) (CP (rcm D a b)) q = s)) 4096 : Nat) : Int) ∧ (∃ L : Nat, L < 4096 ∧ I' 30 p = zI (L : Nat) ∧ rcm D a b L = true ∧ CP (rcm D a b) s L ∧ ∀ q, q < 4096 → rcm D a b q = true → CP (rcm D a b) s q → q ≤ L) ∧ oR I' D ∧ pF I0 I' p) := by
      intro I1 L' hB1 hO1 hF1 m1 m2 m3 m4
      generalize ht : qu k = t at *
      unfold f_X12_findPieces_J162 f_X12_findPieces_J182 f_X12_findPieces_J204 f_X12_findPieces_J224 f_X12_findPieces_J245
      rw [zI_0]
      simp (disch := omega) only [zI_lit, zI_div, zI_mul, zI_sub, zI_add, zI_le, zI_lt]
      have hA : ∀ u, Ap (rcm D a b) t u → CP (rcm D a b) s u := fun u h => CP_tr _ _ _ q6 (Cn_of h)
      have hA2 : ∀ u, Ap (rcm D a b) u t → CP (rcm D a b) s u := fun u h => CP_tr _ _ _ q6 (Cn_sy (Cn_of h))
      refine w_stage (u := t - 1) ha hb hO1 hp hs hB1 (fun hc => ⟨by omega, congrArg zI (by omega), fun hr => hA2 _ (Or.inl ⟨by omega, by omega, hr, q5⟩)⟩) ?_
      rintro I2 v2 c2 u2 ⟨x1, x2, x3, x4, x5⟩ y2
      refine w_stage (u := t + 1) ha hb (oR_fr hO1 (mF_20 x5)) hp hs x1 (fun hc => ⟨by omega, congrArg zI (by omega), fun hr => hA _ (Or.inl ⟨by omega, by omega, q5, hr⟩)⟩) ?_
      rintro I3 v3 c3 u3 ⟨z1, z2, z3, z4, z5⟩ y3
      refine w_stage (u := t - 64) ha hb (oR_fr (oR_fr hO1 (mF_20 x5)) (mF_20 z5)) hp hs z1 (fun hc => ⟨by omega, congrArg zI (by omega), fun hr => hA2 _ (Or.inr ⟨by omega, by omega, hr, q5⟩)⟩) ?_
      rintro I4 v4 c4 u4 ⟨w1, w2, w3, w4, w5⟩ y4
      refine w_stage (u := t + 64) ha hb (oR_fr (oR_fr (oR_fr hO1 (mF_20 x5)) (mF_20 z5)) (mF_20 w5)) hp hs w1 (fun hc => ⟨by omega, congrArg zI (by omega), fun hr => hA _ (Or.inr ⟨by omega, by omega, q5, hr⟩)⟩) ?_
      rintro I5 v5 c5 u5 ⟨g1, g2, g3, g4, g5⟩ y5
      have hm : ∀ q, v q = true → v5 q = true := fun q h => g2 q (w2 q (z2 q (x2 q h)))
      have hq : ∀ j, j < cnt → u5 j = qu j := fun j hj => by rw [g4 j (by omega), w4 j (by omega), z4 j (by omega), x4 j hj]
      have h30' : I5 30 p = zI (L' : Nat) := by
        rw [g5 30 p (by decide) (by decide) (by omega), w5 30 p (by decide) (by decide) (by omega), z5 30 p (by decide) (by decide) (by omega), x5 30 p (by decide) (by decide) (by omega)]
        exact m1
      refine hn9 (zI (((k : Nat) : Int) + 1), I5) ⟨k + 1, v5, c5, u5, rfl, g1, hm _ hvs, by omega, ?_, ⟨L', h30', m2, hm _ m3, fun j hj => by rw [hq j (by omega)]; exact m4 j hj⟩, oR_fr (oR_fr (oR_fr (oR_fr hO1 (mF_20 x5)) (mF_20 z5)) (mF_20 w5)) (mF_20 g5), pF_m (pF_m (pF_m (pF_m hF1 x5) z5) w5) g5⟩ ?_
      · intro j hj u hu
        rw [hq j (by omega)] at hu
        by_cases hjk : j = k
        · subst hjk
          rw [ht] at hu
          rcases hu with (⟨u1, u2, u3, u4⟩ | ⟨u1, u2, u3, u4⟩) | (⟨u1, u2, u3, u4⟩ | ⟨u1, u2, u3, u4⟩)
          · have := y3 (by omega) (by rw [← u1]; exact u4)
            rw [u1]
            exact g2 _ (w2 _ this)
          · have := y5 (by omega) (by rw [← u1]; exact u4)
            rw [u1]
            exact this
          · have e : t - 1 = u := by omega
            have := y2 (by omega) (by rw [e]; exact u3)
            rw [e] at this
            exact g2 _ (w2 _ (z2 _ this))
          · have e : t - 64 = u := by omega
            have := y4 (by omega) (by rw [e]; exact u3)
            rw [e] at this
            exact g2 _ this
        · exact hm _ (hpr j (by omega) u hu)
      · show 5000 - (zI _).toInt.toNat < 5000 - (zI _).toInt.toNat
        rw [zI_ti (by omega) (by omega), zI_ti (by omega) (by omega)]
        omega
    refine wp_if (fun h => ?_) (fun h => ?_)
    · refine hgo I L hB hO hF L1 L2 L3 (fun j hj => ?_)
      by_cases hjk : j = k
      · rw [hjk]
        omega
      · exact L4 j (by omega)
    · have hne : ∀ n j, n ≠ 30 → nm_up I 30 p (zI ((qu k : Nat) : Int)) n j = I n j := fun n j hn => by rw [nm_up_ap, if_neg (fun h => hn h.1)]
      refine hgo _ (qu k) ?_ (oR_fr hO (fun j => hne 20 j (by decide))) ⟨fun n j a1 a2 a3 a4 => by rw [hne n j a2]; exact hF.1 n j a1 a2 a3 a4, fun g hg => by rw [nm_up_ap, if_neg (fun h => hg h.2)]; exact hF.2 g hg⟩ (by rw [nm_up_ap, if_pos ⟨rfl, rfl⟩]) (by omega) q2 (fun j hj => ?_)
      · obtain ⟨b1, b2, b3, b4, b5, b6⟩ := hB
        exact ⟨fun q hq => by rw [hne 28 q (by decide)]; exact b1 q hq, b2, b3, by rw [hne 0 34 (by decide)]; exact b4, fun j hj => by rw [hne 32 j (by decide)]; exact b5 j hj, b6⟩
      · by_cases hjk : j = k
        · rw [hjk]
          omega
        · have := L4 j (by omega)
          omega
