/-! one place gone on from, one net flooded -/
section
variable {D cd : Nat → Bool} {jl : jo} {jn : Nat}
theorem nX_in {s p : Nat} {I I' : nm_I} {v v' : Nat → Bool} {cnt c' : Nat} {qu q' : Nat → Nat} (h : nX D cd jl jn s p I v cnt qu I' v' c' q') : nIv I' D cd jl jn s p v' c' q' := h.1
set_option maxHeartbeats 1000000 in
theorem w_njoints {I0 : nm_I} {s p : Nat} (hp : p < 65536) (hb : nBv I0 D cd jl jn p) (hjk : jok jl jn) (hs : nls D cd jl jn s = true) {v0 : Nat → Bool} {cnt0 : Nat} {qu0 : Nat → Nat} (hB0 : nIv I0 D cd jl jn s p v0 cnt0 qu0) {t : Nat} (ht : v0 t = true) :
    wp (f_X12_goesOnFrom_L74 (zI ((t % 4096 : Nat) : Int)) (zI ((t / 4096 : Nat) : Int)) nm_F (zI 0) I0) (fun I' => ∃ v' cnt' qu', nX D cd jl jn s p I0 v0 cnt0 qu0 I' v' cnt' qu' ∧ ∀ j, j < jn → ∀ u, (Ajo D (jl j) (nR D cd) t u ∨ Ajo D (jl j) (nR D cd) u t) → v' u = true) := by
  obtain ⟨hjn, hjk⟩ := hjk
  obtain ⟨t1, t2, t3⟩ := hB0.2.1 t ht
  have key : ∀ (f i : Nat) (S : nm_I) (v : Nat → Bool) (cnt : Nat) (qu : Nat → Nat), i ≤ jn → jn - i < f → nX D cd jl jn s p I0 v0 cnt0 qu0 S v cnt qu → (∀ j, j < i → ∀ u, (Ajo D (jl j) (nR D cd) t u ∨ Ajo D (jl j) (nR D cd) u t) → v u = true) →
      wp (f_X12_goesOnFrom_L74 (zI ((t % 4096 : Nat) : Int)) (zI ((t / 4096 : Nat) : Int)) f (zI (i : Nat)) S) (fun I' => ∃ v' cnt' qu', nX D cd jl jn s p I0 v0 cnt0 qu0 I' v' cnt' qu' ∧ ∀ j, j < jn → ∀ u, (Ajo D (jl j) (nR D cd) t u ∨ Ajo D (jl j) (nR D cd) u t) → v' u = true) := by
    intro f
    induction f with
    | zero => intro i S v cnt qu h1 h2; omega
    | succ f ih =>
      intro i S v cnt qu hi hf hX hI
      have hbS : nBv S D cd jl jn p := nB_m hb hX.2.2.2.2
      have hbS' := hbS
      obtain ⟨hO, hcd, ⟨hj0, hj⟩, h57⟩ := hbS'
      rw [f_X12_goesOnFrom_L74, hj0]
      simp (disch := omega) only [zI_le]
      refine wp_if (fun h => ?_) (fun h => ?_)
      · have : i = jn := by omega
        subst this
        exact wp_r ⟨v, cnt, qu, hX, hI⟩
      obtain ⟨k1, k2, k3⟩ := hjk i (by omega)
      obtain ⟨j1, j2, j3⟩ := hj i (by omega)
      have hmul : ∀ k : Nat, (4096 : Int32) * zI (k : Nat) + zI ((t % 4096 : Nat) : Int) = zI ((4096 * k + t % 4096 : Nat) : Int) := fun k => by rw [show (4096 : Int32) = zI 4096 from rfl, zI_mul, zI_add]; rfl
      rw [nm_cz (by omega) (by omega) (by omega), zI_cl (by omega) (by omega), Int.toNat_natCast, j2, hmul, nm_cz (by omega) (by omega) (by omega), zI_cl (by omega) (by omega), Int.toNat_natCast]
      have hnext : ∀ (S' : nm_I) (v' : Nat → Bool) (c' : Nat) (q' : Nat → Nat), nX D cd jl jn s p S v cnt qu S' v' c' q' → (∀ u, (Ajo D (jl i) (nR D cd) t u ∨ Ajo D (jl i) (nR D cd) u t) → v' u = true) → wp (f_X12_goesOnFrom_J163 (zI (i : Nat)) S' (f_X12_goesOnFrom_L74 (zI ((t % 4096 : Nat) : Int)) (zI ((t / 4096 : Nat) : Int)) f)) (fun I' => ∃ v' cnt' qu', nX D cd jl jn s p I0 v0 cnt0 qu0 I' v' cnt' qu' ∧ ∀ j, j < jn → ∀ u, (Ajo D (jl j) (nR D cd) t u ∨ Ajo D (jl j) (nR D cd) u t) → v' u = true) := by
        intro S' v' c' q' y1 y2
        unfold f_X12_goesOnFrom_J163
        rw [zI_inc]
        refine ih (i + 1) S' v' c' q' (by omega) (by omega) (nX_tr hX y1) (fun j hj9 u hu => ?_)
        by_cases hji : j = i
        · subst hji
          exact y2 u hu
        · exact y1.2.1 u (hI j (by omega) u hu)
      have oa := oR_0 hO (p := 4096 * (jl i).2.1 + t % 4096) (by omega)
      refine wp_if (fun h2 => ?_) (fun h2 => ?_)
      · have hD := oa.mp h2
        refine hnext S v cnt qu (nX_rf hX.1) (fun u hu => ?_)
        exfalso
        rcases hu with ⟨x, x1, x2, x3, x4, x5, x6⟩ | ⟨x, x1, x2, x3, x4, x5, x6⟩
        · rw [show x = t % 4096 by omega, hD] at x6
          exact absurd x6 (by decide)
        · rw [show x = t % 4096 by omega, hD] at x6
          exact absurd x6 (by decide)
      have hD : D (4096 * (jl i).2.1 + t % 4096) = true := by
        cases hd : D (4096 * (jl i).2.1 + t % 4096) with
        | true => rfl
        | false => exact absurd (oa.mpr hd) h2
      have h135 : ∀ (S' : nm_I) (v' : Nat → Bool) (c' : Nat) (q' : Nat → Nat), nX D cd jl jn s p S v cnt qu S' v' c' q' → (∀ u, Ajo D (jl i) (nR D cd) t u → v' u = true) → wp (f_X12_goesOnFrom_J135 (zI ((t % 4096 : Nat) : Int)) (zI ((t / 4096 : Nat) : Int)) (zI (i : Nat)) S' (f_X12_goesOnFrom_L74 (zI ((t % 4096 : Nat) : Int)) (zI ((t / 4096 : Nat) : Int)) f)) (fun I' => ∃ v' cnt' qu', nX D cd jl jn s p I0 v0 cnt0 qu0 I' v' cnt' qu' ∧ ∀ j, j < jn → ∀ u, (Ajo D (jl j) (nR D cd) t u ∨ Ajo D (jl j) (nR D cd) u t) → v' u = true) := by
        intro S' v' c' q' y1 y2
        have hbS2 : nBv S' D cd jl jn p := nB_m hbS y1.2.2.2.2
        obtain ⟨l1, l2, l3⟩ := hbS2.2.2.1.2 i (by omega)
        unfold f_X12_goesOnFrom_J135
        rw [nm_cz (by omega) (by omega) (by omega), zI_cl (by omega) (by omega), Int.toNat_natCast, l3]
        simp (disch := omega) only [zI_eq]
        refine wp_if (fun h3 => ?_) (fun h3 => ?_)
        · rw [nm_cz (by omega) (by omega) (by omega), l1, hmul]
          refine wp_s1 _ (w_reaches hp hbS2 hs y1.1 (t := 4096 * (jl i).1 + t % 4096) (by omega) (fun hr => ?_)) ?_
          · refine CN_tr _ _ _ t3 (Cn_sy (Cn_of (Or.inr (Or.inr ⟨i, by omega, t % 4096, by omega, rfl, by omega, hr, t2, hD⟩))))
          rintro S3 ⟨v3, c3, q3, z1, z2⟩
          refine hnext S3 v3 c3 q3 (nX_tr y1 z1) (fun u hu => ?_)
          rcases hu with hu | ⟨x, x1, x2, x3, x4, x5, x6⟩
          · exact z1.2.1 u (y2 u hu)
          · have e : 4096 * (jl i).1 + t % 4096 = u := by omega
            rw [← e]
            exact z2 (by rw [e]; exact x4)
        · refine hnext S' v' c' q' y1 (fun u hu => ?_)
          rcases hu with hu | ⟨x, x1, x2, x3, x4, x5, x6⟩
          · exact y2 u hu
          · exfalso
            omega
      rw [nm_cz (by omega) (by omega) (by omega), j1]
      simp (disch := omega) only [zI_eq]
      refine wp_if (fun h3 => ?_) (fun h3 => ?_)
      · rw [nm_cz (by omega) (by omega) (by omega), j3, hmul]
        refine wp_s1 _ (w_reaches hp hbS hs hX.1 (t := 4096 * (jl i).2.2 + t % 4096) (by omega) (fun hr => ?_)) ?_
        · refine CN_tr _ _ _ t3 (Cn_of (Or.inr (Or.inr ⟨i, by omega, t % 4096, by omega, by omega, rfl, t2, hr, hD⟩)))
        rintro S3 ⟨v3, c3, q3, z1, z2⟩
        refine h135 S3 v3 c3 q3 z1 (fun u hu => ?_)
        obtain ⟨x, x1, x2, x3, x4, x5, x6⟩ := hu
        have e : 4096 * (jl i).2.2 + t % 4096 = u := by omega
        rw [← e]
        exact z2 (by rw [e]; exact x5)
      · refine h135 S v cnt qu (nX_rf hX.1) (fun u hu => ?_)
        obtain ⟨x, x1, x2, x3, x4, x5, x6⟩ := hu
        exfalso
        omega
  exact key nm_F 0 I0 v0 cnt0 qu0 (by omega) (by rw [nm_F_eq]; omega) (nX_rf hB0) (fun j hj => absurd hj (Nat.not_lt_zero _))
set_option maxHeartbeats 1000000 in
theorem w_goesOnFrom {I : nm_I} {s p : Nat} (hp : p < 65536) (hb : nBv I D cd jl jn p) (hjk : jok jl jn) (hs : nls D cd jl jn s = true) {v : Nat → Bool} {cnt : Nat} {qu : Nat → Nat} (hB : nIv I D cd jl jn s p v cnt qu) {t : Nat} (ht : v t = true) :
    wp (f_X12_goesOnFrom (zI (t : Nat)) I) (fun I' => ∃ v' cnt' qu', nX D cd jl jn s p I v cnt qu I' v' cnt' qu' ∧ ∀ u, (An D cd jl jn t u ∨ An D cd jl jn u t) → v' u = true) := by
  obtain ⟨t1, t2, t3⟩ := hB.2.1 t ht
  have e1 : zI (t : Nat) - zI (t : Nat) / (4096 : Int32) * (4096 : Int32) = zI ((t % 4096 : Nat) : Int) := by
    rw [show (4096 : Int32) = zI 4096 from rfl, md (by omega) (by omega) (by omega) (by omega)]
    rfl
  have e2 : zI (t : Nat) / (4096 : Int32) = zI ((t / 4096 : Nat) : Int) := by
    rw [show (4096 : Int32) = zI 4096 from rfl, zI_div (by omega) (by omega) (by omega) (by omega)]
    rfl
  have e3 : zI ((t % 4096 : Nat) : Int) - zI ((t % 4096 : Nat) : Int) / (64 : Int32) * (64 : Int32) = zI ((t % 64 : Nat) : Int) := by
    rw [show (64 : Int32) = zI 64 from rfl, md (by omega) (by omega) (by omega) (by omega)]
    exact congrArg zI (by omega)
  unfold f_X12_goesOnFrom
  rw [e1, e2, nm_l_eq, nm_l_eq, e3, zI_0, show (1 : Int32) = zI 1 from rfl, zI_sub]
  simp (disch := omega) only [zI_le]
  refine w_nstage (u := t - 1) hp hb hs hB (fun hc => ⟨by omega, congrArg zI (by omega), fun hr => CN_tr _ _ _ t3 (Cn_sy (Cn_of (Or.inl ⟨by omega, by omega, hr, t2⟩)))⟩) ?_
  intro I2 v2 c2 q2 x2 y2
  have b2 := nB_m hb x2.2.2.2.2
  unfold f_X12_goesOnFrom_J26
  rw [e3, show (63 : Int32) = zI 63 from rfl, show (1 : Int32) = zI 1 from rfl, zI_add]
  simp (disch := omega) only [zI_le]
  refine w_nstage (u := t + 1) hp b2 hs x2.1 (fun hc => ⟨by omega, congrArg zI (by omega), fun hr => CN_tr _ _ _ t3 (Cn_of (Or.inl ⟨by omega, by omega, t2, hr⟩))⟩) ?_
  intro I3 v3 c3 q3 x3 y3
  have b3 := nB_m b2 x3.2.2.2.2
  unfold f_X12_goesOnFrom_J42
  rw [show (64 : Int32) = zI 64 from rfl, zI_sub]
  simp (disch := omega) only [zI_lt]
  refine w_nstage (u := t - 64) hp b3 hs x3.1 (fun hc => ⟨by omega, congrArg zI (by omega), fun hr => CN_tr _ _ _ t3 (Cn_sy (Cn_of (Or.inr (Or.inl ⟨by omega, by omega, hr, t2⟩))))⟩) ?_
  intro I4 v4 c4 q4 x4 y4
  have b4 := nB_m b3 x4.2.2.2.2
  unfold f_X12_goesOnFrom_J56
  rw [show (4032 : Int32) = zI 4032 from rfl, show (64 : Int32) = zI 64 from rfl, zI_add]
  simp (disch := omega) only [zI_le]
  refine w_nstage (u := t + 64) hp b4 hs x4.1 (fun hc => ?_) ?_
  · by_cases h6 : t + 64 < 65536
    · exact ⟨h6, congrArg zI (by omega), fun hr => CN_tr _ _ _ t3 (Cn_of (Or.inr (Or.inl ⟨by omega, by omega, t2, hr⟩)))⟩
    · exfalso
      omega
  intro I5 v5 c5 q5 x5 y5
  have b5 := nB_m b4 x5.2.2.2.2
  have x15 := nX_tr (nX_tr (nX_tr x2 x3) x4) x5
  unfold f_X12_goesOnFrom_J71
  rw [zI_0]
  refine wp_s1 _ (w_njoints hp b5 hjk hs x5.1 (x15.2.1 t ht)) ?_
  rintro I6 ⟨v6, c6, q6, x6, y6⟩
  have m2 : ∀ q, v2 q = true → v6 q = true := fun q h => x6.2.1 q (x5.2.1 q (x4.2.1 q (x3.2.1 q h)))
  have m3 : ∀ q, v3 q = true → v6 q = true := fun q h => x6.2.1 q (x5.2.1 q (x4.2.1 q h))
  have m4 : ∀ q, v4 q = true → v6 q = true := fun q h => x6.2.1 q (x5.2.1 q h)
  refine wp_r ⟨v6, c6, q6, nX_tr x15 x6, fun u hu => ?_⟩
  rcases hu with (⟨u1, u2, u3, u4⟩ | ⟨u1, u2, u3, u4⟩ | ⟨j, hj, hu⟩) | (⟨u1, u2, u3, u4⟩ | ⟨u1, u2, u3, u4⟩ | ⟨j, hj, hu⟩)
  · subst u1
    exact m3 _ (y3 (by omega) u4)
  · subst u1
    exact x6.2.1 _ (y5 (by omega) u4)
  · exact y6 j hj u (Or.inl hu)
  · have e : t - 1 = u := by omega
    rw [← e]
    exact m2 _ (y2 (by omega) (by rw [e]; exact u3))
  · have e : t - 64 = u := by omega
    rw [← e]
    exact m4 _ (y4 (by omega) (by rw [e]; exact u3))
  · exact y6 j hj u (Or.inr hu)
theorem w_nflood {I0 : nm_I} {s p : Nat} (hp : p < 65536) (hb : nBv I0 D cd jl jn p) (hjk : jok jl jn) (hs : nls D cd jl jn s = true) {v0 : Nat → Bool} {cnt0 : Nat} {qu0 : Nat → Nat} (hB0 : nIv I0 D cd jl jn s p v0 cnt0 qu0) (hv0 : v0 s = true) :
    wp (f_X12_findNets_L80 nm_F (zI 0) I0) (fun I' => (∀ q, q < 65536 → I' 59 q = zI (if nR D cd q = true ∧ nld D cd jl jn q = s then (p : Int) else if nR D cd q = true ∧ nld D cd jl jn q < s then nlb D cd jl jn q else -1)) ∧ nmF I0 I') := by
  have key : ∀ (f k : Nat) (S : nm_I) (v : Nat → Bool) (cnt : Nat) (qu : Nat → Nat), 65536 - k < f → k ≤ cnt → nX D cd jl jn s p I0 v0 cnt0 qu0 S v cnt qu → (∀ j, j < k → ∀ u, (An D cd jl jn (qu j) u ∨ An D cd jl jn u (qu j)) → v u = true) →
      wp (f_X12_findNets_L80 f (zI (k : Nat)) S) (fun I' => (∀ q, q < 65536 → I' 59 q = zI (if nR D cd q = true ∧ nld D cd jl jn q = s then (p : Int) else if nR D cd q = true ∧ nld D cd jl jn q < s then nlb D cd jl jn q else -1)) ∧ nmF I0 I') := by
    intro f
    induction f with
    | zero => intro k S v cnt qu h1; omega
    | succ f ih =>
      intro k S v cnt qu hf hk hX hI
      have hXB := hX.1
      obtain ⟨z1, z2, z3, z4, z5, z6⟩ := hXB
      have hcnt : cnt ≤ 65536 := by
        rw [← z3]
        exact pc_le _ _
      rw [f_X12_findNets_L80, z4]
      simp (disch := omega) only [zI_le]
      refine wp_if (fun h => wp_r ⟨?_, hX.2.2.2.2⟩) (fun h => ?_)
      · have hkc : k = cnt := by omega
        subst hkc
        have hcl : ∀ x y, An D cd jl jn x y → (v x = true ↔ v y = true) := by
          intro x y hxy
          constructor
          · intro hx
            obtain ⟨j, j1, j2⟩ := z6 x hx
            exact hI j j1 y (Or.inl (by rw [j2]; exact hxy))
          · intro hy
            obtain ⟨j, j1, j2⟩ := z6 y hy
            exact hI j j1 x (Or.inr (by rw [j2]; exact hxy))
        have hall : ∀ q, CQn D cd jl jn s q → v q = true := fun q hq => Cn_set (fun z => v z = true) hcl hq (hX.2.1 s hv0)
        intro q hq
        rw [z1 q hq]
        by_cases hc : nR D cd q = true ∧ nld D cd jl jn q = s
        · rw [if_pos hc, if_pos (hall q ((nld_eq hc.1 hs).mp hc.2))]
        · rw [if_neg hc, if_neg]
          intro hvq
          obtain ⟨x1, x2, x3⟩ := z2 q hvq
          exact hc ⟨x2, (nld_eq x2 hs).mpr x3⟩
      · obtain ⟨q1, q2, q3⟩ := z5 k (by omega)
        rw [nm_cz (by omega) (by omega) (by omega), zI_cl (by omega) (by omega), Int.toNat_natCast, q3]
        refine wp_s1 _ (w_goesOnFrom hp (nB_m hb hX.2.2.2.2) hjk hs hX.1 q2) ?_
        rintro S2 ⟨v2, c2, qu2, x1, x2⟩
        rw [zI_inc]
        refine ih (k + 1) S2 v2 c2 qu2 (by omega) (by have := x1.2.2.1; omega) (nX_tr hX x1) (fun j hj u hu => ?_)
        rw [x1.2.2.2.1 j (by omega)] at hu
        by_cases hjk9 : j = k
        · subst hjk9
          exact x2 u hu
        · exact x1.2.1 u (hI j (by omega) u hu)
  exact key nm_F 0 I0 v0 cnt0 qu0 (by rw [nm_F_eq]; omega) (Nat.zero_le _) (nX_rf hB0) (fun j hj => absurd hj (Nat.not_lt_zero _))
/-- the nets, as the reference holds them -/
def tNv (I : nm_I) (D cd : Nat → Bool) (jl : jo) (jn : Nat) : Prop := (∀ q, q < 65536 → I 59 q = zI (nlb D cd jl jn q)) ∧ I 0 57 = zI ((pc (nls D cd jl jn) 65536 : Nat) : Int)
def nfF (I I' : nm_I) : Prop := ∀ n k, n ≠ 59 → n ≠ 60 → ¬ (n = 0 ∧ (k = 57 ∨ k = 60)) → I' n k = I n k
set_option maxHeartbeats 1000000 in
theorem w_findNetsO {I : nm_I} (hO : oR I D) (hcd : cR I cd) (hjk : jok jl jn) (hj : jO I jl jn) : wp (f_X12_findNets I) (fun I' => tNv I' D cd jl jn ∧ nfF I I') := by
  unfold f_X12_findNets
  refine wp_s1 (fun I1 => (∀ q, q < 65536 → I1 59 q = zI (-1)) ∧ ∀ n k, n ≠ 59 → I1 n k = I n k) ?_ ?_
  · have key : ∀ (f k : Nat) (S : nm_I), k ≤ 65536 → 65536 - k < f → (∀ q, q < k → S 59 q = zI (-1)) → (∀ n k, n ≠ 59 → S n k = I n k) → wp (f_X12_findNets_L2 f (zI (k : Nat)) S) (fun I1 => (∀ q, q < 65536 → I1 59 q = zI (-1)) ∧ ∀ n k, n ≠ 59 → I1 n k = I n k) := by
      intro f
      induction f with
      | zero => intro k S h1 h2; omega
      | succ f ih =>
        intro k S hk hf hI hF
        rw [f_X12_findNets_L2, show (65536 : Int32) = zI 65536 from rfl, show (-1 : Int32) = zI (-1) from rfl]
        simp (disch := omega) only [zI_le]
        refine wp_if (fun h => ?_) (fun h => ?_)
        · have : k = 65536 := by omega
          subst this
          exact wp_r ⟨hI, hF⟩
        rw [nm_cz (by omega) (by omega) (by omega), zI_cl (by omega) (by omega), Int.toNat_natCast, nm_l_eq, zI_inc]
        refine ih (k + 1) _ (by omega) (by omega) (fun q hq => ?_) (fun n j hn => ?_)
        · rw [nm_up_ap]
          by_cases hqk : q = k
          · rw [if_pos ⟨rfl, hqk⟩]
          · rw [if_neg (fun h => hqk h.2)]
            exact hI q (by omega)
        · rw [nm_up_ap, if_neg (fun h => hn h.1)]
          exact hF n j hn
    rw [zI_0]
    exact key nm_F 0 I (by omega) (by rw [nm_F_eq]; omega) (fun q hq => absurd hq (Nat.not_lt_zero _)) (fun _ _ _ => rfl)
  rintro I1 ⟨h1, h2⟩
  rw [nm_l_eq]
  have key : ∀ (f k : Nat) (S : nm_I), k ≤ 65536 → 65536 - k < f → (∀ q, q < 65536 → S 59 q = zI (if nR D cd q = true ∧ nld D cd jl jn q < k then nlb D cd jl jn q else -1)) → S 0 57 = zI ((pc (nls D cd jl jn) k : Nat) : Int) → nfF I S → wp (f_X12_findNets_L28 f (zI (k : Nat)) S) (fun I' => tNv I' D cd jl jn ∧ nfF I I') := by
    intro f
    induction f with
    | zero => intro k S h1 h2; omega
    | succ f ih =>
      intro s S hk hf hI h57 hF
      rw [f_X12_findNets_L28, show (65536 : Int32) = zI 65536 from rfl]
      simp (disch := omega) only [zI_le]
      refine wp_if (fun h => ?_) (fun h => ?_)
      · have : s = 65536 := by omega
        subst this
        refine wp_r ⟨⟨fun q hq => ?_, h57⟩, hF⟩
        rw [hI q hq]
        congr 1
        cases hr : nR D cd q with
        | false =>
          rw [if_neg (fun h => absurd h.1 (by decide))]
          simp [nlb, hr]
        | true =>
          rw [if_pos ⟨rfl, by have := (nldP (jl := jl) (jn := jn) hr).1; omega⟩]
      have hs6 : s < 65536 := by omega
      have hOS : oR S D := oR_fr hO (fun k => hF 20 k (by omega) (by omega) (by omega))
      have hcS : cR S cd := fun l hl => (hF _ _ (by omega) (by omega) (by omega)).trans (hcd l hl)
      have hjS : jO S jl jn := ⟨(hF _ _ (by omega) (by omega) (by omega)).trans hj.1, fun i hi => by
        obtain ⟨a, b, c⟩ := hj.2 i hi
        exact ⟨(hF _ _ (by omega) (by omega) (by omega)).trans a, (hF _ _ (by omega) (by omega) (by omega)).trans b, (hF _ _ (by omega) (by omega) (by omega)).trans c⟩⟩
      have hskip : nls D cd jl jn s = false → wp (f_X12_findNets_J114 (zI (s : Nat)) S (f_X12_findNets_L28 f)) (fun I' => tNv I' D cd jl jn ∧ nfF I I') := by
        intro hl
        unfold f_X12_findNets_J114
        rw [zI_inc]
        have hp : pc (nls D cd jl jn) (s + 1) = pc (nls D cd jl jn) s := by
          rw [pc_s, hl]
          rfl
        refine ih (s + 1) S (by omega) (by omega) (fun q hq => ?_) (by rw [hp]; exact h57) hF
        rw [hI q hq]
        congr 1
        by_cases hc : nR D cd q = true ∧ nld D cd jl jn q < s
        · rw [if_pos hc, if_pos ⟨hc.1, by omega⟩]
        · rw [if_neg hc, if_neg]
          rintro ⟨c1, c2⟩
          have c3 : nld D cd jl jn q = s := by
            have : ¬ nld D cd jl jn q < s := fun h => hc ⟨c1, h⟩
            omega
          have := (nldP (jl := jl) (jn := jn) c1).2.1
          rw [c3, hl] at this
          exact absurd this (by decide)
      have hnor : nR D cd s = false → nls D cd jl jn s = false := by
        intro hr
        cases hl : nls D cd jl jn s with
        | false => rfl
        | true =>
          have := (bP_t.mp hl).1
          rw [hr] at this
          exact absurd this (by decide)
      rw [show (4096 : Int32) = zI 4096 from rfl, zI_div (by omega) (by omega) (by omega) (by omega), nm_cz (by omega) (by omega) (by omega), zI_cl (by omega) (by omega), Int.toNat_natCast, zI_cl (by omega) (by omega), nm_cz (by omega) (by omega) (by omega), nm_cz (by omega) (by omega) (by omega), show (((s : Nat) : Int) / 4096).toNat = s / 4096 by omega]
      have oa := oR_0 hOS hs6
      have oc := cR_0 hcS (l := s / 4096) (by omega)
      refine wp_if (fun h => hskip (hnor ?_)) (fun ha => ?_)
      · unfold nR
        rw [oa.mp h, Bool.and_false, Bool.and_false]
      refine wp_if (fun h => hskip (hnor ?_)) (fun hcc => ?_)
      · unfold nR
        rw [oc.mp h, Bool.false_and, Bool.and_false]
      have hr : nR D cd s = true := by
        unfold nR
        have x1 : D s = true := by
          cases hd : D s with
          | true => rfl
          | false => exact absurd (oa.mpr hd) ha
        have x2 : cd (s / 4096) = true := by
          cases hd : cd (s / 4096) with
          | true => rfl
          | false => exact absurd (oc.mpr hd) hcc
        rw [x1, x2, decide_eq_true hs6]
        rfl
      have hlr := Lab_rng (nLab (D := D) (cd := cd) (jl := jl) (jn := jn) 65536) (q := s) hs6
      have hcb := pc_le (nls D cd jl jn) 65536
      rw [hI s hs6, zI_0]
      by_cases hls : nld D cd jl jn s < s
      · rw [if_pos (show nR D cd s = true ∧ nld D cd jl jn s < s from ⟨hr, hls⟩)]
        have h9 := hlr.2.2.mpr hr
        simp (disch := omega) only [zI_lt]
        rw [if_neg (by omega)]
        refine hskip ?_
        cases hl : nls D cd jl jn s with
        | false => rfl
        | true =>
          have := (nls_ld hr).mp hl
          omega
      · rw [if_neg (show ¬ (nR D cd s = true ∧ nld D cd jl jn s < s) from fun h => hls h.2)]
        have hle := (nldP (jl := jl) (jn := jn) hr).1
        have hld : nls D cd jl jn s = true := (nls_ld hr).mpr (by omega)
        have hpb := pc_lt (f := nls D cd jl jn) hs6 hld
        have hps : pc (nls D cd jl jn) (s + 1) = pc (nls D cd jl jn) s + 1 := by
          rw [pc_s, hld]
          rfl
        generalize hp : pc (nls D cd jl jn) s = p at *
        rw [if_pos (show zI (-1) < zI 0 by decide), nm_l_eq]
        obtain ⟨I3, hI3⟩ : ∃ I3, I3 = nm_up S 0 60 (zI 0) := ⟨_, rfl⟩
        rw [← hI3]
        have e3 : ∀ n k, ¬ (n = 0 ∧ k = 60) → I3 n k = S n k := fun n k h => by rw [hI3, nm_up_ap, if_neg h]
        have e60 : I3 0 60 = zI 0 := by rw [hI3, nm_up_ap, if_pos ⟨rfl, rfl⟩]
        clear hI3
        have hB : nIv I3 D cd jl jn s p (fun _ => false) 0 (fun _ => 0) := by
          refine ⟨fun q hq => ?_, fun q hq => absurd hq Bool.false_ne_true, pc_false (fun _ _ => rfl), e60, fun j hj => absurd hj (Nat.not_lt_zero _), fun q hq => absurd hq Bool.false_ne_true⟩
          rw [e3 _ _ (by omega), hI q hq]
          rfl
        have hb3 : nBv I3 D cd jl jn p := ⟨oR_fr hOS (fun k => e3 20 k (by omega)), fun l hl => (e3 _ _ (by omega)).trans (hcS l hl), ⟨(e3 _ _ (by omega)).trans hjS.1, fun i hi => by
          obtain ⟨a, b, c⟩ := hjS.2 i hi
          exact ⟨(e3 _ _ (by omega)).trans a, (e3 _ _ (by omega)).trans b, (e3 _ _ (by omega)).trans c⟩⟩, (e3 _ _ (by omega)).trans h57⟩
        refine wp_s1 _ (w_reaches (by omega) hb3 hld hB (t := s) hs6 (fun _ => CN_rf s)) ?_
        rintro I4 ⟨v, cnt, qu, m1, m2⟩
        refine wp_s1 _ (w_nflood (by omega) (nB_m hb3 m1.2.2.2.2) hjk hld m1.1 (m2 hr)) ?_
        rintro I5 ⟨f1, f2⟩
        have f3 : nmF I3 I5 := nmF_tr m1.2.2.2.2 f2
        have e57 : I5 0 57 = zI (p : Nat) := (f3 0 57 (by omega) (by omega) (by omega)).trans hb3.2.2.2
        rw [e57, nm_l_eq, zI_inc]
        unfold f_X12_findNets_J114
        rw [zI_inc]
        refine ih (s + 1) _ (by omega) (by omega) (fun q hq => ?_) ?_ (fun n k a b c => ?_)
        · rw [nm_up_ap, if_neg (by omega), f1 q hq]
          congr 1
          by_cases hc : nR D cd q = true ∧ nld D cd jl jn q = s
          · rw [if_pos hc, if_pos ⟨hc.1, by omega⟩, (nlb_eq hld).mpr hc, hp]
          · rw [if_neg hc]
            by_cases hc2 : nR D cd q = true ∧ nld D cd jl jn q < s
            · rw [if_pos hc2, if_pos ⟨hc2.1, by omega⟩]
            · rw [if_neg hc2, if_neg]
              rintro ⟨c1, c2⟩
              have : ¬ nld D cd jl jn q = s := fun h => hc ⟨c1, h⟩
              have : ¬ nld D cd jl jn q < s := fun h => hc2 ⟨c1, h⟩
              omega
        · rw [nm_up_ap, if_pos ⟨rfl, rfl⟩, hps]
          rfl
        · rw [nm_up_ap, if_neg (by omega), f3 n k a b (by omega), e3 n k (by omega)]
          exact hF n k a b c
  rw [zI_0]
  refine wp_s1 _ (key nm_F 0 _ (by omega) (by rw [nm_F_eq]; omega) (fun q hq => ?_) ?_ (fun n k a b c => ?_)) (fun _ h => wp_r h)
  · rw [nm_up_ap, if_neg (by omega), h1 q hq]
    congr 1
    rw [if_neg]
    rintro ⟨-, h⟩
    exact absurd h (Nat.not_lt_zero _)
  · rw [nm_up_ap, if_pos ⟨rfl, rfl⟩]
    rfl
  · rw [nm_up_ap, if_neg (by omega), h2 n k a]
end
