def gM (o : Nat) : Prop := gN o 64 ∧ o + 2 ∈ cl_dy ∧ o + 3 ∈ cl_dy ∧ o + 4 ∈ cl_dy ∧ cap (o + 2) = 8192 ∧ cap (o + 3) = 8192 ∧ cap (o + 4) = 8192
/-- one run more is measured -/
theorem gP_step {S S' : ca} {o : Nat} {r : Nat → Bool} {C : Nat → Nat → Prop} (hs9 : ∀ a b, C a b → C b a) (ht9 : ∀ a b c, C a b → C b c → C a c) {lab : Nat → Int} {cnt : Nat} (hL : Lab r C 4096 lab cnt) (hlr : ∀ p q, p < 4096 → q < 4096 → r p = true → r q = true → stp r p = stp r q → lab p = lab q) {y x s g0 : Nat} (hy : y < 64) (hx : x < 64) (hh : hdp r (64 * y + x) = true) (h1 : x + s ≤ 64) (h2 : ∀ j, x ≤ j → j < x + s → r (64 * y + j) = true) (h3 : x + s < 64 → r (64 * y + (x + s)) = false) (hg0 : lab (64 * y + x) = g0) (hI : gP S o r C lab cnt (64 * y + x))
    (m2 : ∀ g, g < cnt → S'.1.1 (o + 2) g = if g = g0 then S.1.1 (o + 2) g0 + zI s else S.1.1 (o + 2) g) (m3 : ∀ g, g < cnt → S'.1.1 (o + 3) g = if g = g0 ∧ S.1.1 (o + 2) g0 = 0 then zI ((64 * y + x : Nat) : Int) else S.1.1 (o + 3) g) (m4 : ∀ g, g < cnt → S'.1.1 (o + 4) g = if g = g0 then zI ((64 * y + x + s : Nat) - 1 : Int) else S.1.1 (o + 4) g) : gP S' o r C lab cnt (64 * y + x + 1) := by
  have hrP := hdp_r hh
  have hs1 : 1 ≤ s := by
    apply Classical.byContradiction
    intro hn
    have := h3 (by omega)
    rw [show x + s = x by omega, hrP] at this
    exact absurd this (by decide)
  have hpcP : pc (hdp r) (64 * y + x + 1) = pc (hdp r) (64 * y + x) + 1 := by
    rw [pc_s, hh]
    rfl
  have hrun := fun {q : Nat} (hq : r q = true) => run_stp hx hh h1 h2 h3 hq
  have hpr : ∀ q, prc r (64 * y + x + 1) q = (prc r (64 * y + x) q || (decide (64 * y + x ≤ q) && decide (q < 64 * y + x + s))) := by
    intro q
    unfold prc
    cases hq : r q with
    | false =>
      by_cases hin : 64 * y + x ≤ q ∧ q < 64 * y + x + s
      · have := h2 (q - 64 * y) (by omega) (by omega)
        rw [show 64 * y + (q - 64 * y) = q by omega, hq] at this
        exact absurd this (by decide)
      · by_cases ha : 64 * y + x ≤ q
        · have : ¬ q < 64 * y + x + s := fun h => hin ⟨ha, h⟩
          simp [this]
        · simp [ha]
    | true =>
      have e := hrun hq
      rw [hpcP]
      by_cases hin : 64 * y + x ≤ q ∧ q < 64 * y + x + s
      · have := e.mpr hin
        simp [this, hin.1, hin.2]
      · have hne : stp r q ≠ pc (hdp r) (64 * y + x) := fun h => hin (e.mp h)
        have e1 : decide (stp r q < pc (hdp r) (64 * y + x) + 1) = decide (stp r q < pc (hdp r) (64 * y + x)) := by
          apply decide_eq_decide.mpr
          omega
        rw [e1]
        by_cases ha : 64 * y + x ≤ q
        · have : ¬ q < 64 * y + x + s := fun h => hin ⟨ha, h⟩
          simp [this]
        · simp [ha]
  have hold : ∀ q, 64 * y + x ≤ q → q < 64 * y + x + s → prc r (64 * y + x) q = false ∧ r q = true ∧ lab q = g0 := by
    intro q a b
    have rq := h2 (q - 64 * y) (by omega) (by omega)
    rw [show 64 * y + (q - 64 * y) = q by omega] at rq
    have e := (hrun rq).mpr ⟨a, b⟩
    refine ⟨?_, rq, ?_⟩
    · unfold prc
      simp [rq, e]
    · rw [← hg0]
      exact hlr q _ (by omega) (by omega) rq hrP (by rw [e, stp_hd hh])
  have hbefore : ∀ q, prc r (64 * y + x) q = true → q < 64 * y + x := by
    intro q hq
    unfold prc at hq
    simp at hq
    apply Classical.byContradiction
    intro hn
    have := stp_mono (r := r) (show 64 * y + x ≤ q by omega)
    rw [stp_hd hh] at this
    omega
  intro g hg
  obtain ⟨i1, i2⟩ := hI g hg
  rw [m2 g hg, m3 g hg, m4 g hg]
  by_cases hgg : g = g0
  · subst hgg
    have hb1 : pc (fun q => prc r (64 * y + x) q && decide (lab q = (g : Int))) 4096 ≤ 4096 := pc_le _ _
    refine ⟨?_, fun q hq hpq hlq => ⟨?_, ?_⟩⟩
    · rw [if_pos rfl, i1, zI_add]
      refine congrArg zI ?_
      have := pc_run (f := fun q => prc r (64 * y + x) q && decide (lab q = (g : Int))) (g := fun q => prc r (64 * y + x + 1) q && decide (lab q = (g : Int))) (k := 64 * y + x) (s := s) (n := 4096) (by omega) (fun i hi => ?_) (fun i a b => ?_) (fun i a b => ?_)
      · rw [this]
        omega
      · show (prc r (64 * y + x + 1) i && decide (lab i = (g : Int))) = (prc r (64 * y + x) i && decide (lab i = (g : Int)))
        rw [hpr]
        by_cases ha : 64 * y + x ≤ i
        · have : ¬ i < 64 * y + x + s := by omega
          simp [this]
        · simp [ha]
      · simp [(hold i a b).1]
      · obtain ⟨z1, z2, z3⟩ := hold i a b
        show (prc r (64 * y + x + 1) i && decide (lab i = (g : Int))) = true
        rw [hpr, z3]
        simp [a, b]
    · by_cases hz : S.1.1 (o + 2) g = 0
      · rw [if_pos ⟨rfl, hz⟩]
        refine ⟨64 * y + x, by omega, ?_, ?_, rfl⟩
        · have hno : pc (fun q => prc r (64 * y + x) q && decide (lab q = (g : Int))) 4096 = 0 := by
            rw [i1, zI_lit] at hz
            have := zI_inj (by omega) (by omega) (by omega) (by omega) hz
            omega
          obtain ⟨d, d1, d2, d3, d4⟩ := hL.2.1 (64 * y + x) (by omega) hrP
          by_cases hd : d = 64 * y + x
          · rw [← hd]
            exact d2
          · exfalso
            have rd := (bP_t.mp d2).1
            have hld : lab d = lab (64 * y + x) := (Lab_eq hs9 ht9 hL (by omega) (by omega) rd hrP).mpr (hs9 _ _ d3)
            have hpd : prc r (64 * y + x) d = true := by
              unfold prc
              obtain ⟨p, a1, a2, a3, a4, a5, a6⟩ := stp_ex rd
              have := pc_mono (hdp r) (show d + 1 ≤ 64 * y + x by omega)
              simp [rd]
              omega
            have := pc_lt (f := fun q => prc r (64 * y + x) q && decide (lab q = (g : Int))) (k := d) (n := 4096) (by omega) (by simp [hpd, hld, hg0])
            omega
        · obtain ⟨d, d1, d2, d3, d4⟩ := hL.2.1 (64 * y + x) (by omega) hrP
          have hno : pc (fun q => prc r (64 * y + x) q && decide (lab q = (g : Int))) 4096 = 0 := by
            rw [i1, zI_lit] at hz
            have := zI_inj (by omega) (by omega) (by omega) (by omega) hz
            omega
          by_cases hd : d = 64 * y + x
          · rw [← hd]
            omega
          · exfalso
            have rd := (bP_t.mp d2).1
            have hld : lab d = lab (64 * y + x) := (Lab_eq hs9 ht9 hL (by omega) (by omega) rd hrP).mpr (hs9 _ _ d3)
            have hpd : prc r (64 * y + x) d = true := by
              unfold prc
              obtain ⟨p, a1, a2, a3, a4, a5, a6⟩ := stp_ex rd
              have := pc_mono (hdp r) (show d + 1 ≤ 64 * y + x by omega)
              simp [rd]
              omega
            have := pc_lt (f := fun q => prc r (64 * y + x) q && decide (lab q = (g : Int))) (k := d) (n := 4096) (by omega) (by simp [hpd, hld, hg0])
            omega
      · rw [if_neg (fun h => hz h.2)]
        have hne : pc (fun q => prc r (64 * y + x) q && decide (lab q = (g : Int))) 4096 ≠ 0 := by
          intro h
          apply hz
          rw [i1, h]
          rfl
        obtain ⟨q0, q1, q2⟩ := pc_pos hne
        simp at q2
        exact (i2 q0 q1 q2.1 q2.2).1
    · rw [if_pos rfl]
      refine ⟨64 * y + x + s - 1, by omega, ?_, (hold _ (by omega) (by omega)).2.2, ?_, ?_⟩
      · rw [hpr]
        have a : 64 * y + x ≤ 64 * y + x + s - 1 := by omega
        have b : 64 * y + x + s - 1 < 64 * y + x + s := by omega
        simp [a, b]
      · intro q' hq' hp' _
        rw [hpr] at hp'
        simp at hp'
        rcases hp' with h | h
        · have := hbefore q' h
          omega
        · omega
      · congr 1
        omega
  · rw [if_neg hgg, if_neg hgg, if_neg (fun h => hgg h.1)]
    have hsame : ∀ q, q < 4096 → lab q = g → prc r (64 * y + x + 1) q = prc r (64 * y + x) q := by
      intro q hq hl
      rw [hpr]
      by_cases hin : 64 * y + x ≤ q ∧ q < 64 * y + x + s
      · have := (hold q hin.1 hin.2).2.2
        omega
      · by_cases ha : 64 * y + x ≤ q
        · have : ¬ q < 64 * y + x + s := fun h => hin ⟨ha, h⟩
          simp [this]
        · simp [ha]
    refine ⟨?_, fun q hq hpq hlq => ?_⟩
    · rw [i1]
      refine congrArg (fun n : Nat => zI (n : Int)) ?_
      apply pc_congr
      intro q hq
      by_cases hl : lab q = g
      · rw [hsame q hq hl]
      · simp [hl]
    · rw [hsame q hq hlq] at hpq
      obtain ⟨k1, e, k2, k3, k4, k5, k6⟩ := i2 q hq hpq hlq
      exact ⟨k1, e, k2, by rw [hsame e k2 k4]; exact k3, k4, fun q' h h' h'' => k5 q' h (by rw [← hsame q' h h'']; exact h') h'', k6⟩
theorem gP_skip {S : ca} {o : Nat} {r : Nat → Bool} {C : Nat → Nat → Prop} {lab : Nat → Int} {cnt P : Nat} (hh : hdp r P = false) (hI : gP S o r C lab cnt P) : gP S o r C lab cnt (P + 1) := by
  have e : ∀ q, prc r (P + 1) q = prc r P q := by
    intro q
    unfold prc
    rw [pc_s, hh]
    rfl
  intro g hg
  obtain ⟨i1, i2⟩ := hI g hg
  refine ⟨?_, fun q hq hpq hlq => ?_⟩
  · rw [i1]
    refine congrArg (fun n : Nat => zI (n : Int)) ?_
    apply pc_congr
    intro q hq
    rw [e]
  · rw [e] at hpq
    obtain ⟨k1, e', k2, k3, k4, k5, k6⟩ := i2 q hq hpq hlq
    exact ⟨k1, e', k2, by rw [e]; exact k3, k4, fun q' h h' h'' => k5 q' h (by rw [← e]; exact h') h'', k6⟩
def frM (o : Nat) : Nat → Nat → Prop := fun m _ => m = o + 2 ∨ m = o + 3 ∨ m = o + 4
theorem gD_fr {S S' : ca} {o Y : Nat} {r : Nat → Bool} {C : Nat → Nat → Prop} {lab : Nat → Int} {cnt : Nat} (h : gD S o Y r C lab cnt) (hJ : S'.1.2 = S.1.2) (h6 : S'.2 (o + 6) = S.2 (o + 6)) (hf : fr S S' (fun m _ => m ≠ o ∧ m ≠ o + 5 ∧ m ≠ o + 6)) : gD S' o Y r C lab cnt := by
  obtain ⟨g1, g2, g3, g4, g5, g6, g7⟩ := h
  refine ⟨?_, ?_, ?_, ?_, by rw [h6]; exact g5, ?_, g7⟩
  · intro y x hy hx
    rw [hJ]
    exact g1 y x hy hx
  · intro y hy
    rw [hf _ _ (by omega)]
    exact g2 y hy
  · intro p hp hr
    rw [hf _ _ (by omega)]
    exact g3 p hp hr
  · rw [hf _ _ (by omega)]
    exact g4
  · rw [hf _ _ (by omega)]
    exact g6
set_option maxHeartbeats 4000000 in
theorem w_measure {o : Nat} (ho : gM o) {r : Nat → Bool} {C : Nat → Nat → Prop} (hs9 : ∀ a b, C a b → C b a) (ht9 : ∀ a b c, C a b → C b c → C a c) {lab : Nat → Int} {cnt : Nat} {S : ca} (hc : cO S.2) (hg : gD S o 64 r C lab cnt) :
    wc sN (f_X4_measure o S) S.2 (fun S' => gD S' o 64 r C lab cnt ∧ cO S'.2 ∧ cnt ≤ S'.2 (o + 2) ∧ cnt ≤ S'.2 (o + 3) ∧ cnt ≤ S'.2 (o + 4) ∧ (∀ g, g < cnt → ∃ a b c, Meas r C 4096 lab g a b c ∧ S'.1.1 (o + 2) g = zI a ∧ S'.1.1 (o + 3) g = zI b ∧ S'.1.1 (o + 4) g = zI c) ∧ S'.1.2 = S.1.2 ∧ (∀ x, x ≠ o + 2 → x ≠ o + 3 → x ≠ o + 4 → S'.2 x = S.2 x) ∧ fr S S' (frM o)) := by
  obtain ⟨hoN, d2, d3, d4, c2, c3, c4⟩ := ho
  have hoN9 := hoN
  obtain ⟨ho6, hcap, hY, hY1, hNl⟩ := hoN
  have hcnt : cnt ≤ 4096 := by
    rw [hg.2.2.2.2.2.2.2.2]
    exact pc_le _ _
  have hL := hg.2.2.2.2.2.2
  unfold f_X4_measure
  rw [hg.2.2.2.2.2.1]
  refine wc_a1 _ (w_grow d2 (m := cnt) (by omega) hc) ?_
  rintro S1 ⟨a1, a2, a3, a4, a5⟩
  rw [show S1.1.1 o 1 = zI ((cnt : Nat) : Int) by rw [a5 _ (by omega)]; exact hg.2.2.2.2.2.1]
  refine wc_a1 _ (w_grow d3 (m := cnt) (by omega) a2) ?_
  rintro S2 ⟨b1, b2, b3, b4, b5⟩
  rw [show S2.1.1 o 1 = zI ((cnt : Nat) : Int) by rw [b5 _ (by omega), a5 _ (by omega)]; exact hg.2.2.2.2.2.1]
  refine wc_a1 _ (w_grow d4 (m := cnt) (by omega) b2) ?_
  rintro S3 ⟨e1, e2, e3, e4, e5⟩
  have n2 : cnt ≤ S3.2 (o + 2) := by rw [e3 _ (by omega), b3 _ (by omega)]; exact a1
  have n3 : cnt ≤ S3.2 (o + 3) := by rw [e3 _ (by omega)]; exact b1
  have n2c := e2.2 (o + 2) d2
  rw [c2] at n2c
  rw [w_fillI (by omega)]
  simp only [nm_s1_some, nm_l_eq]
  generalize hS4 : ((va_up S3.1.1 (o + 2) (fun j => if j < S3.2 (o + 2) then 0 else S3.1.1 (o + 2) j), S3.1.2), S3.2) = S4
  have f4 : fr S S4 (frM o) := by
    intro m j hm
    unfold frM at hm
    rw [← hS4]
    show va_up S3.1.1 (o + 2) _ m j = _
    rw [va_up_ne _ _ (by omega), e5 _ (by omega), b5 _ (by omega), a5 _ (by omega)]
  have j4 : S4.1.2 = S.1.2 := by
    rw [← hS4]
    show S3.1.2 = _
    rw [e4, b4, a4]
  have l4 : S4.2 = S3.2 := by rw [← hS4]
  have lx : ∀ x, x ≠ o + 2 → x ≠ o + 3 → x ≠ o + 4 → S4.2 x = S.2 x := by
    intro x x1 x2 x3
    rw [l4, e3 _ x3, b3 _ x2, a3 _ x1]
  have g4 : gD S4 o 64 r C lab cnt := gD_fr hg j4 (lx _ (by omega) (by omega) (by omega)) (fr_mono f4 (fun m k h => by unfold frM at h; omega))
  have i4 : gP S4 o r C lab cnt 0 := by
    intro g hgc
    have hz : ∀ q, prc r 0 q = false := fun q => by
      unfold prc
      rw [show pc (hdp r) 0 = 0 from rfl]
      simp
    refine ⟨?_, fun q hq hpq => by rw [hz q] at hpq; exact absurd hpq (by decide)⟩
    rw [pc_false (fun i _ => by rw [hz i]; rfl), ← hS4]
    show va_up S3.1.1 (o + 2) _ (o + 2) g = _
    rw [va_up_self, if_pos (by omega)]
    rfl
  have hlr : ∀ p q, p < 4096 → q < 4096 → r p = true → r q = true → stp r p = stp r q → lab p = lab q := by
    intro p q hp hq rp rq h
    have k1 := g4.2.2.1 p hp rp
    have k2 := g4.2.2.1 q hq rq
    rw [h, k2] at k1
    have b1 := Lab_rng hL hp
    have b2 := Lab_rng hL hq
    exact (zI_inj (by omega) (by omega) (by omega) (by omega) k1).symm
  rw [show sN S3 = S4.2 from l4.symm]
  refine wc_s1 (fun S5 => gP S5 o r C lab cnt 4096 ∧ S5.2 = S4.2 ∧ S5.1.2 = S4.1.2 ∧ fr S4 S5 (frM o)) ?_ ?_
  · rw [zI_lit]
    refine lpc (fun f => f_X4_measure_L55 o f) _ 64 (fun k S5 => 0 ≤ k ∧ gP S5 o r C lab cnt (64 * k.toNat) ∧ S5.2 = S4.2 ∧ S5.1.2 = S4.1.2 ∧ fr S4 S5 (frM o)) ?_ ?_ nm_F 0 _ (by omega) (by rw [nm_F_eq]; omega) ⟨by omega, i4, rfl, rfl, fr_rf _ _⟩
    · rintro f k S5 hk ⟨h0, k1, k2, k3, k4⟩ hn9
      show wp (f_X4_measure_L55 o (f + 1) _ _) _
      obtain ⟨y, rfl⟩ := Int.eq_ofNat_of_zero_le h0
      have ey : ((y : Nat) : Int).toNat = y := rfl
      rw [ey] at k1
      have g5 : gD S5 o 64 r C lab cnt := gD_fr g4 k3 (by rw [k2]) (fr_mono k4 (fun m k h => by unfold frM at h; omega))
      have hl := hNl S5.2 (by rw [k2, l4]; exact e2.1)
      rw [f_X4_measure_L55, hl.1]
      simp (disch := omega) only [zI_le, nm_cz, zI_cl, nm_l_eq, zI_lit, zI_add]
      rw [if_neg (by omega), ey]
      refine wp_s1 (fun S6 => gP S6 o r C lab cnt (64 * y + 64) ∧ S6.2 = S4.2 ∧ S6.1.2 = S4.1.2 ∧ fr S4 S6 (frM o)) ?_ ?_
      · rw [bc_eq]
        have hhd : ∀ x, x < 64 → bx (f_X0_heads (S5.1.2 (o + 1) y)) x = hdp r (64 * y + x) := fun x hx => gR_hd g5.1 (by omega) hx
        have e0 : zI 0 = zI ((pc (bx (f_X0_heads (S5.1.2 (o + 1) y))) 0 : Nat) : Int) := rfl
        rw [e0]
        refine lpb (fun f => f_X4_measure_L80 o (zI y) (zI ((pc (bx (f_X0_heads (S5.1.2 (o + 1) y))) 64 : Nat) : Int)) f) _ (f_X0_heads (S5.1.2 (o + 1) y)) (fun p S6 => gP S6 o r C lab cnt (64 * y + p) ∧ S6.2 = S4.2 ∧ S6.1.2 = S4.1.2 ∧ fr S4 S6 (frM o)) ?_ ?_ ?_ nm_F 0 S5 _ (by omega) (fun x hx => by simp) (by rw [nm_F_eq]; omega) ⟨k1, k2, k3, k4⟩
        · rintro p S6 hp hb ⟨q1, q2, q3, q4⟩
          rw [hhd p hp] at hb
          exact ⟨gP_skip hb q1, q2, q3, q4⟩
        · rintro f' v i S6 x hx hb ⟨q1, q2, q3, q4⟩ hlow hi hlt hk9
          have hb' := hb
          rw [hhd x hx] at hb'
          subst hi
          rw [zI_lit, zI_add] at hk9
          have g6 : gD S6 o 64 r C lab cnt := gD_fr g4 q3 (by rw [q2]) (fr_mono q4 (fun m k h => by unfold frM at h; omega))
          have hl6 := hNl S6.2 (by rw [q2, l4]; exact e2.1)
          have hpc64 := pc_le (bx (f_X0_heads (S5.1.2 (o + 1) y))) 64
          have hcn := gR_cnt g5.1 (show y < 64 by omega) (show x ≤ 64 by omega)
          have hpcl := pc_le (hdp r) (64 * y + x)
          have hlt2 := pc_lt (f := hdp r) (show 64 * y + x < 64 * 64 by omega) hb'
          have hrP := hdp_r hb'
          show wp (f_X4_measure_L80 o (zI y) (zI ((pc (bx (f_X0_heads (S5.1.2 (o + 1) y))) 64 : Nat) : Int)) (f' + 1) v _ S6) _
          rw [f_X4_measure_L80, hl6.1, hl6.2]
          have n6 := g6.2.2.2.2.1
          have cp6 := cap_le (o + 6)
          have cq6 : S6.2 (o + 6) ≤ cap (o + 6) := by rw [q2, l4]; exact e2.2 _ ho6
          simp (disch := omega) only [zI_le, nm_cz, zI_cl, nm_l_eq]
          rw [if_neg (by omega), hlow, ey, g6.2.1 y (by omega)]
          simp (disch := omega) only [zI_add, zI_mul, zI_lit, nm_cz, zI_cl]
          have ei : (((pc (hdp r) (64 * y) : Nat) : Int) + ((pc (bx (f_X0_heads (S5.1.2 (o + 1) y))) x : Nat) : Int)).toNat = stp r (64 * y + x) := by
            rw [stp_hd hb', hcn]
            omega
          rw [ei, g6.2.2.1 _ (by omega) hrP]
          obtain ⟨s, hs, hst⟩ := bx_stretch (w := S6.1.2 (o + 1) y) hx
          obtain ⟨s1, s2, s3⟩ := hs
          rw [hst]
          have hrng := Lab_rng hL (show 64 * y + x < 64 * 64 by omega)
          have hge : 0 ≤ lab (64 * y + x) := hrng.2.2.mpr hrP
          obtain ⟨g0, hg0⟩ := Int.eq_ofNat_of_zero_le hge
          rw [hg0]
          have hg0c : g0 < cnt := by omega
          have s2' : ∀ j, x ≤ j → j < x + s → r (64 * y + j) = true := fun j j1 j2 => by rw [← g6.1 y j (by omega) (by omega)]; exact s2 j j1 j2
          have s3' : x + s < 64 → r (64 * y + (x + s)) = false := fun h => by rw [← g6.1 y (x + s) (by omega) h]; exact s3 h
          have l2 : cnt ≤ S6.2 (o + 2) := by rw [q2, l4]; exact n2
          have l3 : cnt ≤ S6.2 (o + 3) := by rw [q2, l4]; exact n3
          have l4' : cnt ≤ S6.2 (o + 4) := by rw [q2, l4]; exact e1
          unfold f_X4_measureStretch f_X4_measureStretch_J16
          simp (disch := omega) only [nm_cz, zI_cl, nm_l_eq, zI_add, zI_sub, zI_lit]
          have eg0 : ((g0 : Nat) : Int).toNat = g0 := rfl
          rw [eg0]
          by_cases hz : S6.1.1 (o + 2) g0 = zI 0
          · rw [if_pos hz]
            simp only [nm_s1_some]
            refine hk9 _ ⟨gP_step hs9 ht9 hL hlr (by omega) hx hb' s1 s2' s3' hg0 q1 ?_ ?_ ?_, q2, q3, fr_tr q4 ?_⟩
            · intro g hgc
              show nm_up _ _ _ _ _ _ = _
              rw [nm_up_ap, if_neg (by omega), nm_up_ap]
              by_cases hgg : g = g0
              · subst hgg
                rw [if_pos ⟨rfl, rfl⟩, if_pos rfl, nm_up_ap, if_neg (by omega)]
              · rw [if_neg (fun h => hgg h.2), if_neg hgg, nm_up_ap, if_neg (by omega)]
            · intro g hgc
              show nm_up _ _ _ _ _ _ = _
              rw [nm_up_ap, if_neg (by omega), nm_up_ap, if_neg (by omega), nm_up_ap]
              by_cases hgg : g = g0
              · subst hgg
                rw [if_pos ⟨rfl, rfl⟩, if_pos ⟨rfl, hz⟩]
                refine congrArg zI ?_
                omega
              · rw [if_neg (fun h => hgg h.2), if_neg (fun h => hgg h.1)]
            · intro g hgc
              show nm_up _ _ _ _ _ _ = _
              rw [nm_up_ap]
              by_cases hgg : g = g0
              · subst hgg
                rw [if_pos ⟨rfl, rfl⟩, if_pos rfl]
                refine congrArg zI ?_
                omega
              · rw [if_neg (fun h => hgg h.2), if_neg hgg, nm_up_ap, if_neg (by omega), nm_up_ap, if_neg (by omega)]
            · intro m j hm
              unfold frM at hm
              show nm_up _ _ _ _ _ _ = _
              rw [nm_up_ap, if_neg (by omega), nm_up_ap, if_neg (by omega), nm_up_ap, if_neg (by omega)]
          · rw [if_neg hz]
            simp only [nm_s1_some]
            refine hk9 _ ⟨gP_step hs9 ht9 hL hlr (by omega) hx hb' s1 s2' s3' hg0 q1 ?_ ?_ ?_, q2, q3, fr_tr q4 ?_⟩
            · intro g hgc
              show nm_up _ _ _ _ _ _ = _
              rw [nm_up_ap, if_neg (by omega), nm_up_ap]
              by_cases hgg : g = g0
              · subst hgg
                rw [if_pos ⟨rfl, rfl⟩, if_pos rfl]
              · rw [if_neg (fun h => hgg h.2), if_neg hgg]
            · intro g hgc
              show nm_up _ _ _ _ _ _ = _
              rw [nm_up_ap, if_neg (by omega), nm_up_ap, if_neg (by omega), if_neg (fun h => hz h.2)]
            · intro g hgc
              show nm_up _ _ _ _ _ _ = _
              rw [nm_up_ap]
              by_cases hgg : g = g0
              · subst hgg
                rw [if_pos ⟨rfl, rfl⟩, if_pos rfl]
                refine congrArg zI ?_
                omega
              · rw [if_neg (fun h => hgg h.2), if_neg hgg, nm_up_ap, if_neg (by omega)]
            · intro m j hm
              unfold frM at hm
              show nm_up _ _ _ _ _ _ = _
              rw [nm_up_ap, if_neg (by omega), nm_up_ap, if_neg (by omega)]
        · rintro f' v i S6 hi ⟨q1, q2, q3, q4⟩
          have hpc64 := pc_le (bx (f_X0_heads (S5.1.2 (o + 1) y))) 64
          subst hi
          show wp (f_X4_measure_L80 o (zI y) (zI ((pc (bx (f_X0_heads (S5.1.2 (o + 1) y))) 64 : Nat) : Int)) (f' + 1) v _ S6) _
          rw [f_X4_measure_L80]
          simp (disch := omega) only [zI_le, Int.le_refl, if_true]
          exact wp_r ⟨q1, q2, q3, q4⟩
      · rintro S6 ⟨q1, q2, q3, q4⟩
        refine hn9 _ ⟨by omega, ?_, q2, q3, q4⟩
        rw [show (((y : Nat) : Int) + 1).toNat = y + 1 by omega, show 64 * (y + 1) = 64 * y + 64 by omega]
        exact q1
    · rintro f S5 ⟨h0, k1, k2, k3, k4⟩
      show wp (f_X4_measure_L55 o (f + 1) _ _) _
      rw [f_X4_measure_L55]
      simp (disch := omega) only [zI_lit, zI_le, Int.le_refl, if_true]
      exact wp_r ⟨k1, k2, k3, k4⟩
  rintro S5 ⟨k1, k2, k3, k4⟩
  rw [← k2]
  refine wc_r ⟨gD_fr g4 k3 (by rw [k2]) (fr_mono k4 (fun m k h => by unfold frM at h; omega)), by rw [k2, l4]; exact e2, by rw [k2, l4]; exact n2, by rw [k2, l4]; exact n3, by rw [k2, l4]; exact e1, ?_, by rw [k3, j4], fun x x1 x2 x3 => by rw [k2, lx x x1 x2 x3], fr_tr f4 k4⟩
  intro g hgc
  obtain ⟨i1, i2⟩ := k1 g hgc
  have hpr : ∀ q, q < 4096 → prc r 4096 q = r q := by
    intro q hq
    unfold prc
    cases hr : r q with
    | false => rfl
    | true =>
      have := stp_lt (r := r) (n := 4096) hq hr
      simp [this]
  have hgd : ∃ d, d < 4096 ∧ ldr r C d = true ∧ pc (ldr r C) d = g := pc_nth 4096 g (by rw [hL.2.2] at hgc; exact hgc)
  obtain ⟨d, z1, z2, z3⟩ := hgd
  have rd := (bP_t.mp z2).1
  have ld : lab d = g := by
    obtain ⟨d', y1, y2, y3, y4⟩ := hL.2.1 d z1 rd
    have : d = d' := ldr_un hs9 z2 y2 y3
    rw [← this] at y4
    rw [y4, z3]
  obtain ⟨⟨b, w1, w2, w3, w4⟩, e, w5, w6, w7, w8, w9⟩ := i2 d z1 (by rw [hpr d z1]; exact rd) ld
  refine ⟨_, _, _, ⟨rfl, ⟨b, w1, w2, w3, rfl⟩, e, w5, w7, fun q hq hl => w8 q hq ?_ hl, rfl⟩, ?_, w4, w9⟩
  · rw [hpr q hq]
    exact (Lab_rng hL hq).2.2.mp (by omega)
  · rw [i1]
    refine congrArg (fun n : Nat => zI (n : Int)) ?_
    apply pc_congr
    intro q hq
    rw [hpr q hq]
    by_cases hl : lab q = g
    · have : r q = true := (Lab_rng hL hq).2.2.mp (by omega)
      simp [this]
    · simp [hl]
