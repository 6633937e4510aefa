/-- the reference's parts, found -/
def tR (I : nm_I) (r : Nat → Bool) : Prop := (∀ q, q < 4096 → I 28 q = zI (lc r q)) ∧ I 0 33 = zI ((pc (ldr r (CP r)) 4096 : Nat) : Int) ∧ ∀ g, g < pc (ldr r (CP r)) 4096 → ∃ a b c, Meas r (CP r) 4096 (lc r) g a b c ∧ I 29 g = zI a ∧ I 31 g = zI b ∧ I 30 g = zI c
def pcF (I I' : nm_I) : Prop := ∀ n k, ¬ (28 ≤ n ∧ n ≤ 32) → ¬ (n = 0 ∧ (k = 33 ∨ k = 34)) → I' n k = I n k
theorem ldr_lead {r : Nat → Bool} {s : Nat} (h : r s = true) : ldr r (CP r) s = true ↔ lead r (CP r) s = s := by
  constructor
  · intro hs
    exact (lead_eq h hs).mpr (CP_rf s)
  · intro e
    have := (leadP h).2.1
    rw [e] at this
    exact this
theorem lc_eq {r : Nat → Bool} {s q : Nat} (hs : ldr r (CP r) s = true) : lc r q = ((pc (ldr r (CP r)) s : Nat) : Int) ↔ r q = true ∧ lead r (CP r) q = s := by
  unfold lc
  constructor
  · intro h
    cases hr : r q with
    | false =>
      rw [hr, if_neg (by decide)] at h
      omega
    | true =>
      rw [hr, if_pos rfl] at h
      exact ⟨rfl, pc_inj (leadP hr).2.1 hs (by omega)⟩
  · rintro ⟨h1, h2⟩
    rw [if_pos h1, h2]
set_option maxHeartbeats 4000000 in
theorem w_findPieces {D : Nat → Bool} {a b : Nat} (ha : a < 16) (hb : b < 16) {I : nm_I} (hO : oR I D) : wp (f_X12_findPieces (zI ((4096 * a : Nat) : Int)) (zI (b : Nat)) I) (fun I' => tR I' (rcm D a b) ∧ oR I' D ∧ pcF I I') := by
  unfold f_X12_findPieces
  -- none has a number
  refine wp_s1 (fun I1 => (∀ q, q < 4096 → I1 28 q = zI (-1)) ∧ ∀ n k, n ≠ 28 → I1 n k = I n k) ?_ ?_
  · rw [zI_0]
    refine lpc f_X12_findPieces_L2 _ 4096 (fun k I1 => 0 ≤ k ∧ (∀ q : Nat, (q : Int) < k → I1 28 q = zI (-1)) ∧ ∀ n k, n ≠ 28 → I1 n k = I n k) ?_ ?_ nm_F 0 I (by omega) (by rw [nm_F_eq]; omega) ⟨by omega, fun q hq => by omega, fun _ _ _ => rfl⟩
    · rintro f k I1 hk ⟨h0, h1, h2⟩ hn9
      obtain ⟨k', rfl⟩ := Int.eq_ofNat_of_zero_le h0
      rw [f_X12_findPieces_L2]
      simp (disch := omega) only [zI_lit, zI_neg, zI_le, nm_cz, zI_cl, nm_l_eq, zI_add]
      rw [if_neg (by omega), show ((k' : Nat) : Int).toNat = k' from rfl]
      refine hn9 _ ⟨by omega, ?_, ?_⟩
      · intro q hq
        rw [nm_up_ap]
        by_cases hqk : q = k'
        · rw [if_pos ⟨rfl, hqk⟩]
        · rw [if_neg (fun h => hqk h.2)]
          exact h1 q (by omega)
      · intro n j hn
        rw [nm_up_ap, if_neg (fun h => hn h.1)]
        exact h2 n j hn
    · rintro f I1 ⟨h0, h1, h2⟩
      rw [f_X12_findPieces_L2]
      simp (disch := omega) only [zI_lit, zI_le, Int.le_refl, if_true]
      exact wp_r ⟨fun q hq => h1 q (by omega), h2⟩
  rintro I1 ⟨h1, h2⟩
  rw [nm_l_eq]
  refine wp_s1 (fun I' => tR I' (rcm D a b) ∧ oR I' D ∧ pcF I I') ?_ (fun _ h => wp_r h)
  rw [zI_0]
  refine lpc (fun f => f_X12_findPieces_L29 (zI ((4096 * a : Nat) : Int)) (zI (b : Nat)) f) _ 4096 (fun k I2 => 0 ≤ k ∧ (∀ q, q < 4096 → I2 28 q = zI (if rcm D a b q = true ∧ lead (rcm D a b) (CP (rcm D a b)) q < k.toNat then lc (rcm D a b) q else -1)) ∧ I2 0 33 = zI ((pc (ldr (rcm D a b) (CP (rcm D a b))) k.toNat : Nat) : Int) ∧ (∀ g, g < pc (ldr (rcm D a b) (CP (rcm D a b))) k.toNat → ∃ x y z, Meas (rcm D a b) (CP (rcm D a b)) 4096 (lc (rcm D a b)) g x y z ∧ I2 29 g = zI x ∧ I2 31 g = zI y ∧ I2 30 g = zI z) ∧ oR I2 D ∧ pcF I I2) ?_ ?_ nm_F 0 _ (by omega) (by rw [nm_F_eq]; omega) ⟨by omega, ?_, ?_, ?_, ?_, ?_⟩
  · rintro f k I2 hk ⟨h0, k1, k2, k3, k4, k5⟩ hn9
    obtain ⟨s, rfl⟩ := Int.eq_ofNat_of_zero_le h0
    have es : ((s : Nat) : Int).toNat = s := rfl
    have es1 : (((s : Nat) : Int) + 1).toNat = s + 1 := by omega
    rw [es] at k1 k2 k3
    have hrl : ∀ l, rl D l s = D (4096 * l + s) := fun l => by
      have : s < 4096 := by omega
      simp [rl, this]
    -- no leader: nothing new
    have hskip : ldr (rcm D a b) (CP (rcm D a b)) s = false → wp (f_X12_findPieces_J262 (zI ((s : Nat) : Int)) I2 (f_X12_findPieces_L29 (zI ((4096 * a : Nat) : Int)) (zI (b : Nat)) f)) (fun I' => tR I' (rcm D a b) ∧ oR I' D ∧ pcF I I') := by
      intro hl
      unfold f_X12_findPieces_J262
      rw [zI_inc]
      have hp : pc (ldr (rcm D a b) (CP (rcm D a b))) (s + 1) = pc (ldr (rcm D a b) (CP (rcm D a b))) s := by
        rw [pc_s, hl]
        rfl
      refine hn9 _ ⟨by omega, ?_, by rw [es1, hp]; exact k2, by rw [es1, hp]; exact k3, k4, k5⟩
      intro q hq
      rw [k1 q hq, es1]
      congr 1
      by_cases hc : rcm D a b q = true ∧ lead (rcm D a b) (CP (rcm D a b)) q < s
      · rw [if_pos hc, if_pos ⟨hc.1, by omega⟩]
      · rw [if_neg hc, if_neg]
        rintro ⟨c1, c2⟩
        have c3 : lead (rcm D a b) (CP (rcm D a b)) q = s := by
          have : ¬ lead (rcm D a b) (CP (rcm D a b)) q < s := fun h => hc ⟨c1, h⟩
          omega
        have := (leadP c1).2.1
        rw [c3, hl] at this
        exact absurd this (by decide)
    have hnor : rcm D a b s = false → ldr (rcm D a b) (CP (rcm D a b)) s = false := by
      intro hr
      cases hl : ldr (rcm D a b) (CP (rcm D a b)) s with
      | false => rfl
      | true =>
        have := (bP_t.mp hl).1
        rw [hr] at this
        exact absurd this (by decide)
    have oa := oR_0 k4 (p := 4096 * a + s) (by omega)
    have ob := oR_0 k4 (p := 4096 * b + s) (by omega)
    show wp (f_X12_findPieces_L29 _ _ (f + 1) (zI ((s : Nat) : Int)) I2) _
    rw [f_X12_findPieces_L29]
    simp (disch := omega) only [zI_lit, zI_le, zI_add, zI_mul, nm_cz, zI_cl]
    rw [if_neg (by omega), show (((4096 * a : Nat) : Int) + ((s : Nat) : Int)).toNat = 4096 * a + s by omega, show (4096 * ((b : Nat) : Int) + ((s : Nat) : Int)).toNat = 4096 * b + s by omega, es, ← zI_0]
    refine wp_if (fun h => hskip (hnor ?_)) (fun ha0 => ?_)
    · unfold rcm
      rw [hrl a, oa.mp h]
      rfl
    refine wp_if (fun h => hskip (hnor ?_)) (fun hb0 => ?_)
    · unfold rcm
      rw [hrl b, ob.mp h, Bool.and_false]
    have hr : rcm D a b s = true := by
      unfold rcm
      rw [hrl a, hrl b]
      have x1 : D (4096 * a + s) = true := by
        cases hd : D (4096 * a + s) with
        | true => rfl
        | false => exact absurd (oa.mpr hd) ha0
      have x2 : D (4096 * b + s) = true := by
        cases hd : D (4096 * b + s) with
        | true => rfl
        | false => exact absurd (ob.mpr hd) hb0
      rw [x1, x2]
      rfl
    have hlr := Lab_rng (Lab_lc (rcm D a b) 4096) (q := s) (by omega)
    have hcb := pc_le (ldr (rcm D a b) (CP (rcm D a b))) 4096
    rw [k1 s (by omega), zI_0]
    by_cases hls : lead (rcm D a b) (CP (rcm D a b)) s < s
    · rw [if_pos (show rcm D a b s = true ∧ lead (rcm D a b) (CP (rcm D a b)) s < s from ⟨hr, hls⟩)]
      have h9 := hlr.2.2.mpr hr
      simp (disch := omega) only [zI_lt]
      rw [if_neg (by omega)]
      refine hskip ?_
      cases hl : ldr (rcm D a b) (CP (rcm D a b)) s with
      | false => rfl
      | true =>
        have := (ldr_lead hr).mp hl
        omega
    · rw [if_neg (show ¬ (rcm D a b s = true ∧ lead (rcm D a b) (CP (rcm D a b)) s < s) from fun h => hls h.2)]
      have hle := (leadP hr).1
      have hld : ldr (rcm D a b) (CP (rcm D a b)) s = true := (ldr_lead hr).mpr (by omega)
      have hpb := pc_lt (f := ldr (rcm D a b) (CP (rcm D a b))) (show s < 4096 by omega) hld
      have hps : pc (ldr (rcm D a b) (CP (rcm D a b))) (s + 1) = pc (ldr (rcm D a b) (CP (rcm D a b))) s + 1 := by
        rw [pc_s, hld]
        rfl
      generalize hp : pc (ldr (rcm D a b) (CP (rcm D a b))) s = p at *
      rw [if_pos (show zI (-1) < zI 0 by decide), k2]
      simp (disch := omega) only [nm_l_eq, zI_add, nm_cz, zI_cl]
      rw [show ((p : Nat) : Int).toNat = p from rfl]
      generalize hI3 : (nm_up (nm_up (nm_up (nm_up I2 0 33 (zI (((p : Nat) : Int) + 1))) 0 34 (zI 0)) 31 p (zI ((s : Nat) : Int))) 30 p (zI ((s : Nat) : Int))) = I3
      have e28 : ∀ q, I3 28 q = I2 28 q := fun q => by
        rw [← hI3, nm_up_ap, if_neg (by omega), nm_up_ap, if_neg (by omega), nm_up_ap, if_neg (by omega), nm_up_ap, if_neg (by omega)]
      have e20 : ∀ q, I3 20 q = I2 20 q := fun q => by
        rw [← hI3, nm_up_ap, if_neg (by omega), nm_up_ap, if_neg (by omega), nm_up_ap, if_neg (by omega), nm_up_ap, if_neg (by omega)]
      have e29 : ∀ q, I3 29 q = I2 29 q := fun q => by
        rw [← hI3, nm_up_ap, if_neg (by omega), nm_up_ap, if_neg (by omega), nm_up_ap, if_neg (by omega), nm_up_ap, if_neg (by omega)]
      have e33 : I3 0 33 = zI (((p : Nat) : Int) + 1) := by
        rw [← hI3, nm_up_ap, if_neg (by omega), nm_up_ap, if_neg (by omega), nm_up_ap, if_neg (by omega), nm_up_ap, if_pos ⟨rfl, rfl⟩]
      have e34 : I3 0 34 = zI 0 := by
        rw [← hI3, nm_up_ap, if_neg (by omega), nm_up_ap, if_neg (by omega), nm_up_ap, if_pos ⟨rfl, rfl⟩]
      have e30 : ∀ g, I3 30 g = if g = p then zI ((s : Nat) : Int) else I2 30 g := fun g => by
        rw [← hI3, nm_up_ap]
        by_cases hg : g = p
        · rw [if_pos ⟨rfl, hg⟩, if_pos hg]
        · rw [if_neg (fun h => hg h.2), if_neg hg, nm_up_ap, if_neg (by omega), nm_up_ap, if_neg (by omega), nm_up_ap, if_neg (by omega)]
      have e31 : ∀ g, I3 31 g = if g = p then zI ((s : Nat) : Int) else I2 31 g := fun g => by
        rw [← hI3, nm_up_ap, if_neg (by omega), nm_up_ap]
        by_cases hg : g = p
        · rw [if_pos ⟨rfl, hg⟩, if_pos hg]
        · rw [if_neg (fun h => hg h.2), if_neg hg, nm_up_ap, if_neg (by omega), nm_up_ap, if_neg (by omega)]
      have eF : pcF I I3 := by
        intro n j hn hn0
        rw [← hI3, nm_up_ap, if_neg (by omega), nm_up_ap, if_neg (by omega), nm_up_ap, if_neg (by omega), nm_up_ap, if_neg (by omega)]
        exact k5 n j hn hn0
      have hB : bI I3 (rcm D a b) s p (fun _ => false) 0 (fun _ => 0) := by
        refine ⟨fun q hq => ?_, fun q hq => absurd hq Bool.false_ne_true, pc_false (fun _ _ => rfl), e34, fun j hj => absurd hj (Nat.not_lt_zero _), fun q hq => absurd hq Bool.false_ne_true⟩
        rw [e28, k1 q hq]
        rfl
      refine wp_s1 _ (w_meets ha hb (oR_fr k4 e20) (by omega) hld hB (t := s) (by omega) (fun _ => CP_rf s)) ?_
      rintro I4 ⟨v, cnt, qu, m1, m2, m3, m4, m5, m6⟩
      refine wp_s1 _ (w_flood ha hb (oR_fr (oR_fr k4 e20) (mF_20 m6)) (by omega) (by omega) hld (by rw [m6 30 p (by decide) (by decide) (by omega), e30, if_pos rfl]) m1 (m3 hr)) ?_
      rintro I5 ⟨f1, f2, ⟨L, f3, f4, f5, f6, f7⟩, f8, f9, f10⟩
      simp only [f_X12_findPieces_J262, zI_inc, nm_l_eq]
      refine hn9 _ ⟨by omega, ?_, ?_, ?_, oR_fr f8 (fun j => by rw [nm_up_ap, if_neg (by omega)]), ?_⟩
      · intro q hq
        rw [nm_up_ap, if_neg (by omega), f1 q hq, es1]
        congr 1
        by_cases hc : rcm D a b q = true ∧ lead (rcm D a b) (CP (rcm D a b)) q = s
        · rw [if_pos hc, if_pos ⟨hc.1, by omega⟩, (lc_eq hld).mpr hc, hp]
        · rw [if_neg hc]
          by_cases hc2 : rcm D a b q = true ∧ lead (rcm D a b) (CP (rcm D a b)) q < s
          · rw [if_pos hc2, if_pos ⟨hc2.1, by omega⟩]
          · rw [if_neg hc2, if_neg]
            rintro ⟨c1, c2⟩
            have : ¬ lead (rcm D a b) (CP (rcm D a b)) q = s := fun h => hc ⟨c1, h⟩
            have : ¬ lead (rcm D a b) (CP (rcm D a b)) q < s := fun h => hc2 ⟨c1, h⟩
            omega
      · rw [nm_up_ap, if_neg (by omega), f9 0 33 (by decide) (by decide) (by decide) (by omega), m6 0 33 (by decide) (by decide) (by omega), e33, es1, hps]
        rfl
      · intro g hg
        rw [es1, hps] at hg
        by_cases hgp : g = p
        · subst hgp
          refine ⟨((pc (fun q => decide (rcm D a b q = true ∧ lead (rcm D a b) (CP (rcm D a b)) q = s)) 4096 : Nat) : Int), ((s : Nat) : Int), ((L : Nat) : Int), ⟨?_, ⟨s, by omega, hld, hp, rfl⟩, L, f3, ?_, ?_, rfl⟩, ?_, ?_, ?_⟩
          · refine congrArg (fun n : Nat => (n : Int)) (pc_congr (fun q hq => decide_eq_decide.mpr ?_))
            rw [← hp]
            exact (lc_eq hld).symm
          · rw [← hp]
            exact (lc_eq hld).mpr ⟨f5, (lead_eq f5 hld).mpr f6⟩
          · intro q hq hl
            rw [← hp] at hl
            obtain ⟨c1, c2⟩ := (lc_eq hld).mp hl
            exact f7 q hq c1 ((lead_eq c1 hld).mp c2)
          · rw [nm_up_ap, if_pos ⟨rfl, rfl⟩]
            exact f2
          · rw [nm_up_ap, if_neg (by omega), f9 31 g (by decide) (by decide) (by decide) (by omega), m6 31 g (by decide) (by decide) (by omega), e31, if_pos rfl]
          · rw [nm_up_ap, if_neg (by omega)]
            exact f4
        · obtain ⟨x, y, z, c1, c2, c3, c4⟩ := k3 g (by omega)
          refine ⟨x, y, z, c1, ?_, ?_, ?_⟩
          · rw [nm_up_ap, if_neg (fun h => hgp h.2), f9 29 g (by decide) (by decide) (by decide) (by omega), m6 29 g (by decide) (by decide) (by omega), e29]
            exact c2
          · rw [nm_up_ap, if_neg (by omega), f9 31 g (by decide) (by decide) (by decide) (by omega), m6 31 g (by decide) (by decide) (by omega), e31, if_neg hgp]
            exact c3
          · rw [nm_up_ap, if_neg (by omega), f10 g hgp, m6 30 g (by decide) (by decide) (by omega), e30, if_neg hgp]
            exact c4
      · intro n j hn hn0
        rw [nm_up_ap, if_neg (by omega), f9 n j (by omega) (by omega) (by omega) (by omega), m6 n j (by omega) (by omega) (by omega)]
        exact eF n j hn hn0
  · rintro f I2 ⟨h0, k1, k2, k3, k4, k5⟩
    show wp (f_X12_findPieces_L29 _ _ (f + 1) (zI 4096) I2) _
    rw [f_X12_findPieces_L29]
    simp (disch := omega) only [zI_lit, zI_le, Int.le_refl, if_true]
    have e : (4096 : Int).toNat = 4096 := rfl
    rw [e] at k1 k2 k3
    refine wp_r ⟨⟨fun q hq => ?_, k2, k3⟩, k4, k5⟩
    rw [k1 q hq]
    congr 1
    cases hr : rcm D a b q with
    | false =>
      rw [if_neg (fun h => absurd h.1 (by decide))]
      simp [lc, hr]
    | true =>
      rw [if_pos ⟨rfl, by have := (leadP hr).1; omega⟩]
  · intro q hq
    rw [nm_up_ap, if_neg (by omega), h1 q hq]
    congr 1
    rw [if_neg]
    rintro ⟨-, h⟩
    exact absurd h (Nat.not_lt_zero _)
  · rw [nm_up_ap, if_pos ⟨rfl, rfl⟩]
    rfl
  · intro g hg
    exact absurd hg (Nat.not_lt_zero _)
  · exact oR_fr hO (fun j => by rw [nm_up_ap, if_neg (by omega), h2 20 j (by decide)])
  · intro n j hn hn0
    rw [nm_up_ap, if_neg (by omega), h2 n j (by omega)]
