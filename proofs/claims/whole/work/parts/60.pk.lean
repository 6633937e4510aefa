/-! what touches a layer -/
theorem zI_inc (a : Int) : zI a + 1 = zI (a + 1) := by rw [zI_lit, zI_add]
noncomputable def hitP (r rb : Nat → Bool) (lab : Nat → Int) (P g : Nat) : Bool := bP (∃ q, q < P ∧ r q = true ∧ rb q = true ∧ lab q = (g : Int))
theorem gD_lab {S : ca} {o : Nat} {r : Nat → Bool} {C : Nat → Nat → Prop} {lab : Nat → Int} {cnt : Nat} (hg : gD S o 64 r C lab cnt) {p q : Nat} (hp : p < 4096) (hq : q < 4096) (rp : r p = true) (rq : r q = true) (h : stp r p = stp r q) : lab p = lab q := by
  have k1 := hg.2.2.1 p hp rp
  have k2 := hg.2.2.1 q hq rq
  rw [h, k2] at k1
  have hL := hg.2.2.2.2.2.2
  have hcnt : cnt ≤ 4096 := by
    rw [hL.2.2]
    exact pc_le _ _
  have b1 := Lab_rng hL (q := p) (by omega)
  have b2 := Lab_rng hL (q := q) (by omega)
  exact (zI_inj (by omega) (by omega) (by omega) (by omega) k1).symm
theorem hitP_no {r rb : Nat → Bool} {lab : Nat → Int} {P g : Nat} (h : r P = true → rb P = true → lab P = (g : Int) → ∃ q, q < P ∧ r q = true ∧ rb q = true ∧ lab q = (g : Int)) : hitP r rb lab (P + 1) g = hitP r rb lab P g := by
  have e : (∃ q, q < P + 1 ∧ r q = true ∧ rb q = true ∧ lab q = (g : Int)) ↔ (∃ q, q < P ∧ r q = true ∧ rb q = true ∧ lab q = (g : Int)) := by
    constructor
    · rintro ⟨q, a, b, c, d⟩
      by_cases hq : q = P
      · subst hq
        exact h b c d
      · exact ⟨q, by omega, b, c, d⟩
    · rintro ⟨q, a, b, c, d⟩
      exact ⟨q, by omega, b, c, d⟩
  unfold hitP
  rw [propext e]
theorem hitP_yes {r rb : Nat → Bool} {lab : Nat → Int} {P g : Nat} (h1 : r P = true) (h2 : rb P = true) (h3 : lab P = (g : Int)) : hitP r rb lab (P + 1) g = true := bP_t.mpr ⟨P, by omega, h1, h2, h3⟩
set_option maxHeartbeats 2000000 in
theorem w_touch {D : Nat → Bool} {r : Nat → Bool} {lab : Nat → Int} {cnt b : Nat} (hb : b < 16) {S : ca} (hc : cO S.2) (hD : dR S D) (hg : gD S 110 64 r (CP r) lab cnt) :
    wc sN (f_X4_touch 110 (zI ((64 * b : Nat) : Int)) S) S.2 (fun S' => gD S' 110 64 r (CP r) lab cnt ∧ cO S'.2 ∧ cnt ≤ S'.2 117 ∧ (∀ g, g < cnt → S'.1.1 117 g = if hitP r (rl D b) lab 4096 g = true then 1 else 0) ∧ S'.1.2 = S.1.2 ∧ (∀ x, x ≠ 117 → S'.2 x = S.2 x) ∧ fr S S' (fun m _ => m = 117)) := by
  have hL := hg.2.2.2.2.2.2
  have hcnt : cnt ≤ 4096 := by
    rw [hL.2.2]
    exact pc_le _ _
  unfold f_X4_touch
  rw [hg.2.2.2.2.2.1]
  refine wc_a1 _ (w_grow (n := 117) (by decide) (m := cnt) (by show 2 * cnt ≤ 8192; omega) hc) ?_
  rintro S1 ⟨a1, a2, a3, a4, a5⟩
  have a2c := a2.2 117 (by decide)
  have e117 : cap 117 = 8192 := by decide
  rw [e117] at a2c
  show wc sN (nm_s1 (f_J7_fill_53178 117 S1.2 0 S1.1) _) _ _
  rw [w_fillI (by omega)]
  simp only [nm_s1_some, nm_l_eq]
  generalize hS4 : ((va_up S1.1.1 117 (fun j => if j < S1.2 117 then 0 else S1.1.1 117 j), S1.1.2), S1.2) = S4
  have f4 : fr S S4 (fun m _ => m = 117) := by
    intro m j hm
    rw [← hS4]
    show va_up S1.1.1 117 _ m j = _
    rw [va_up_ne _ _ hm, a5 _ hm]
  have j4 : S4.1.2 = S.1.2 := by
    rw [← hS4]
    exact a4
  have l4 : S4.2 = S1.2 := by rw [← hS4]
  have g4 : gD S4 110 64 r (CP r) lab cnt := gD_fr hg j4 (by rw [l4, a3 _ (by omega)]) (fr_mono f4 (fun m k h => by omega))
  have hl := gM_110.1.2.2.2.2 S4.2 (by rw [l4]; exact a2.1)
  rw [show sN S1 = S4.2 from l4.symm]
  refine wc_s1 (fun S5 => (∀ g, g < cnt → S5.1.1 117 g = if hitP r (rl D b) lab 4096 g = true then 1 else 0) ∧ S5.2 = S4.2 ∧ S5.1.2 = S4.1.2 ∧ fr S4 S5 (fun m _ => m = 117)) ?_ ?_
  · rw [zI_lit]
    refine lpc (fun f => f_X4_touch_L25 110 (zI ((64 * b : Nat) : Int)) f) _ 64 (fun k S5 => 0 ≤ k ∧ (∀ g, g < cnt → S5.1.1 117 g = if hitP r (rl D b) lab (64 * k.toNat) g = true then 1 else 0) ∧ S5.2 = S4.2 ∧ S5.1.2 = S4.1.2 ∧ fr S4 S5 (fun m _ => m = 117)) ?_ ?_ nm_F 0 _ (by omega) (by rw [nm_F_eq]; omega) ⟨by omega, ?_, rfl, rfl, fr_rf _ _⟩
    · rintro f k S5 hk ⟨h0, k1, k2, k3, k4⟩ hn9
      show wp (f_X4_touch_L25 110 _ (f + 1) _ _) _
      obtain ⟨y, rfl⟩ := Int.eq_ofNat_of_zero_le h0
      have ey : ((y : Nat) : Int).toNat = y := rfl
      rw [ey] at k1
      have g5 : gD S5 110 64 r (CP r) lab cnt := gD_fr g4 k3 (by rw [k2]) (fr_mono k4 (fun m k h => by omega))
      rw [f_X4_touch_L25, k2, hl.1]
      simp (disch := omega) only [zI_le, nm_cz, zI_cl, nm_l_eq, zI_lit, zI_add]
      rw [if_neg (by omega), ey, show (((64 * b : Nat) : Int) + ((y : Nat) : Int)).toNat = 64 * b + y by omega]
      generalize hw : (S5.1.2 (110 + 1) y &&& S5.1.2 101 (64 * b + y)) = w
      have hbw : ∀ x, x < 64 → bx w x = (r (64 * y + x) && rl D b (64 * y + x)) := by
        intro x hx
        rw [← hw, bx_and, g5.1 y x (by omega) hx, k3, j4, hD _ _ (by omega) hx]
        unfold rl
        have : 64 * y + x < 4096 := by omega
        simp only [this, decide_true, Bool.true_and]
        congr 2
        omega
      refine wp_s1 (fun S6 => (∀ g, g < cnt → S6.1.1 117 g = if hitP r (rl D b) lab (64 * y + 64) g = true then 1 else 0) ∧ S6.2 = S4.2 ∧ S6.1.2 = S4.1.2 ∧ fr S4 S6 (fun m _ => m = 117)) ?_ ?_
      · rw [bc_eq]
        have e0 : zI 0 = zI ((pc (bx (f_X0_heads w)) 0 : Nat) : Int) := rfl
        rw [e0]
        refine lpb (fun f => f_X4_touch_L58 110 (zI y) (zI ((pc (bx (f_X0_heads w)) 64 : Nat) : Int)) f) _ (f_X0_heads w) (fun p S6 => (∀ g, g < cnt → S6.1.1 117 g = if hitP r (rl D b) lab (64 * y + p) g = true then 1 else 0) ∧ S6.2 = S4.2 ∧ S6.1.2 = S4.1.2 ∧ fr S4 S6 (fun m _ => m = 117)) ?_ ?_ ?_ nm_F 0 S5 _ (by omega) (fun x hx => by simp) (by rw [nm_F_eq]; omega) ⟨k1, k2, k3, k4⟩
        · rintro p S6 hp hh ⟨q1, q2, q3, q4⟩
          refine ⟨fun g hgc => ?_, q2, q3, q4⟩
          rw [q1 g hgc]
          congr 2
          refine (hitP_no (fun h1 h2 h3 => ?_)).symm
          rw [bx_heads w hp, hbw p hp, h1, h2] at hh
          have hh2 : 1 ≤ p ∧ bx w (p - 1) = true := by simpa using hh
          rw [hbw (p - 1) (by omega)] at hh2
          have hh3 : r (64 * y + (p - 1)) = true ∧ rl D b (64 * y + (p - 1)) = true := by simpa using hh2.2
          have est := stp_left (r := r) (p := 64 * y + p) h1 (by rw [show 64 * y + p - 1 = 64 * y + (p - 1) by omega]; exact hh3.1) (by omega)
          rw [show 64 * y + p - 1 = 64 * y + (p - 1) by omega] at est
          refine ⟨64 * y + (p - 1), by omega, hh3.1, hh3.2, ?_⟩
          rw [← h3]
          exact gD_lab hg (by omega) (by omega) hh3.1 h1 est
        · rintro f' v i S6 x hx hh ⟨q1, q2, q3, q4⟩ hlow hi hlt hk9
          subst hi
          rw [zI_inc] at hk9
          have hbx : bx w x = true := by
            rw [bx_heads w hx] at hh
            cases h : bx w x with
            | true => rfl
            | false =>
              rw [h] at hh
              exact absurd hh (by simp)
          rw [hbw x hx] at hbx
          have hb2 : r (64 * y + x) = true ∧ rl D b (64 * y + x) = true := by simpa using hbx
          have hpc64 := pc_le (bx (f_X0_heads w)) 64
          have g6 : gD S6 110 64 r (CP r) lab cnt := gD_fr g4 q3 (by rw [q2]) (fr_mono q4 (fun m k h => by omega))
          show wp (f_X4_touch_L58 110 (zI y) (zI ((pc (bx (f_X0_heads w)) 64 : Nat) : Int)) (f' + 1) v _ S6) _
          have hlt2 := stp_lt (r := r) (show 64 * y + x < 64 * 64 by omega) hb2.1
          have n6 := g6.2.2.2.2.1
          have hpb := pc_le2 (f := hdp r) (n := 64 * 64) (m := 4096) (by omega)
          rw [f_X4_touch_L58, hlow, w_stretchAt g6.1 g6.2.1 (by rw [q2]; exact hl.1) (by rw [q2]; exact hl.2) (by omega) (by omega) hx hb2.1]
          simp (disch := omega) only [zI_le, nm_s1_some, nm_cz, zI_cl, nm_l_eq, zI_lit, zI_add]
          rw [if_neg (by omega), show ((stp r (64 * y + x) : Nat) : Int).toNat = stp r (64 * y + x) from rfl, show S6.1.1 (110 + 6) (stp r (64 * y + x)) = zI (lab (64 * y + x)) from g6.2.2.1 _ (by omega) hb2.1]
          have hrng := Lab_rng hL (show 64 * y + x < 64 * 64 by omega)
          have hge : 0 ≤ lab (64 * y + x) := hrng.2.2.mpr hb2.1
          obtain ⟨g0, hg0⟩ := Int.eq_ofNat_of_zero_le hge
          rw [hg0]
          have l117 : S6.2 (110 + 7) = S1.2 117 := by rw [q2, l4]
          rw [l117]
          simp (disch := omega) only [nm_cz, zI_cl]
          refine hk9 _ ⟨fun g hgc => ?_, q2, q3, fr_tr q4 ?_⟩
          · show nm_up S6.1.1 117 g0 (zI 1) 117 g = _
            rw [nm_up_ap]
            by_cases hgg : g = g0
            · subst hgg
              rw [if_pos ⟨rfl, rfl⟩, show 64 * y + (x + 1) = 64 * y + x + 1 by omega, hitP_yes hb2.1 hb2.2 hg0, if_pos rfl]
              rfl
            · rw [if_neg (fun h => hgg h.2), q1 g hgc, show 64 * y + (x + 1) = 64 * y + x + 1 by omega, hitP_no (fun _ _ h3 => by rw [hg0] at h3; exact absurd (by omega) hgg)]
          · intro m j hm
            show nm_up _ _ _ _ _ _ = _
            rw [nm_up_ap, if_neg (fun h => hm h.1)]
        · rintro f' v i S6 hi ⟨q1, q2, q3, q4⟩
          have hpc64 := pc_le (bx (f_X0_heads w)) 64
          subst hi
          show wp (f_X4_touch_L58 110 (zI y) (zI ((pc (bx (f_X0_heads w)) 64 : Nat) : Int)) (f' + 1) v _ S6) _
          rw [f_X4_touch_L58]
          simp (disch := omega) only [zI_le, Int.le_refl, if_true]
          exact wp_r ⟨q1, q2, q3, q4⟩
      · rintro S6 ⟨q1, q2, q3, q4⟩
        refine hn9 _ ⟨by omega, ?_, q2, q3, q4⟩
        rw [show (((y : Nat) : Int) + 1).toNat = y + 1 by omega, show 64 * (y + 1) = 64 * y + 64 by omega]
        exact q1
    · rintro f S5 ⟨h0, k1, k2, k3, k4⟩
      show wp (f_X4_touch_L25 110 _ (f + 1) _ _) _
      rw [f_X4_touch_L25]
      simp (disch := omega) only [zI_lit, zI_le, Int.le_refl, if_true]
      exact wp_r ⟨k1, k2, k3, k4⟩
    · intro g hgc
      have e : S4.1.1 117 g = 0 := by
        rw [← hS4]
        show va_up S1.1.1 117 (fun j => if j < S1.2 117 then 0 else S1.1.1 117 j) 117 g = 0
        rw [va_up_self]
        show (if g < S1.2 117 then (0 : Int32) else S1.1.1 117 g) = 0
        rw [if_pos (by omega)]
      have e2 : hitP r (rl D b) lab (64 * (0 : Int).toNat) g = false := bP_f.mpr (by
        rintro ⟨q, h, -⟩
        have : (0 : Int).toNat = 0 := rfl
        omega)
      rw [e, e2]
      rfl
  rintro S5 ⟨k1, k2, k3, k4⟩
  rw [← k2]
  refine wc_r ⟨gD_fr g4 k3 (by rw [k2]) (fr_mono k4 (fun m k h => by omega)), by rw [k2, l4]; exact a2, by rw [k2, l4]; exact a1, k1, by rw [k3, j4], fun x hx => by rw [k2, l4, a3 x hx], fr_tr f4 k4⟩
set_option maxHeartbeats 2000000 in
theorem w_touchedIn {r : Nat → Bool} {C : Nat → Nat → Prop} {lab : Nat → Int} {cnt : Nat} {T : Nat → Bool} {S : ca} (hc : cO S.2) (hg : gD S 110 64 r C lab cnt) (h117 : cnt ≤ S.2 117) (hT : ∀ g, g < cnt → S.1.1 117 g = if T g = true then 1 else 0) {y : Nat} (hy : y < 64) :
    wp (f_X4_touchedIn 110 S.2 (zI y) S.1) (fun w => ∀ x, x < 64 → bx w x = (r (64 * y + x) && T (lab (64 * y + x)).toNat)) := by
  have hL := hg.2.2.2.2.2.2
  have hcnt : cnt ≤ 4096 := by
    rw [hL.2.2]
    exact pc_le _ _
  have hl := gM_110.1.2.2.2.2 S.2 hc.1
  have ey : ((y : Nat) : Int).toNat = y := rfl
  unfold f_X4_touchedIn
  rw [hl.1]
  simp (disch := omega) only [nm_cz, zI_cl, nm_l_eq]
  rw [ey, bc_eq]
  generalize hw : f_X0_heads (S.1.2 (110 + 1) y) = w
  have hhd : ∀ x, x < 64 → bx w x = hdp r (64 * y + x) := fun x hx => by rw [← hw]; exact gR_hd hg.1 hy hx
  refine wp_s1 (fun w' => ∀ x, x < 64 → bx w' x = (r (64 * y + x) && T (lab (64 * y + x)).toNat)) ?_ (fun a h => wp_r h)
  -- as a loop over what is set, with the kept bits as its state
  have key := lpb (fun f v i (k : Int64) => f_X4_touchedIn_L23 110 S.2 (zI y) (zI ((pc (bx w) 64 : Nat) : Int)) S.1 f k v i) (fun w' => ∀ x, x < 64 → bx w' x = (r (64 * y + x) && T (lab (64 * y + x)).toNat)) w (fun p k => ∀ x, x < 64 → bx k x = (r (64 * y + x) && decide (stp r (64 * y + x) < pc (hdp r) (64 * y + p)) && T (lab (64 * y + x)).toNat)) ?_ ?_ ?_ nm_F 0 0 w (by omega) (fun x hx => by simp) (by rw [nm_F_eq]; omega) ?_
  · rw [zI_lit]
    exact key
  · rintro p k hp hh hI x hx
    rw [hI x hx, show 64 * y + (p + 1) = 64 * y + p + 1 by omega, pc_s]
    rw [hhd p hp] at hh
    rw [hh]
    rfl
  · rintro f' v i k x hx hh hI hlow hi hlt hk9
    subst hi
    rw [zI_inc] at hk9
    rw [hhd x hx] at hh
    have hrP := hdp_r hh
    have hpc64 := pc_le (bx w) 64
    have hcn := gR_cnt hg.1 hy (show x ≤ 64 by omega)
    rw [hw] at hcn
    have hpcl := pc_le (hdp r) (64 * y + x)
    have hlt2 := pc_lt (f := hdp r) (show 64 * y + x < 64 * 64 by omega) hh
    have n6 := hg.2.2.2.2.1
    show wp (f_X4_touchedIn_L23 110 S.2 (zI y) (zI ((pc (bx w) 64 : Nat) : Int)) S.1 (f' + 1) k v _) _
    rw [f_X4_touchedIn_L23, hlow, hl.2, hl.1]
    simp (disch := omega) only [zI_le, zI_cl, nm_l_eq, nm_cz]
    rw [if_neg (by omega), ey, hg.2.1 y (by omega)]
    simp (disch := omega) only [zI_add, nm_cz, zI_cl]
    have ei : (((pc (hdp r) (64 * y) : Nat) : Int) + ((pc (bx w) x : Nat) : Int)).toNat = stp r (64 * y + x) := by
      rw [stp_hd hh, hcn]
      omega
    have ei2 : (((pc (hdp r) (64 * y) : Nat) : Int) + ((pc (bx w) x : Nat) : Int)) < (S.2 (110 + 6) : Nat) := by omega
    rw [ei, hg.2.2.1 _ (by omega) hrP]
    have hrng := Lab_rng hL (show 64 * y + x < 64 * 64 by omega)
    have hge : 0 ≤ lab (64 * y + x) := hrng.2.2.mpr hrP
    obtain ⟨g0, hg0⟩ := Int.eq_ofNat_of_zero_le hge
    rw [hg0]
    have e117 : S.2 (110 + 7) = S.2 117 := rfl
    rw [e117]
    simp (disch := omega) only [nm_cz, zI_cl, f_X4_touchedIn_J78, nm_l_eq, zI_lit, zI_add]
    have eg0 : ((g0 : Nat) : Int).toNat = g0 := rfl
    rw [eg0, show S.1.1 (110 + 7) g0 = S.1.1 117 g0 from rfl, hT g0 (by omega)]
    obtain ⟨s, hs, hst⟩ := bx_stretch (w := S.1.2 (110 + 1) y) hx
    obtain ⟨s1, s2, s3⟩ := hs
    have s2' : ∀ j, x ≤ j → j < x + s → r (64 * y + j) = true := fun j j1 j2 => by rw [← hg.1 y j hy (by omega)]; exact s2 j j1 j2
    have s3' : x + s < 64 → r (64 * y + (x + s)) = false := fun h => by rw [← hg.1 y (x + s) hy h]; exact s3 h
    have hpcP : pc (hdp r) (64 * y + (x + 1)) = pc (hdp r) (64 * y + x) + 1 := by
      rw [show 64 * y + (x + 1) = 64 * y + x + 1 by omega, pc_s, hh]
      rfl
    have hrun := fun {q : Nat} (hq : r q = true) => run_stp hx hh s1 s2' s3' hq
    have hsame : ∀ z, z < 64 → r (64 * y + z) = true → stp r (64 * y + z) = pc (hdp r) (64 * y + x) → lab (64 * y + z) = g0 := by
      intro z hz rz hst9
      rw [← hg0]
      exact gD_lab hg (by omega) (by omega) rz hrP (by rw [hst9, stp_hd hh])
    cases hTg : T g0 with
    | false =>
      rw [if_pos (by decide)]
      refine hk9 _ (fun z hz => ?_)
      rw [hI z hz, hpcP]
      cases hrz : r (64 * y + z) with
      | false => rfl
      | true =>
        by_cases hz2 : stp r (64 * y + z) = pc (hdp r) (64 * y + x)
        · rw [hsame z hz hrz hz2, eg0, hTg]
          simp
        · have : decide (stp r (64 * y + z) < pc (hdp r) (64 * y + x) + 1) = decide (stp r (64 * y + z) < pc (hdp r) (64 * y + x)) := by
            apply decide_eq_decide.mpr
            omega
          rw [this]
    | true =>
      rw [if_neg (by decide), hst]
      refine hk9 _ (fun z hz => ?_)
      rw [bx_or, hI z hz, bx_span hx s1 hz, hpcP]
      cases hrz : r (64 * y + z) with
      | false =>
        by_cases hin : x ≤ z ∧ z < x + s
        · rw [s2' z hin.1 hin.2] at hrz
          exact absurd hrz (by decide)
        · by_cases ha : x ≤ z
          · have : ¬ z < x + s := fun h => hin ⟨ha, h⟩
            simp [this]
          · simp [ha]
      | true =>
        have hr9 := hrun hrz
        by_cases hin : x ≤ z ∧ z < x + s
        · have h9 := hr9.mpr ⟨by omega, by omega⟩
          rw [hsame z hz hrz h9, eg0, hTg, h9]
          simp [hin.1, hin.2]
        · have hne : stp r (64 * y + z) ≠ pc (hdp r) (64 * y + x) := fun h => hin (by have := hr9.mp h; omega)
          have e1 : decide (stp r (64 * y + z) < pc (hdp r) (64 * y + x) + 1) = decide (stp r (64 * y + z) < pc (hdp r) (64 * y + x)) := by
            apply decide_eq_decide.mpr
            omega
          rw [e1]
          by_cases ha : x ≤ z
          · have : ¬ z < x + s := fun h => hin ⟨ha, h⟩
            simp [this]
          · simp [ha]
  · rintro f' v i k hi hI
    have hpc64 := pc_le (bx w) 64
    subst hi
    show wp (f_X4_touchedIn_L23 110 S.2 (zI y) (zI ((pc (bx w) 64 : Nat) : Int)) S.1 (f' + 1) k v _) _
    rw [f_X4_touchedIn_L23]
    simp (disch := omega) only [zI_le, Int.le_refl, if_true]
    refine wp_r (fun x hx => ?_)
    rw [hI x hx]
    cases hrz : r (64 * y + x) with
    | false => rfl
    | true =>
      have := stp_lt (r := r) (n := 64 * y + 64) (show 64 * y + x < 64 * y + 64 by omega) hrz
      simp [this]
  · intro x hx
    rw [bx_0]
    cases hrz : r (64 * y + x) with
    | false => rfl
    | true =>
      have h9 : ¬ stp r (64 * y + x) < pc (hdp r) (64 * y) := by
        have := stp_ex hrz
        obtain ⟨q, a1, a2, a3, a4, a5, a6⟩ := this
        have := pc_mono (hdp r) (show 64 * y ≤ q by omega)
        omega
      simp [h9]
