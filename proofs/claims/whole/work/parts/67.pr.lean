/-! the reference makes a layer -/
def midL (D : Nat → Bool) (k : Nat) (f : Nat → Bool) (s p : Nat) : Bool := if 4096 * k ≤ p ∧ p < 4096 * k + s then f (p - 4096 * k) else D p
theorem midL_0 (D : Nat → Bool) (k : Nat) (f : Nat → Bool) : midL D k f 0 = D := by
  funext p
  unfold midL
  rw [if_neg (by omega)]
theorem midL_e (D : Nat → Bool) (k : Nat) (f : Nat → Bool) : midL D k f 4096 = setL D k f := rfl
theorem rl_mid {D : Nat → Bool} {k l s : Nat} {f : Nat → Bool} (h : l ≠ k) (hs : s ≤ 4096) : rl (midL D k f s) l = rl D l := by
  funext q
  unfold rl midL
  by_cases hq : q < 4096
  · rw [if_neg (by omega)]
  · simp [hq]
theorem oR_mid {I : nm_I} {D : Nat → Bool} {k s : Nat} {f : Nat → Bool} (h : oR I (midL D k f s)) {v : Int32} (hv : v = if f s = true then 1 else 0) : oR (nm_up I 20 (4096 * k + s) v) (midL D k f (s + 1)) := by
  intro p hp
  rw [nm_up_ap]
  unfold midL
  by_cases hps : p = 4096 * k + s
  · rw [if_pos ⟨rfl, hps⟩, if_pos (show 4096 * k ≤ p ∧ p < 4096 * k + (s + 1) by omega), hv, show p - 4096 * k = s by omega]
  · rw [if_neg (fun hh => hps hh.2), h p hp]
    unfold midL
    by_cases hc : 4096 * k ≤ p ∧ p < 4096 * k + s
    · rw [if_pos hc, if_pos (show 4096 * k ≤ p ∧ p < 4096 * k + (s + 1) by omega)]
    · rw [if_neg hc, if_neg (show ¬ (4096 * k ≤ p ∧ p < 4096 * k + (s + 1)) by omega)]
def mkF (I I' : nm_I) : Prop := ∀ n k, n ≠ 20 → ¬ (28 ≤ n ∧ n ≤ 33) → ¬ (n = 0 ∧ (k = 33 ∨ k = 34)) → I' n k = I n k
theorem b01 (b : Bool) : (if b = true then (1 : Int32) else 0) = 0 ∨ (if b = true then (1 : Int32) else 0) = 1 := by
  cases b
  · exact Or.inl rfl
  · exact Or.inr rfl
theorem rcm_self (D : Nat → Bool) (a : Nat) : rcm D a a = rl D a := by
  funext q
  unfold rcm
  exact Bool.and_self _
theorem lc_tc {r rb : Nat → Bool} {q : Nat} (hq : q < 4096) : (r q && hitP r rb (lc r) 4096 (lc r q).toNat) = tcP r rb q := hit_tc (Lab_lc r 4096) hq
set_option maxHeartbeats 2000000 in
theorem w_touches {D D0 : Nat → Bool} {k a b : Nat} (hk : k < 16) (hb : b < 16) {I : nm_I} (hO : oR I D) (hT : tR I (rl D0 a)) (hbm : I 11 k = zI (b : Nat)) (hbk : b ≠ k) : wp (f_X12_touches (zI (k : Nat)) I) (fun I' => oR I' (setL D k (tcP (rl D0 a) (rl D b))) ∧ ∀ n j, n ≠ 20 → n ≠ 33 → I' n j = I n j) := by
  obtain ⟨t1, t2, t3⟩ := hT
  generalize hr : rl D0 a = r at *
  generalize hc : pc (ldr r (CP r)) 4096 = cnt at *
  have hcnt : cnt ≤ 4096 := by rw [← hc]; exact pc_le _ _
  have hL := Lab_lc r 4096
  rw [hc] at hL
  unfold f_X12_touches
  -- none is hit
  refine wp_s1 (fun I1 => (∀ g, g < cnt → I1 33 g = 0) ∧ ∀ n j, n ≠ 33 → I1 n j = I n j) ?_ ?_
  · rw [zI_0]
    refine lpc f_X12_touches_L2 _ cnt (fun i I1 => 0 ≤ i ∧ (∀ g : Nat, (g : Int) < i → I1 33 g = 0) ∧ ∀ n j, n ≠ 33 → I1 n j = I n j) ?_ ?_ nm_F 0 I (by omega) (by rw [nm_F_eq]; omega) ⟨by omega, fun g hg => by omega, fun _ _ _ => rfl⟩
    · rintro f i I1 hi ⟨h0, h1, h2⟩ hn9
      obtain ⟨i', rfl⟩ := Int.eq_ofNat_of_zero_le h0
      rw [f_X12_touches_L2, h2 0 33 (by decide), t2, vp_narZ (Or.inl rfl)]
      simp (disch := omega) only [zI_le, nm_cz, zI_cl, nm_l_eq, zI_inc]
      rw [if_neg (by omega), show ((i' : Nat) : Int).toNat = i' from rfl]
      refine hn9 _ ⟨by omega, ?_, ?_⟩
      · intro g hg
        rw [nm_up_ap]
        by_cases hgi : g = i'
        · rw [if_pos ⟨rfl, hgi⟩]
        · rw [if_neg (fun h => hgi h.2)]
          exact h1 g (by omega)
      · intro n j hn
        rw [nm_up_ap, if_neg (fun h => hn h.1)]
        exact h2 n j hn
    · rintro f I1 ⟨h0, h1, h2⟩
      rw [f_X12_touches_L2, h2 0 33 (by decide), t2]
      simp (disch := omega) only [zI_le, Int.le_refl, if_true]
      exact wp_r ⟨fun g hg => h1 g (by omega), h2⟩
  rintro I1 ⟨h1, h2⟩
  have hO1 : oR I1 D := oR_fr hO (fun j => h2 20 j (by decide))
  -- hits
  refine wp_s1 (fun I2 => (∀ g, g < cnt → I2 33 g = if hitP r (rl D b) (lc r) 4096 g = true then 1 else 0) ∧ ∀ n j, n ≠ 33 → I2 n j = I n j) ?_ ?_
  · rw [zI_0]
    refine lpc (fun f => f_X12_touches_L25 (zI (k : Nat)) f) _ 4096 (fun i I2 => 0 ≤ i ∧ (∀ g, g < cnt → I2 33 g = if hitP r (rl D b) (lc r) i.toNat g = true then 1 else 0) ∧ ∀ n j, n ≠ 33 → I2 n j = I n j) ?_ ?_ nm_F 0 I1 (by omega) (by rw [nm_F_eq]; omega) ⟨by omega, ?_, h2⟩
    · rintro f i I2 hi ⟨h0, k1, k2⟩ hn9
      obtain ⟨s, rfl⟩ := Int.eq_ofNat_of_zero_le h0
      have es : ((s : Nat) : Int).toNat = s := rfl
      have es1 : (((s : Nat) : Int) + 1).toNat = s + 1 := by omega
      rw [es] at k1
      have hskip : (r s = true → rl D b s = true → False) → wp (f_X12_touches_J73 (zI ((s : Nat) : Int)) I2 (f_X12_touches_L25 (zI (k : Nat)) f)) (fun I2 => (∀ g, g < cnt → I2 33 g = if hitP r (rl D b) (lc r) 4096 g = true then 1 else 0) ∧ ∀ n j, n ≠ 33 → I2 n j = I n j) := by
        intro hno
        unfold f_X12_touches_J73
        rw [zI_inc]
        refine hn9 _ ⟨by omega, fun g hg => ?_, k2⟩
        rw [es1, hitP_no (fun a b => absurd b (fun b => hno a b))]
        exact k1 g hg
      have hrng := Lab_rng hL (show s < 4096 by omega)
      have hrlb : rl D b s = D (4096 * b + s) := by
        have : s < 4096 := by omega
        simp [rl, this]
      have ob := oR_0 hO (p := 4096 * b + s) (by omega)
      show wp (f_X12_touches_L25 _ (f + 1) (zI ((s : Nat) : Int)) I2) _
      rw [f_X12_touches_L25, vp_narZ (Or.inr rfl)]
      simp (disch := omega) only [zI_lit, zI_le, nm_cz, zI_cl]
      rw [if_neg (by omega), es, show ((k : Nat) : Int).toNat = k from rfl, k2 28 s (by decide), t1 s (by omega), k2 11 k (by decide), hbm, ← zI_0]
      refine wp_if (fun h => hskip (fun hr9 _ => ?_)) (fun h => ?_)
      · rw [zI_0, zI_lt (by omega) (by omega) (by omega) (by omega)] at h
        have := hrng.2.2.mpr hr9
        omega
      have hrs : r s = true := hrng.2.2.mp (by
        rw [zI_0, zI_lt (by omega) (by omega) (by omega) (by omega)] at h
        omega)
      simp (disch := omega) only [zI_mul, zI_add, nm_cz, zI_cl]
      rw [show (4096 * ((b : Nat) : Int) + ((s : Nat) : Int)).toNat = 4096 * b + s by omega, k2 20 _ (by decide)]
      refine wp_if (fun h3 => hskip (fun _ hb9 => ?_)) (fun h3 => ?_)
      · rw [hrlb, ob.mp h3] at hb9
        exact absurd hb9 (by decide)
      have hb9 : rl D b s = true := by
        rw [hrlb]
        cases hd : D (4096 * b + s) with
        | true => rfl
        | false => exact absurd (ob.mpr hd) h3
      have hge : 0 ≤ lc r s := hrng.2.2.mpr hrs
      obtain ⟨g0, hg0⟩ := Int.eq_ofNat_of_zero_le hge
      rw [hg0]
      simp (disch := omega) only [nm_cz, zI_cl, nm_l_eq, f_X12_touches_J73]
      rw [show zI 1 = (1 : Int32) from rfl, zI_inc, show ((g0 : Nat) : Int).toNat = g0 from rfl]
      refine hn9 _ ⟨by omega, fun g hg => ?_, fun n j hn => ?_⟩
      · rw [nm_up_ap, es1]
        by_cases hgg : g = g0
        · subst hgg
          rw [if_pos ⟨rfl, rfl⟩, hitP_yes hrs hb9 hg0, if_pos rfl]
        · rw [if_neg (fun h => hgg h.2), k1 g hg, hitP_no (fun _ _ h3 => by rw [hg0] at h3; exact absurd (by omega) hgg)]
      · rw [nm_up_ap, if_neg (fun h => hn h.1)]
        exact k2 n j hn
    · rintro f I2 ⟨h0, k1, k2⟩
      show wp (f_X12_touches_L25 _ (f + 1) (zI 4096) I2) _
      rw [f_X12_touches_L25]
      simp (disch := omega) only [zI_lit, zI_le, Int.le_refl, if_true]
      exact wp_r ⟨k1, k2⟩
    · intro g hg
      have : hitP r (rl D b) (lc r) (0 : Int).toNat g = false := bP_f.mpr (by
        rintro ⟨q, h, -⟩
        exact absurd h (Nat.not_lt_zero _))
      rw [this, h1 g hg]
      rfl
  rintro I2 ⟨k1, k2⟩
  -- the hit parts' squares
  refine wp_s1 (fun I' => oR I' (setL D k (tcP r (rl D b))) ∧ ∀ n j, n ≠ 20 → n ≠ 33 → I' n j = I n j) ?_ (fun _ h => wp_r h)
  rw [zI_0]
  refine lpc (fun f => f_X12_touches_L81 (zI (k : Nat)) f) _ 4096 (fun i I3 => 0 ≤ i ∧ oR I3 (midL D k (tcP r (rl D b)) i.toNat) ∧ ∀ n j, n ≠ 20 → I3 n j = I2 n j) ?_ ?_ nm_F 0 I2 (by omega) (by rw [nm_F_eq]; omega) ⟨by omega, ?_, fun _ _ _ => rfl⟩
  · rintro f i I3 hi ⟨h0, j1, j2⟩ hn9
    obtain ⟨s, rfl⟩ := Int.eq_ofNat_of_zero_le h0
    have es : ((s : Nat) : Int).toNat = s := rfl
    have es1 : (((s : Nat) : Int) + 1).toNat = s + 1 := by omega
    rw [es] at j1
    have hgo : ∀ v : Int32, v = (if tcP r (rl D b) s = true then 1 else 0) → wp (f_X12_touches_J127 (zI ((s : Nat) : Int)) v (zI (4096 * (k : Nat) + ((s : Nat) : Int))) I3 (f_X12_touches_L81 (zI (k : Nat)) f)) (fun I' => oR I' (setL D k (tcP r (rl D b))) ∧ ∀ n j, n ≠ 20 → n ≠ 33 → I' n j = I n j) := by
      intro v hv
      unfold f_X12_touches_J127
      have h01 := b01 (tcP r (rl D b) s)
      rw [← hv] at h01
      refine wp_cz (by omega) (by omega) (by omega) ?_
      rw [nm_l_eq, vp_narZ h01, zI_inc, zI_cl (by omega) (by omega), show (4096 * ((k : Nat) : Int) + ((s : Nat) : Int)).toNat = 4096 * k + s by omega]
      refine hn9 _ ⟨by omega, ?_, fun n j hn => ?_⟩
      · rw [es1]
        exact oR_mid j1 hv
      · rw [nm_up_ap, if_neg (fun h => hn h.1)]
        exact j2 n j hn
    have hrng := Lab_rng hL (show s < 4096 by omega)
    have htc := lc_tc (r := r) (rb := rl D b) (q := s) (by omega)
    show wp (f_X12_touches_L81 _ (f + 1) (zI ((s : Nat) : Int)) I3) _
    rw [f_X12_touches_L81]
    simp (disch := omega) only [zI_lit, zI_le, nm_cz, zI_cl, zI_mul, zI_add]
    rw [if_neg (by omega), es, j2 28 s (by decide), k2 28 s (by decide), t1 s (by omega)]
    unfold f_X12_touches_J126
    refine wp_if (fun h => hgo _ ?_) (fun h => ?_)
    · have : r s = false := by
        cases hrs : r s with
        | false => rfl
        | true =>
          have h9 := hrng.2.2.mpr hrs
          rw [zI_lt (by omega) (by omega) (by omega) (by omega)] at h
          omega
      rw [← htc, this]
      rfl
    have hrs : r s = true := hrng.2.2.mp (by
      rw [zI_lt (by omega) (by omega) (by omega) (by omega)] at h
      omega)
    have hge : 0 ≤ lc r s := hrng.2.2.mpr hrs
    obtain ⟨g0, hg0⟩ := Int.eq_ofNat_of_zero_le hge
    rw [hg0]
    simp (disch := omega) only [nm_cz, zI_cl]
    rw [show ((g0 : Nat) : Int).toNat = g0 from rfl, j2 33 g0 (by decide), k1 g0 (by omega)]
    rw [hrs, hg0, show ((g0 : Nat) : Int).toNat = g0 from rfl, Bool.true_and] at htc
    refine wp_if (fun h => hgo _ ?_) (fun h => hgo _ ?_)
    · rw [← htc, (ite_z _).mp h]
      rfl
    · rw [← htc]
      cases hd : hitP r (rl D b) (lc r) 4096 g0 with
      | true => rfl
      | false => exact absurd ((ite_z _).mpr hd) h
  · rintro f I3 ⟨h0, j1, j2⟩
    show wp (f_X12_touches_L81 _ (f + 1) (zI 4096) I3) _
    rw [f_X12_touches_L81]
    simp (disch := omega) only [zI_lit, zI_le, Int.le_refl, if_true]
    refine wp_r ⟨j1, fun n j a b => by rw [j2 n j a, k2 n j b]⟩
  · rw [show (0 : Int).toNat = 0 from rfl, midL_0]
    exact oR_fr hO (fun j => k2 20 j (by decide))
