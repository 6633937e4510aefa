set_option maxHeartbeats 4000000 in
theorem w_makes {D : Nat → Bool} {k a b : Nat} {op : Int} (hk : k < 16) (hop : -1 ≤ op) (hop5 : op ≤ 5) (ha : a < k) (hb : (op = 3 ∨ op = 4) → b ≤ 9) (hb2 : (op ≠ 3 ∧ op ≠ 4) → b < k) {I : nm_I} (hO : oR I D) (e9 : I 9 k = zI op) (e10 : I 10 k = zI (a : Nat)) (e11 : I 11 k = zI (b : Nat)) :
    wp (f_X12_makes (zI (k : Nat)) I) (fun I' => oR I' (setL D k (mkP D op a b)) ∧ mkF I I') := by
  obtain ⟨fn, hfn⟩ : ∃ fn : Nat → Bool, fn = fun q => if op = 5 then false else mkP D op a b q := ⟨_, rfl⟩
  -- the squares, one behind the other
  have hloop : ∀ I1, oR I1 D → mkF I I1 → wp (f_X12_makes_L38 (zI (k : Nat)) (zI (4096 * (k : Nat))) nm_F (zI 0) I1) (fun I2 => oR I2 (setL D k fn) ∧ (∀ n j, n ≠ 20 → I2 n j = I1 n j)) := by
    intro I1 hO1 hF1
    refine lpc (fun f => f_X12_makes_L38 (zI (k : Nat)) (zI (4096 * (k : Nat))) f) _ 4096 (fun i I2 => 0 ≤ i ∧ oR I2 (midL D k fn i.toNat) ∧ ∀ n j, n ≠ 20 → I2 n j = I1 n j) ?_ ?_ nm_F 0 I1 (by omega) (by rw [nm_F_eq]; omega) ⟨by omega, ?_, fun _ _ _ => rfl⟩
    · rintro f i I2 hi ⟨h0, j1, j2⟩ hn9
      obtain ⟨s, rfl⟩ := Int.eq_ofNat_of_zero_le h0
      have es : ((s : Nat) : Int).toNat = s := rfl
      have es1 : (((s : Nat) : Int) + 1).toNat = s + 1 := by omega
      rw [es] at j1
      have m9 : I2 9 k = zI op := by rw [j2 9 k (by decide), hF1 9 k (by decide) (by decide) (by omega), e9]
      have m10 : I2 10 k = zI (a : Nat) := by rw [j2 10 k (by decide), hF1 10 k (by decide) (by decide) (by omega), e10]
      have m11 : I2 11 k = zI (b : Nat) := by rw [j2 11 k (by decide), hF1 11 k (by decide) (by decide) (by omega), e11]
      have hgo : ∀ v : Int32, v = (if fn s = true then 1 else 0) → wp (f_X12_makes_J313 (zI ((s : Nat) : Int)) (nm_up I2 20 (4096 * k + s) v) (f_X12_makes_L38 (zI (k : Nat)) (zI (4096 * (k : Nat))) f)) (fun I2 => oR I2 (setL D k fn) ∧ (∀ n j, n ≠ 20 → I2 n j = I1 n j)) := by
        intro v hv
        unfold f_X12_makes_J313
        rw [zI_inc]
        refine hn9 _ ⟨by omega, ?_, fun n j hn => ?_⟩
        · rw [es1]
          exact oR_mid j1 hv
        · rw [nm_up_ap, if_neg (fun h => hn h.1)]
          exact j2 n j hn
      have ek : (4096 * ((k : Nat) : Int) + ((s : Nat) : Int)).toNat = 4096 * k + s := by omega
      have hJ190 : ∀ v : Int32, v = (if fn s = true then 1 else 0) → wp (f_X12_makes_J190 (zI ((s : Nat) : Int)) v (zI (4096 * (k : Nat) + ((s : Nat) : Int))) I2 (f_X12_makes_L38 (zI (k : Nat)) (zI (4096 * (k : Nat))) f)) (fun I2 => oR I2 (setL D k fn) ∧ (∀ n j, n ≠ 20 → I2 n j = I1 n j)) := by
        intro v hv
        have h01 := b01 (fn s)
        rw [← hv] at h01
        unfold f_X12_makes_J190
        refine wp_cz (by omega) (by omega) (by omega) ?_
        rw [nm_l_eq, vp_narZ h01, zI_cl (by omega) (by omega), ek]
        exact hgo v hv
      have hrl : ∀ l, l < k → rl D l s = D (4096 * l + s) := fun l _ => by
        have : s < 4096 := by omega
        simp [rl, this]
      have hon : ∀ l, l < k → (I2 20 (4096 * l + s) = 0 ↔ rl D l s = false) := by
        intro l hl
        rw [oR_0 j1 (by omega), hrl l hl]
        unfold midL
        rw [if_neg (by omega)]
      have hfs : op ≠ 5 → fn s = mkP D op a b s := fun h5 => by
        rw [hfn]
        show (if op = 5 then false else mkP D op a b s) = _
        rw [if_neg h5]
      have hJ125 : ∀ (A B : Bool) (ta tb : Int32), ta = (if A = true then 1 else 0) → tb = (if B = true then 1 else 0) → (op = 0 → fn s = (A && B)) → (op = 1 → fn s = (A || B)) → (op = 2 → fn s = (A && !B)) → wp (f_X12_makes_J125 (zI (k : Nat)) (zI (4096 * (k : Nat))) (zI ((s : Nat) : Int)) ta tb I2 (f_X12_makes_L38 (zI (k : Nat)) (zI (4096 * (k : Nat))) f)) (fun I2 => oR I2 (setL D k fn) ∧ (∀ n j, n ≠ 20 → I2 n j = I1 n j)) := by
        intro A B ta tb hta htb o0 o1 o2
        subst hta
        subst htb
        unfold f_X12_makes_J125 f_X12_makes_J189 f_X12_makes_J211 f_X12_makes_J241
        refine wp_cz (by omega) (by omega) (by omega) ?_
        rw [zI_cl (by omega) (by omega), show ((k : Nat) : Int).toNat = k from rfl, m9]
        simp (disch := omega) only [zI_lit, zI_eq, zI_add]
        refine wp_if (fun h => ?_) (fun h => ?_)
        · have o := o0 h
          cases A with
          | false => exact hJ190 _ (by rw [o]; rfl)
          | true =>
            cases B with
            | false => exact hJ190 _ (by rw [o]; rfl)
            | true => exact hJ190 _ (by rw [o]; rfl)
        refine wp_if (fun h1 => ?_) (fun h1 => ?_)
        · have o := o1 h1
          cases A with
          | true => exact hJ190 _ (by rw [o]; rfl)
          | false =>
            cases B with
            | false => exact hJ190 _ (by rw [o]; rfl)
            | true => exact hJ190 _ (by rw [o]; rfl)
        refine wp_if (fun h2 => ?_) (fun h2 => ?_)
        · have o := o2 h2
          cases A with
          | false => exact hJ190 _ (by rw [o]; rfl)
          | true =>
            cases B with
            | false => exact hJ190 _ (by rw [o]; rfl)
            | true => exact hJ190 _ (by rw [o]; rfl)
        have har : ∀ g : Bool, (g = true → op = 3) → (g = false → op = 4) → f_X12_around (zI (a : Nat)) (zI ((s : Nat) : Int)) (zI (b : Nat)) (if g = true then 0 else 1) I2 = some (if fn s = true then 1 else 0) := by
          intro g g1 g2
          have h34 : op = 3 ∨ op = 4 := by
            cases g with
            | true => exact Or.inl (g1 rfl)
            | false => exact Or.inr (g2 rfl)
          have hw := w_around j1 (a := a) (s := s) (n := b) (by omega) (by omega) (hb h34) g
          rw [rl_mid (by omega) (by omega)] at hw
          rw [hw]
          have : sp g (rl D a) b s = mkP D op a b s := by
            unfold mkP
            cases g with
            | true => rw [g1 rfl]; rfl
            | false => rw [g2 rfl]; rfl
          rw [this, hfs (by omega)]
        have h01 := b01 (fn s)
        refine wp_if (fun h3 => ?_) (fun h3 => ?_)
        · rw [m10, m11]
          simp (disch := omega) only [nm_cz]
          rw [show (zI 0 : Int32) = (if true = true then 0 else 1) from rfl, har true (fun _ => h3) (fun h => absurd h (by decide))]
          simp (disch := omega) only [nm_s1_some, nm_cz, zI_cl, nm_l_eq, vp_narZ h01]
          rw [ek]
          exact hgo _ rfl
        refine wp_if (fun h4 => ?_) (fun h4 => ?_)
        · rw [m10, m11]
          simp (disch := omega) only [nm_cz]
          rw [show (zI 1 : Int32) = (if false = true then 0 else 1) from rfl, har false (fun h => absurd h (by decide)) (fun _ => h4)]
          simp (disch := omega) only [nm_s1_some, nm_cz, zI_cl, nm_l_eq, vp_narZ h01]
          rw [ek]
          exact hgo _ rfl
        have hf0 : fn s = false := by
          rw [hfn]
          show (if op = 5 then false else mkP D op a b s) = false
          by_cases h5 : op = 5
          · rw [if_pos h5]
          · rw [if_neg h5]
            unfold mkP
            rw [if_neg h, if_neg h1, if_neg h2, if_neg h3, if_neg h4, if_neg h5]
        simp (disch := omega) only [nm_cz, zI_cl, nm_l_eq]
        rw [ek, show vp_nar .boolean (zI 0) = 0 from rfl]
        exact hgo _ (by rw [hf0]; rfl)
      have hm0 : op = 0 → fn s = (rl D a s && rl D b s) := fun h => by rw [hfs (by omega)]; unfold mkP; rw [if_pos h]
      have hm1 : op = 1 → fn s = (rl D a s || rl D b s) := fun h => by rw [hfs (by omega)]; unfold mkP; rw [if_neg (by omega), if_pos h]
      have hm2 : op = 2 → fn s = (rl D a s && !rl D b s) := fun h => by rw [hfs (by omega)]; unfold mkP; rw [if_neg (by omega), if_neg (by omega), if_pos h]
      have hJ79 : ∀ (A : Bool) (ta : Int32), ta = (if A = true then 1 else 0) → (0 ≤ op → op < 3 → A = rl D a s) → wp (f_X12_makes_J79 (zI (k : Nat)) (zI (4096 * (k : Nat))) (zI ((s : Nat) : Int)) ta I2 (f_X12_makes_L38 (zI (k : Nat)) (zI (4096 * (k : Nat))) f)) (fun I2 => oR I2 (setL D k fn) ∧ (∀ n j, n ≠ 20 → I2 n j = I1 n j)) := by
        intro A ta hta hA
        unfold f_X12_makes_J79 f_X12_makes_J124
        refine wp_cz (by omega) (by omega) (by omega) ?_
        rw [zI_cl (by omega) (by omega), show ((k : Nat) : Int).toNat = k from rfl, m9, m11]
        simp (disch := omega) only [zI_lit, zI_lt, zI_le, nm_cz, zI_mul, zI_add]
        refine wp_if (fun h => hJ125 A false ta _ hta rfl (fun h9 => by omega) (fun h9 => by omega) (fun h9 => by omega)) (fun h => ?_)
        refine wp_if (fun h3 => hJ125 A false ta _ hta rfl (fun h9 => by omega) (fun h9 => by omega) (fun h9 => by omega)) (fun h3 => ?_)
        have hbk := hb2 ⟨by omega, by omega⟩
        have hAe := hA (by omega) (by omega)
        rw [zI_cl (by omega) (by omega), show (4096 * ((b : Nat) : Int) + ((s : Nat) : Int)).toNat = 4096 * b + s by omega]
        refine wp_if (fun h4 => ?_) (fun h4 => ?_)
        · have hB := (hon b hbk).mp h4
          exact hJ125 A false ta _ hta rfl (fun h9 => by rw [hm0 h9, hAe, hB]) (fun h9 => by rw [hm1 h9, hAe, hB]) (fun h9 => by rw [hm2 h9, hAe, hB])
        · have hB : rl D b s = true := by
            cases hd : rl D b s with
            | true => rfl
            | false => exact absurd ((hon b hbk).mpr hd) h4
          exact hJ125 A true ta _ hta rfl (fun h9 => by rw [hm0 h9, hAe, hB]) (fun h9 => by rw [hm1 h9, hAe, hB]) (fun h9 => by rw [hm2 h9, hAe, hB])
      show wp (f_X12_makes_L38 _ _ (f + 1) (zI ((s : Nat) : Int)) I2) _
      rw [f_X12_makes_L38]
      unfold f_X12_makes_J78
      rw [zI_cl (by omega) (by omega), show ((k : Nat) : Int).toNat = k from rfl, m9, m10]
      simp (disch := omega) only [zI_lit, zI_lt, zI_le, nm_cz, zI_mul, zI_add, zI_cl]
      rw [if_neg (by omega), show (4096 * ((a : Nat) : Int) + ((s : Nat) : Int)).toNat = 4096 * a + s by omega]
      refine wp_if (fun h => hJ79 false _ rfl (fun h9 => by omega)) (fun h => ?_)
      refine wp_if (fun h4 => hJ79 false _ rfl (fun _ _ => ((hon a ha).mp h4).symm)) (fun h4 => ?_)
      have hA : rl D a s = true := by
        cases hd : rl D a s with
        | true => rfl
        | false => exact absurd ((hon a ha).mpr hd) h4
      exact hJ79 true _ rfl (fun _ _ => hA.symm)
    · rintro f I2 ⟨h0, j1, j2⟩
      show wp (f_X12_makes_L38 _ _ (f + 1) (zI 4096) I2) _
      rw [f_X12_makes_L38]
      simp (disch := omega) only [zI_lit, zI_le, Int.le_refl, if_true]
      exact wp_r ⟨j1, j2⟩
    · rw [show (0 : Int).toNat = 0 from rfl, midL_0]
      exact hO1
  have hJ36 : ∀ I1, oR I1 D → mkF I I1 → (op = 5 → tR I1 (rl D a)) → wp (f_X12_makes_J36 (zI (k : Nat)) (zI (4096 * (k : Nat))) I1) (fun I' => oR I' (setL D k (mkP D op a b)) ∧ mkF I I') := by
    intro I1 hO1 hF1 hT
    unfold f_X12_makes_J36
    rw [zI_0]
    refine wp_s1 _ (hloop I1 hO1 hF1) ?_
    rintro I2 ⟨j1, j2⟩
    have hF2 : mkF I I2 := fun n j a1 a2 a3 => by rw [j2 n j a1]; exact hF1 n j a1 a2 a3
    refine wp_cz (by omega) (by omega) (by omega) ?_
    rw [zI_cl (by omega) (by omega), show ((k : Nat) : Int).toNat = k from rfl, hF2 9 k (by decide) (by decide) (by omega), e9]
    simp (disch := omega) only [zI_lit, zI_eq]
    refine wp_if (fun h5 => ?_) (fun h5 => ?_)
    · have hT2 : tR I2 (rl D a) := by
        obtain ⟨t1, t2, t3⟩ := hT h5
        refine ⟨fun q hq => by rw [j2 28 q (by decide)]; exact t1 q hq, by rw [j2 0 33 (by decide)]; exact t2, fun g hg => ?_⟩
        obtain ⟨x, y, z, c1, c2, c3, c4⟩ := t3 g hg
        exact ⟨x, y, z, c1, by rw [j2 29 g (by decide)]; exact c2, by rw [j2 31 g (by decide)]; exact c3, by rw [j2 30 g (by decide)]; exact c4⟩
      have hbk := hb2 ⟨by omega, by omega⟩
      refine wp_s1 _ (w_touches (b := b) hk (by omega) j1 hT2 (by rw [hF2 11 k (by decide) (by decide) (by omega)]; exact e11) (by omega)) ?_
      rintro I3 ⟨q1, q2⟩
      refine wp_r ⟨?_, fun n j a1 a2 a3 => by rw [q2 n j a1 (by omega)]; exact hF2 n j a1 a2 a3⟩
      have e1 : rl (setL D k fn) b = rl D b := by
        rw [← midL_e]
        exact rl_mid (by omega) (by omega)
      rw [e1] at q1
      intro p hp
      rw [q1 p hp]
      unfold setL mkP
      rw [h5]
      by_cases hc : 4096 * k ≤ p ∧ p < 4096 * k + 4096
      · rw [if_pos hc, if_pos hc]
        rfl
      · rw [if_neg hc, if_neg hc, if_neg hc]
    · refine wp_r ⟨?_, hF2⟩
      have : fn = mkP D op a b := by
        rw [hfn]
        funext q
        show (if op = 5 then false else mkP D op a b q) = _
        rw [if_neg h5]
      rw [← this]
      exact j1
  unfold f_X12_makes
  simp (disch := omega) only [nm_l_eq, zI_lit, zI_mul, nm_cz, zI_cl]
  rw [show ((k : Nat) : Int).toNat = k from rfl, e9, e10]
  simp (disch := omega) only [zI_eq, zI_mul]
  refine wp_if (fun h5 => ?_) (fun h5 => ?_)
  · rw [show (4096 : Int) * ((a : Nat) : Int) = ((4096 * a : Nat) : Int) by omega]
    refine wp_s1 _ (w_findPieces (a := a) (b := a) (by omega) (by omega) hO) ?_
    rintro I1 ⟨t1, t2, t3⟩
    rw [rcm_self] at t1
    exact hJ36 I1 t2 (fun n j a1 a2 a3 => t3 n j (by omega) a3) (fun _ => t1)
  · exact hJ36 I hO (fun _ _ _ _ _ => rfl) (fun h => absurd h h5)
