/-! all rules, on both sides -/
abbrev ro : Type := Nat → Nat × Nat × Nat × Nat
def rok (q : ro) (n : Nat) : Prop := n ≤ 16 ∧ ∀ i, i < n → (q i).1 ≤ 4 ∧ (q i).2.1 < 16 ∧ ((q i).1 = 2 → (q i).2.2.1 < 16 ∧ (q i).2.2.2 ≤ 9) ∧ (q i).2.2.2 ≤ 4096
def rX (M : cm) (q : ro) (n : Nat) : Prop := M.1 200 0 = zI (n : Nat) ∧ ∀ i, i < n → M.1 204 i = zI (((q i).1 : Nat) : Int) ∧ M.1 205 i = zI (((q i).2.1 : Nat) : Int) ∧ ((q i).1 = 2 → M.1 206 i = zI (((q i).2.2.1 : Nat) : Int)) ∧ M.1 207 i = zI (((q i).2.2.2 : Nat) : Int)
def rO (I : nm_I) (q : ro) (n : Nat) : Prop := I 0 39 = zI (n : Nat) ∧ ∀ i, i < n → I 36 i = zI (((q i).1 : Nat) : Int) ∧ I 37 i = zI (((q i).2.1 : Nat) : Int) ∧ ((q i).1 = 2 → I 38 i = zI (((q i).2.2.1 : Nat) : Int)) ∧ I 39 i = zI (((q i).2.2.2 : Nat) : Int)
noncomputable def ruL (D : Nat → Bool) (R : Nat) (t : Nat × Nat × Nat × Nat) (L : List ft) : List ft :=
  if t.1 = 2 then insL (rl D t.2.1) (rl D t.2.2.1) R t.2.2.2 4096 L else if t.1 = 3 then arL (rl D t.2.1) R t.2.2.2 (nP (rl D t.2.1)) L else if t.1 = 4 then shL (rl D t.2.1) R t.2.2.2 16 L else liL (rl D t.2.1) t.1 R t.2.2.2 L
theorem ruL_len (D : Nat → Bool) (R : Nat) (t : Nat × Nat × Nat × Nat) (L : List ft) : (ruL D R t L).length ≤ L.length + 8192 := by
  unfold ruL
  by_cases h2 : t.1 = 2
  · rw [if_pos h2]
    have := insL_len (rl D t.2.1) (rl D t.2.2.1) R t.2.2.2 4096 L
    omega
  rw [if_neg h2]
  by_cases h3 : t.1 = 3
  · rw [if_pos h3]
    have := arL_len (rl D t.2.1) R t.2.2.2 (nP (rl D t.2.1)) L
    have : nP (rl D t.2.1) ≤ 4096 := pc_le _ _
    omega
  rw [if_neg h3]
  by_cases h4 : t.1 = 4
  · rw [if_pos h4]
    have := shL_len (rl D t.2.1) R t.2.2.2 16 L
    omega
  rw [if_neg h4]
  unfold liL
  have h1 := mpL_len (fun y x => rl D t.2.1 (64 * y + x)) 64 1 t.1 R t.2.2.2 64 L
  have h5 := mpL_len (fun y x => rl D t.2.1 (64 * x + y)) 1 64 t.1 R t.2.2.2 64 (mpL (fun y x => rl D t.2.1 (64 * y + x)) 64 1 t.1 R t.2.2.2 64 L)
  omega
noncomputable def ruA (D : Nat → Bool) (q : ro) (n : Nat) : List ft := fo (fun i L => ruL D i (q i) L) n []
theorem ruA_s (D : Nat → Bool) (q : ro) (n : Nat) : ruA D q (n + 1) = ruL D n (q n) (ruA D q n) := rfl
theorem ruA_len (D : Nat → Bool) (q : ro) (n : Nat) : (ruA D q n).length ≤ 8192 * n := by
  induction n with
  | zero => exact Nat.le_refl _
  | succ n ih =>
    rw [ruA_s]
    have := ruL_len D n (q n) (ruA D q n)
    omega
/-- what holding the rules leaves as it was -/
def hoF (S S' : ca) : Prop := (∀ m, m ≠ 208 → m ≠ 111 → S'.1.2 m = S.1.2 m) ∧ (∀ x, x < 112 ∨ 117 < x → S'.2 x = S.2 x) ∧ ∀ n j, ¬ (n = 200 ∧ j = 2) → ¬ (201 ≤ n ∧ n ≤ 203) → ¬ (110 ≤ n ∧ n ≤ 117) → S'.1.1 n j = S.1.1 n j
theorem hoF_rf (S : ca) : hoF S S := ⟨fun _ _ _ => rfl, fun _ _ => rfl, fun _ _ _ _ _ => rfl⟩
theorem hoF_tr {S S1 S2 : ca} (h1 : hoF S S1) (h2 : hoF S1 S2) : hoF S S2 :=
  ⟨fun m a b => (h2.1 m a b).trans (h1.1 m a b), fun x a => (h2.2.1 x a).trans (h1.2.1 x a), fun n j a b d => (h2.2.2 n j a b d).trans (h1.2.2 n j a b d)⟩
theorem hoF_ru {S : ca} {M' : cm} (h : ruF S.1 M') : hoF S (M', S.2) := ⟨fun m a _ => h.1 m a, fun _ _ => rfl, fun n j a b _ => h.2 n j a b⟩
theorem hoF_fa {S : ca} {M' : cm} (h : faXF S.1 M') : hoF S (M', S.2) := ⟨fun m _ _ => by rw [show (M', S.2).1.2 = M'.2 from rfl, h.1], fun _ _ => rfl, fun n j a b _ => h.2 n j a b⟩
theorem faX_fr {M M' : cm} {L : List ft} (h : faX M L) (e : ∀ m j, 200 ≤ m → m ≤ 203 → M'.1 m j = M.1 m j) : faX M' L := by
  obtain ⟨h1, h2, h3, h4⟩ := h
  refine ⟨h1, (e _ _ (by omega) (by omega)).trans h2, fun i a b => ?_, fun r hr => ?_⟩
  · rw [e _ _ (by omega) (by omega), e _ _ (by omega) (by omega), e _ _ (by omega) (by omega), e _ _ (by omega) (by omega)]
    exact h3 i a b
  · rw [e _ _ (by omega) (by omega), e _ _ (by omega) (by omega)]
    exact h4 r hr
set_option maxHeartbeats 1000000 in
theorem w_holdR {D : Nat → Bool} {q : ro} {n : Nat} (hq : rok q n) {S0 : ca} (hc0 : cO S0.2) (h201 : 2400 ≤ S0.2 201) (hD : dR S0 D) (hr : rX S0.1 q n) (hL0 : faX S0.1 []) :
    wc sN (f_X8_hold_L37 nm_F (zI 0) S0) S0.2 (fun S' => cO S'.2 ∧ faX S'.1 (ruA D q n) ∧ hoF S0 S') := by
  obtain ⟨hn, hq⟩ := hq
  obtain ⟨hr0, hr⟩ := hr
  have key : ∀ (f i : Nat) (S : ca), i ≤ n → n - i < f → cO S.2 → faX S.1 (ruA D q i) → hoF S0 S → wc sN (f_X8_hold_L37 f (zI (i : Nat)) S) S.2 (fun S' => cO S'.2 ∧ faX S'.1 (ruA D q n) ∧ hoF S0 S') := by
    intro f
    induction f with
    | zero => intro i S h1 h2; omega
    | succ f ih =>
      intro i S hi hf hc hI hF
      have hlk := ruA_len D q i
      rw [f_X8_hold_L37, hF.2.2 200 0 (by omega) (by omega) (by omega), hr0]
      simp (disch := omega) only [zI_le]
      refine wc_if (fun h => ?_) (fun h => ?_)
      · have : i = n := by omega
        subst this
        exact wc_r ⟨hc, hI, hF⟩
      obtain ⟨k1, k2, k3, k4⟩ := hq i (by omega)
      obtain ⟨r1, r2, r3, r4⟩ := hr i (by omega)
      have s1 : S.1.1 204 i = _ := (hF.2.2 204 i (by omega) (by omega) (by omega)).trans r1
      have s2 : S.1.1 205 i = _ := (hF.2.2 205 i (by omega) (by omega) (by omega)).trans r2
      have s3 : (q i).1 = 2 → S.1.1 206 i = _ := fun hz => (hF.2.2 206 i (by omega) (by omega) (by omega)).trans (r3 hz)
      have s4 : S.1.1 207 i = _ := (hF.2.2 207 i (by omega) (by omega) (by omega)).trans r4
      have hN : 2400 ≤ S.2 201 := by rw [hF.2.1 201 (by omega)]; exact h201
      have hN8 : S.2 208 = 64 := cl_l208 hc.1
      have hDS : dR S D := fun y x hy hx => by rw [hF.1 101 (by omega) (by omega)]; exact hD y x hy hx
      have hnext : ∀ S' : ca, cO S'.2 → faX S'.1 (ruL D i (q i) (ruA D q i)) → hoF S S' → wc sN (f_X8_hold_J118 (zI (i : Nat)) S' (f_X8_hold_L37 f)) S'.2 (fun S' => cO S'.2 ∧ faX S'.1 (ruA D q n) ∧ hoF S0 S') := by
        intro S' a b d
        unfold f_X8_hold_J118
        rw [zI_inc]
        exact ih (i + 1) S' (by omega) (by omega) a b (hoF_tr hF d)
      rw [nm_cz (by omega) (by omega) (by omega), zI_cl (by omega) (by omega), Int.toNat_natCast, s1, show (2 : Int32) = zI 2 from rfl, show (3 : Int32) = zI 3 from rfl, show (4 : Int32) = zI 4 from rfl]
      simp (disch := omega) only [zI_eq]
      refine wc_if (fun h2 => ?_) (fun h2 => ?_)
      · have e2 : (q i).1 = 2 := by omega
        obtain ⟨k31, k32⟩ := k3 e2
        refine wc_s1 _ (w_holdInside hN hN8 hDS (by omega) k32 k2 k31 s4 s2 (s3 e2) (by omega) hI) ?_
        rintro M' ⟨z1, z2⟩
        rw [nm_l_eq]
        refine hnext (M', S.2) hc ?_ (hoF_ru z2)
        unfold ruL
        rw [if_pos e2]
        exact z1
      have e2 : ¬ (q i).1 = 2 := by omega
      refine wc_if (fun h3 => ?_) (fun h3 => ?_)
      · have e3 : (q i).1 = 3 := by omega
        rw [nm_cz (by omega) (by omega) (by omega), s2]
        unfold f_X3_piecesOf
        rw [show (64 : Int32) * zI (((q i).2.1 : Nat) : Int) = zI ((64 * (q i).2.1 : Nat) : Int) by rw [show (64 : Int32) = zI 64 from rfl, zI_mul]; rfl]
        refine wc_a1 (f := sN) (fun S' : ca => ∃ lab cnt, gT S' 110 (rl D (q i).2.1) lab cnt ∧ cO S'.2 ∧ hoF S S' ∧ ∀ m j, ¬ (110 ≤ m ∧ m ≤ 117) → S'.1.1 m j = S.1.1 m j) ?_ ?_
        · refine wc_a1 _ (w_find gM_110 (by omega) k2 hc hDS) ?_
          rintro S1 ⟨lab, cnt, g1, g2, g3, g4, g5⟩
          exact wc_r ⟨lab, cnt, g1, g2, ⟨fun m _ a => g3 m a, fun x hx => g4 x (by omega), fun m j _ _ d => g5 m j (by unfold frG; omega)⟩, fun m j d => g5 m j (by unfold frG; omega)⟩
        rintro S1 ⟨lab, cnt, g1, g2, g3, g4⟩
        have hL1 : faX S1.1 (ruA D q i) := faX_fr hI (fun m j a b => g4 m j (by omega))
        have hN1 : 2400 ≤ S1.2 201 := by rw [g3.2.1 201 (by omega)]; exact hN
        refine wc_s1 _ (w_holdArea hN1 rfl g1 hL1 (by omega) (R := i) (by omega) k4 ((g3.2.2 207 i (by omega) (by omega) (by omega)).trans s4)) ?_
        rintro M' ⟨z1, z2⟩
        rw [nm_l_eq]
        refine hnext (M', S1.2) g2 ?_ (hoF_tr g3 (hoF_fa z2))
        unfold ruL
        rw [if_neg e2, if_pos e3]
        exact z1
      have e3 : ¬ (q i).1 = 3 := by omega
      refine wc_if (fun h4 => ?_) (fun h4 => ?_)
      · have e4 : (q i).1 = 4 := by omega
        refine wc_s1 _ (w_holdShare hN hDS (by omega) k4 k2 s4 s2 (by omega) hI) ?_
        rintro M' ⟨z1, z2⟩
        rw [nm_l_eq]
        refine hnext (M', S.2) hc ?_ (hoF_fa z2)
        unfold ruL
        rw [if_neg e2, if_neg e3, if_pos e4]
        exact z1
      · have e4 : ¬ (q i).1 = 4 := by omega
        refine wc_s1 _ (w_holdLines hN hN8 hDS (by omega) k4 (show (q i).1 < 2 by omega) k2 s4 s1 s2 (by omega) hI) ?_
        rintro M' ⟨z1, z2⟩
        rw [nm_l_eq]
        refine hnext (M', S.2) hc ?_ (hoF_ru z2)
        unfold ruL
        rw [if_neg e2, if_neg e3, if_neg e4]
        exact z1
  exact key nm_F 0 S0 (by omega) (by rw [nm_F_eq]; omega) hc0 hL0 (hoF_rf S0)
/-- what a run of the rules leaves as it was -/
def hoX (S S' : ca) : Prop := (∀ m, m ≠ 208 → m ≠ 111 → S'.1.2 m = S.1.2 m) ∧ (∀ x, x ≠ 201 → x < 112 ∨ 117 < x → S'.2 x = S.2 x) ∧ ∀ n j, ¬ (n = 200 ∧ (j = 1 ∨ j = 2)) → ¬ (201 ≤ n ∧ n ≤ 203) → ¬ (110 ≤ n ∧ n ≤ 117) → S'.1.1 n j = S.1.1 n j
theorem w_hold {D : Nat → Bool} {q : ro} {n : Nat} (hq : rok q n) {S : ca} (hc : cO S.2) (hD : dR S D) (hr : rX S.1 q n) :
    wc iN (f_X8_hold S) S.2 (fun r => cO r.2.2 ∧ r.1 = zI (((ruA D q n).length : Nat) : Int) ∧ faX r.2.1 (ruA D q n) ∧ r.2.1.1 200 1 = 1 ∧ 2400 ≤ r.2.2 201 ∧ hoX S r.2) := by
  unfold f_X8_hold
  rw [show (2400 : Int32) = zI ((2400 : Nat) : Int) from rfl]
  refine wc_a1 _ (w_grow (n := 201) (by decide) (m := 2400) (by decide) hc) ?_
  rintro S1 ⟨g1, g2, g3, g4, g5⟩
  simp only [nm_l_eq]
  have e202 : S1.2 202 = 16 := cl_l202 g2.1
  have e203 : S1.2 203 = 16 := g2.1 (203, 16) (by decide)
  rw [w_fillI (a := 202) (by show S1.2 202 ≤ _; omega), nm_s1_some, w_fillI (a := 203) (by show S1.2 203 ≤ _; omega), nm_s1_some]
  show wc iN (nm_a1 (f_X8_hold_L37 nm_F 0 ((va_up (va_up (nm_up S1.1.1 200 2 0) 202 (fun j => if j < S1.2 202 then 0 else nm_up S1.1.1 200 2 0 202 j)) 203 (fun j => if j < S1.2 203 then -1 else va_up (nm_up S1.1.1 200 2 0) 202 (fun j => if j < S1.2 202 then 0 else nm_up S1.1.1 200 2 0 202 j) 203 j), S1.1.2), S1.2)) _) _ _
  obtain ⟨A, hA⟩ : ∃ A, A = va_up (va_up (nm_up S1.1.1 200 2 0) 202 (fun j => if j < S1.2 202 then 0 else nm_up S1.1.1 200 2 0 202 j)) 203 (fun j => if j < S1.2 203 then -1 else va_up (nm_up S1.1.1 200 2 0) 202 (fun j => if j < S1.2 202 then 0 else nm_up S1.1.1 200 2 0 202 j) 203 j) := ⟨_, rfl⟩
  have a1 : ∀ m j, ¬ (m = 200 ∧ j = 2) → m ≠ 202 → m ≠ 203 → A m j = S1.1.1 m j := fun m j x y z => by
    rw [hA, va_up_ne _ _ z, va_up_ne _ _ y, nm_up_ap, if_neg x]
  have a2 : A 200 2 = 0 := by
    rw [hA, va_up_ne _ _ (by decide), va_up_ne _ _ (by decide), nm_up_ap, if_pos ⟨rfl, rfl⟩]
  have a3 : ∀ j, j < 16 → A 202 j = 0 := fun j hj => by
    rw [hA, va_up_ne _ _ (by decide), va_up_self, e202, if_pos hj]
  have a4 : ∀ j, j < 16 → A 203 j = -1 := fun j hj => by
    rw [hA, va_up_self, e203, if_pos hj]
  rw [← hA]
  clear hA
  have hL0 : faX (A, S1.1.2) [] := ⟨rng_nil, a2.trans zI_0, fun i hi => absurd hi (Nat.not_lt_zero _), fun r hr => ⟨(a3 r hr).trans zI_0, (a4 r hr).trans rfl⟩⟩
  have hr1 : rX (A, S1.1.2) q n := by
    obtain ⟨r0, r1⟩ := hr
    have ez : ∀ m j, ¬ (m = 200 ∧ j = 2) → ¬ (201 ≤ m ∧ m ≤ 203) → A m j = S.1.1 m j := fun m j x y => (a1 m j x (by omega) (by omega)).trans (congrFun (g5 m (by omega)) j)
    refine ⟨(ez 200 0 (by omega) (by omega)).trans r0, fun i hi => ?_⟩
    obtain ⟨u1, u2, u3, u4⟩ := r1 i hi
    exact ⟨(ez _ _ (by omega) (by omega)).trans u1, (ez _ _ (by omega) (by omega)).trans u2, fun hz => (ez _ _ (by omega) (by omega)).trans (u3 hz), (ez _ _ (by omega) (by omega)).trans u4⟩
  have hD1 : dR ((A, S1.1.2), S1.2) D := fun y x hy hx => by
    show bx (S1.1.2 101 y) x = _
    rw [g4]
    exact hD y x hy hx
  rw [zI_0]
  refine wc_a1 _ (w_holdR (S0 := ((A, S1.1.2), S1.2)) hq g2 g1 hD1 hr1 hL0) ?_
  rintro S2 ⟨u1, u2, u3, u4, u5⟩
  obtain ⟨B, hB⟩ : ∃ B, B = nm_up S2.1.1 200 1 1 := ⟨_, rfl⟩
  rw [show ((1 : Int32)) = 1 from rfl, ← hB]
  have b1 : ∀ m j, ¬ (m = 200 ∧ j = 1) → B m j = S2.1.1 m j := fun m j x => by rw [hB, nm_up_ap, if_neg x]
  have b2 : B 200 1 = 1 := by rw [hB, nm_up_ap, if_pos ⟨rfl, rfl⟩]
  clear hB
  have hfB : faX (B, S2.1.2) (ruA D q n) := by
    obtain ⟨y1, y2, y3, y4⟩ := u2
    refine ⟨y1, (b1 _ _ (by omega)).trans y2, fun i x y => ?_, fun r x => ?_⟩
    · obtain ⟨w1, w2, w3, w4⟩ := y3 i x y
      exact ⟨(b1 _ _ (by omega)).trans w1, (b1 _ _ (by omega)).trans w2, (b1 _ _ (by omega)).trans w3, (b1 _ _ (by omega)).trans w4⟩
    · obtain ⟨w1, w2⟩ := y4 r x
      exact ⟨(b1 _ _ (by omega)).trans w1, (b1 _ _ (by omega)).trans w2⟩
  refine wc_ri ⟨u1, hfB.2.1, hfB, b2, ?_, ?_, ?_, ?_⟩
  · show 2400 ≤ S2.2 201
    rw [u4 201 (by omega)]
    exact g1
  · intro m x y
    show S2.1.2 m = S.1.2 m
    rw [u3 m x y]
    show S1.1.2 m = _
    rw [g4]
  · intro x y z
    show S2.2 x = _
    rw [u4 x z]
    exact g3 x y
  · intro m j x y z
    show B m j = _
    rw [b1 m j (by omega), u5 m j (by omega) y z]
    show A m j = _
    rw [a1 m j (by omega) (by omega) (by omega), g5 m (by omega)]
