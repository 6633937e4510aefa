/-! the parts of a plane -/
def Ap (r : Nat → Bool) (a b : Nat) : Prop := Ah r a b ∨ (b = a + 64 ∧ b < 4096 ∧ r a = true ∧ r b = true)
def CP (r : Nat → Bool) : Nat → Nat → Prop := Cn (Ap r)
theorem CP_rf {r : Nat → Bool} (a : Nat) : CP r a a := Cn_rf a
theorem CP_sy {r : Nat → Bool} (a b : Nat) (h : CP r a b) : CP r b a := Cn_sy h
theorem CP_tr {r : Nat → Bool} (a b c : Nat) (h : CP r a b) (h2 : CP r b c) : CP r a c := Cn_tr h h2
theorem Ah_stp {r : Nat → Bool} {a b : Nat} (h : Ah r a b) : stp r a = stp r b := by
  obtain ⟨h1, h2, h3, h4⟩ := h
  have := stp_left (r := r) (p := b) h4 (by rw [show b - 1 = a by omega]; exact h3) (by omega)
  rw [show b - 1 = a by omega] at this
  exact this
theorem CP_root {r : Nat → Bool} {lk : Nat → Nat} (hV : gV r 64 64 lk) {p q : Nat} (h : CP r p q) : rt lk (stp r p) = rt lk (stp r q) := by
  refine Cn_fn (fun p => rt lk (stp r p)) ?_ h
  intro a b hab
  rcases hab with hab | ⟨h1, h2, h3, h4⟩
  · show rt lk (stp r a) = rt lk (stp r b)
    rw [Ah_stp hab]
  · have := hV (a / 64) (a % 64) (by omega) (by omega) (by omega) (by omega) (by rw [show 64 * (a / 64) + a % 64 = a by omega]; exact h3) (by rw [show 64 * (a / 64 + 1) + a % 64 = b by omega]; exact h4)
    rw [show 64 * (a / 64) + a % 64 = a by omega, show 64 * (a / 64 + 1) + a % 64 = b by omega] at this
    exact this
def frG (o : Nat) : Nat → Nat → Prop := fun m k => (m = o ∧ (k = 1 ∨ k = 7)) ∨ (o + 2 ≤ m ∧ m ≤ o + 6)
/-- what a group says when its parts are found and measured -/
def gT (S : ca) (o : Nat) (r : Nat → Bool) (lab : Nat → Int) (cnt : Nat) : Prop :=
  gD S o 64 r (CP r) lab cnt ∧ cnt ≤ S.2 (o + 2) ∧ cnt ≤ S.2 (o + 3) ∧ cnt ≤ S.2 (o + 4) ∧ ∀ g, g < cnt → ∃ a b c, Meas r (CP r) 4096 lab g a b c ∧ S.1.1 (o + 2) g = zI a ∧ S.1.1 (o + 3) g = zI b ∧ S.1.1 (o + 4) g = zI c
theorem w_tail {o : Nat} (ho : gM o) {r : Nat → Bool} {S : ca} (hc : cO S.2) (hR : gR S.1 o 64 r) :
    wc sN (nm_a1 (f_X4_gather o S) fun S8 => nm_s1 (f_X4_number o S8.2 S8.1) fun M12 => nm_l (M12, S8.2) fun S14 => nm_a1 (f_X4_measure o S14) fun S15 => some (S15, 0, 0)) S.2 (fun S' => ∃ lab cnt, gT S' o r lab cnt ∧ cO S'.2 ∧ S'.1.2 = S.1.2 ∧ (∀ x, x < o + 2 ∨ o + 6 < x → S'.2 x = S.2 x) ∧ fr S S' (frG o)) := by
  have hoN := ho.1
  have hCh : ∀ p q, Ah r p q → CP r p q := fun p q h => Cn_of (Or.inl h)
  have hCv : ∀ y x, y + 1 < 64 → (y + 1) % 64 ≠ 0 → x < 64 → r (64 * y + x) = true → r (64 * (y + 1) + x) = true → CP r (64 * y + x) (64 * (y + 1) + x) := fun y x h1 h2 h3 h4 h5 => Cn_of (Or.inr ⟨by omega, by omega, h4, h5⟩)
  refine wc_a1 _ (w_gather hoN CP_rf CP_sy CP_tr hCh hCv hc hR) ?_
  rintro S1 ⟨lk, ⟨g1, g2, g3, g4, g5, g6, g7⟩, hS, hV, e1, e2, e3⟩
  have hn := pc_le2 (f := hdp r) (n := 64 * 64) (m := 4096) (by omega)
  refine wc_s1 _ (w_number g5 (by omega) g4 g3 g6) ?_
  rintro M2 ⟨k1, k2, k3, k4⟩
  rw [nm_l_eq]
  have hroot : ∀ p q, p < 64 * 64 → q < 64 * 64 → r p = true → r q = true → CP r p q → rt lk (stp r p) = rt lk (stp r q) := fun p q _ _ _ _ h => CP_root hV h
  obtain ⟨-, hL⟩ := Lab_of rfl g6 hS hroot
  have hD : gD (M2, S1.2) o 64 r (CP r) (fun q => if r q = true then ((rk lk (rt lk (stp r q)) : Nat) : Int) else -1) (rk lk (pc (hdp r) (64 * 64))) := by
    refine ⟨?_, ?_, ?_, ?_, g5, k1, hL⟩
    · intro y x hy hx
      show bx (M2.2 _ _) _ = _
      rw [k3]
      exact g1 y x hy hx
    · intro y hy
      show M2.1 _ _ = _
      rw [k4 _ _ (by omega)]
      exact g2 y hy
    · intro p hp hr
      show M2.1 _ _ = zI (if r p = true then _ else _)
      rw [if_pos hr]
      exact k2 _ (stp_lt hp hr)
    · show M2.1 _ _ = _
      rw [k4 _ _ (by omega)]
      exact g4
  refine wc_a1 _ (w_measure ho CP_sy CP_tr (S := (M2, S1.2)) g7 hD) ?_
  rintro S3 ⟨m1, m2, m3, m4, m5, m6, m7, m8, m9⟩
  refine wc_r ⟨_, _, ⟨m1, m3, m4, m5, m6⟩, m2, ?_, fun x hx => ?_, ?_⟩
  · rw [m7]
    show M2.2 = _
    rw [k3, e1]
  · rw [m8 x (by omega) (by omega) (by omega)]
    show S1.2 x = _
    rw [e2 x (by omega)]
  · intro m k hm
    unfold frG at hm
    rw [m9 m k (by unfold frM; omega)]
    show M2.1 m k = _
    rw [k4 m k (by omega), e3 m k (by omega)]
/-! the drawing: layer after layer, line after line -/
def dR (S : ca) (D : Nat → Bool) : Prop := ∀ y x, y < 1024 → x < 64 → bx (S.1.2 101 y) x = D (64 * y + x)
def rl (D : Nat → Bool) (l p : Nat) : Bool := decide (p < 4096) && D (4096 * l + p)
theorem gM_110 : gM 110 := by
  refine ⟨⟨by decide, by decide, by omega, by omega, fun N h => ⟨cl_l111 h, cl_l115 h⟩⟩, by decide, by decide, by decide, by decide, by decide, by decide⟩
theorem gM_320 : gM 320 := by
  refine ⟨⟨by decide, by decide, by omega, by omega, fun N h => ⟨cl_l321 h, cl_l325 h⟩⟩, by decide, by decide, by decide, by decide, by decide, by decide⟩
theorem gN_310 : gN 310 1024 := ⟨by decide, by decide, by omega, by omega, fun N h => ⟨cl_l311 h, cl_l315 h⟩⟩
theorem w_find {o : Nat} (ho : gM o) (ho101 : o + 1 ≠ 101) {D : Nat → Bool} {l : Nat} (hl : l < 16) {S : ca} (hc : cO S.2) (hD : dR S D) :
    wc sN (f_X4_find o (zI ((64 * l : Nat) : Int)) S) S.2 (fun S' => ∃ lab cnt, gT S' o (rl D l) lab cnt ∧ cO S'.2 ∧ (∀ m, m ≠ o + 1 → S'.1.2 m = S.1.2 m) ∧ (∀ x, x < o + 2 ∨ o + 6 < x → S'.2 x = S.2 x) ∧ fr S S' (frG o)) := by
  have hNl := (ho.1.2.2.2.2 _ hc.1).1
  unfold f_X4_find nm_cp
  rw [hNl, zI_lit, zI_lit, zI_ti (by omega) (by omega), zI_ti (by omega) (by omega), zI_ti (by omega) (by omega), if_pos ⟨⟨by omega, by omega, by omega⟩, by omega, by omega⟩]
  simp (disch := omega) only [zI_cl, nm_l_eq]
  rw [show ((64 * l : Nat) : Int).toNat = 64 * l from rfl, show (0 : Int).toNat = 0 from rfl, show (64 : Int).toNat = 64 from rfl]
  refine wc_m (w_tail ho (S := ((S.1.1, va_up S.1.2 (o + 1) (va_cpy (S.1.2 101) (S.1.2 (o + 1)) (64 * l) 0 64)), S.2)) (r := rl D l) hc ?_) ?_
  · intro y x hy hx
    show bx (va_up S.1.2 (o + 1) _ (o + 1) y) x = _
    rw [va_up_self]
    unfold va_cpy
    rw [if_pos ⟨by omega, by omega⟩, show 64 * l + (y - 0) = 64 * l + y by omega, hD _ _ (by omega) hx]
    unfold rl
    have : 64 * y + x < 4096 := by omega
    simp only [this, decide_true, Bool.true_and]
    congr 1
    omega
  · rintro S' ⟨lab, cnt, h1, h2, h3, h4, h5⟩
    refine ⟨lab, cnt, h1, h2, fun m hm => ?_, h4, h5⟩
    rw [h3]
    exact va_up_ne _ _ hm
def rcm (D : Nat → Bool) (a b p : Nat) : Bool := rl D a p && rl D b p
theorem w_findCommon {o : Nat} (ho : gM o) (ho101 : o + 1 ≠ 101) {D : Nat → Bool} {a b : Nat} (ha : a < 16) (hb : b < 16) {S : ca} (hc : cO S.2) (hD : dR S D) :
    wc sN (f_X4_findCommon o (zI ((64 * a : Nat) : Int)) (zI ((64 * b : Nat) : Int)) S) S.2 (fun S' => ∃ lab cnt, gT S' o (rcm D a b) lab cnt ∧ cO S'.2 ∧ (∀ m, m ≠ o + 1 → S'.1.2 m = S.1.2 m) ∧ (∀ x, x < o + 2 ∨ o + 6 < x → S'.2 x = S.2 x) ∧ fr S S' (frG o)) := by
  have hNl := (ho.1.2.2.2.2 _ hc.1).1
  unfold f_X4_findCommon
  refine wc_s1 (fun S1 => gR S1.1 o 64 (rcm D a b) ∧ S1.2 = S.2 ∧ S1.1.1 = S.1.1 ∧ ∀ m, m ≠ o + 1 → S1.1.2 m = S.1.2 m) ?_ ?_
  · rw [zI_lit]
    refine lpc (fun f => f_X4_findCommon_L3 o (zI ((64 * a : Nat) : Int)) (zI ((64 * b : Nat) : Int)) f) _ 64 (fun k S1 => 0 ≤ k ∧ (∀ (y x : Nat), (y : Int) < k → y < 64 → x < 64 → bx (S1.1.2 (o + 1) y) x = rcm D a b (64 * y + x)) ∧ S1.2 = S.2 ∧ S1.1.1 = S.1.1 ∧ ∀ m, m ≠ o + 1 → S1.1.2 m = S.1.2 m) ?_ ?_ nm_F 0 _ (by omega) (by rw [nm_F_eq]; omega) ⟨by omega, fun y x hy => by omega, rfl, rfl, fun _ _ => rfl⟩
    · rintro f k S1 hk ⟨h0, k1, k2, k3, k4⟩ hn9
      show wp (f_X4_findCommon_L3 o _ _ (f + 1) _ _) _
      obtain ⟨y, rfl⟩ := Int.eq_ofNat_of_zero_le h0
      rw [f_X4_findCommon_L3, k2, hNl, k4 101 (by omega)]
      simp (disch := omega) only [zI_le, nm_cz, zI_cl, nm_l_eq, zI_lit, zI_add]
      rw [if_neg (by omega)]
      rw [show (((64 * a : Nat) : Int) + ((y : Nat) : Int)).toNat = 64 * a + y by omega, show (((64 * b : Nat) : Int) + ((y : Nat) : Int)).toNat = 64 * b + y by omega, show ((y : Nat) : Int).toNat = y from rfl]
      refine hn9 _ ⟨by omega, ?_, rfl, k3, ?_⟩
      · intro y' x hy' hy64 hx
        show bx (nm_upJ _ _ _ _ _ _) x = _
        rw [nm_upJ_ap]
        by_cases he : y' = y
        · subst he
          rw [if_pos ⟨rfl, rfl⟩, bx_and, hD _ _ (by omega) hx, hD _ _ (by omega) hx]
          unfold rcm rl
          have : 64 * y' + x < 4096 := by omega
          simp only [this, decide_true, Bool.true_and]
          congr 2 <;> omega
        · rw [if_neg (fun h => he h.2)]
          exact k1 y' x (by omega) hy64 hx
      · intro m hm
        show nm_upJ _ _ _ _ m = _
        rw [nm_upJ_n _ _ _ _ hm]
        exact k4 m hm
    · rintro f S1 ⟨h0, k1, k2, k3, k4⟩
      show wp (f_X4_findCommon_L3 o _ _ (f + 1) _ _) _
      rw [f_X4_findCommon_L3]
      simp (disch := omega) only [zI_lit, zI_le, Int.le_refl, if_true]
      exact wp_r ⟨fun y x hy hx => k1 y x (by omega) hy hx, k2, k3, k4⟩
  rintro S1 ⟨k1, k2, k3, k4⟩
  rw [← k2]
  refine wc_m (w_tail ho (r := rcm D a b) (by rw [k2]; exact hc) k1) ?_
  rintro S' ⟨lab, cnt, h1, h2, h3, h4, h5⟩
  refine ⟨lab, cnt, h1, h2, fun m hm => by rw [h3]; exact k4 m hm, fun x hx => by rw [h4 x hx], fun m k hm => by rw [h5 m k hm, k3]⟩
