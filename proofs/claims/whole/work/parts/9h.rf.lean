/-! the circuit: what conducts, hangs together, and is joined; by the program -/
abbrev jo : Type := Nat → Nat × Nat × Nat
def jok (jl : jo) (jn : Nat) : Prop := jn ≤ 8 ∧ ∀ i, i < jn → (jl i).1 < 16 ∧ (jl i).2.1 < 16 ∧ (jl i).2.2 < 16
def nR (D cd : Nat → Bool) (p : Nat) : Bool := decide (p < 65536) && (cd (p / 4096) && D p)
def Ajo (D : Nat → Bool) (t : Nat × Nat × Nat) (r : Nat → Bool) (a b : Nat) : Prop := ∃ s, s < 4096 ∧ a = 4096 * t.1 + s ∧ b = 4096 * t.2.2 + s ∧ r a = true ∧ r b = true ∧ D (4096 * t.2.1 + s) = true
def An (D cd : Nat → Bool) (jl : jo) (jn a b : Nat) : Prop := Ah (nR D cd) a b ∨ (b = a + 64 ∧ a / 4096 = b / 4096 ∧ nR D cd a = true ∧ nR D cd b = true) ∨ ∃ j, j < jn ∧ Ajo D (jl j) (nR D cd) a b
def CQn (D cd : Nat → Bool) (jl : jo) (jn : Nat) : Nat → Nat → Prop := Cn (An D cd jl jn)
section
variable {D cd : Nat → Bool} {jl : jo} {jn : Nat}
theorem CN_rf (a : Nat) : CQn D cd jl jn a a := Cn_rf a
theorem CN_sy (a b : Nat) (h : CQn D cd jl jn a b) : CQn D cd jl jn b a := Cn_sy h
theorem CN_tr (a b c : Nat) (h : CQn D cd jl jn a b) (h2 : CQn D cd jl jn b c) : CQn D cd jl jn a c := Cn_tr h h2
/-- the roots of what is joined are one -/
abbrev jnd (D : Nat → Bool) (t : Nat × Nat × Nat) (r : Nat → Bool) (lk : Nat → Nat) (n : Nat) : Prop := ∀ s, s < n → r (4096 * t.1 + s) = true → r (4096 * t.2.2 + s) = true → D (4096 * t.2.1 + s) = true → rt lk (stp r (4096 * t.1 + s)) = rt lk (stp r (4096 * t.2.2 + s))
theorem w_join {N : Nat → Nat} {r : Nat → Bool} {C : Nat → Nat → Prop} (hs9 : ∀ a b, C a b → C b a) (ht9 : ∀ a b c, C a b → C b c → C a c) (hN1 : N 311 = 1024) (hN5 : N 315 = 1024) {n : Nat} (hn : n ≤ N 316) (hn2 : n = pc (hdp r) (64 * 1024)) {M : cm} {lk : Nat → Nat} (hs : M.1 310 7 = zI n) (hR : gR M 310 1024 r) (hF : gF M 310 1024 r) (hL : gL M 310 n lk) (hd : dn lk) (hS : gS r C 1024 lk) (hD : dM M D) {t : Nat × Nat × Nat} (ha : t.1 < 16) (hv : t.2.1 < 16) (hb : t.2.2 < 16) (hC : ∀ s, s < 4096 → r (4096 * t.1 + s) = true → r (4096 * t.2.2 + s) = true → D (4096 * t.2.1 + s) = true → C (4096 * t.1 + s) (4096 * t.2.2 + s)) :
    wp (f_X2_join N (zI ((64 * t.1 : Nat) : Int)) (zI ((64 * t.2.1 : Nat) : Int)) (zI ((64 * t.2.2 : Nat) : Int)) M) (fun M' => ∃ lk', dn lk' ∧ gL M' 310 n lk' ∧ gO M M' 310 n ∧ gS r C 1024 lk' ∧ (∀ i j, rt lk i = rt lk j → rt lk' i = rt lk' j) ∧ jnd D t r lk' 4096) := by
  have key : ∀ (f y : Nat) (S : cm), y ≤ 64 → 64 - y < f → (∃ lk', dn lk' ∧ gL S 310 n lk' ∧ gO M S 310 n ∧ gS r C 1024 lk' ∧ (∀ i j, rt lk i = rt lk j → rt lk' i = rt lk' j) ∧ jnd D t r lk' (64 * y)) → wp (f_X2_join_L3 N (zI ((64 * t.1 : Nat) : Int)) (zI ((64 * t.2.1 : Nat) : Int)) (zI ((64 * t.2.2 : Nat) : Int)) f (zI (y : Nat)) S) (fun M' => ∃ lk', dn lk' ∧ gL M' 310 n lk' ∧ gO M M' 310 n ∧ gS r C 1024 lk' ∧ (∀ i j, rt lk i = rt lk j → rt lk' i = rt lk' j) ∧ jnd D t r lk' 4096) := by
    intro f
    induction f with
    | zero => intro y S h1 h2; omega
    | succ f ih =>
      rintro y S hy hf ⟨lk1, a1, a2, a3, a4, a5, a6⟩
      rw [f_X2_join_L3, show (64 : Int32) = zI 64 from rfl]
      simp (disch := omega) only [zI_le]
      refine wp_if (fun h => ?_) (fun h => ?_)
      · have : y = 64 := by omega
        subst this
        exact wp_r ⟨lk1, a1, a2, a3, a4, a5, a6⟩
      have hRS : gR S 310 1024 r := gO_R a3 hR
      have hFS : gF S 310 1024 r := gO_F a3 hF
      have hDS : dM S D := fun y x hy hx => by rw [a3.1]; exact hD y x hy hx
      have hsS : S.1 310 7 = zI n := (a3.2 310 7 (by omega)).trans hs
      rw [zI_add, zI_add, zI_add, nm_cz (by omega) (by omega) (by omega), nm_cz (by omega) (by omega) (by omega), zI_cl (by omega) (by omega), zI_cl (by omega) (by omega), nm_l_eq, nm_cz (by omega) (by omega) (by omega), zI_cl (by omega) (by omega), show (((64 * t.1 : Nat) : Int) + ((y : Nat) : Int)).toNat = 64 * t.1 + y by omega, show (((64 * t.2.1 : Nat) : Int) + ((y : Nat) : Int)).toNat = 64 * t.2.1 + y by omega, show (((64 * t.2.2 : Nat) : Int) + ((y : Nat) : Int)).toNat = 64 * t.2.2 + y by omega]
      rw [show (((64 * t.1 : Nat) : Int) + ((y : Nat) : Int)) = ((64 * t.1 + y : Nat) : Int) from rfl, show (((64 * t.2.2 : Nat) : Int) + ((y : Nat) : Int)) = ((64 * t.2.2 + y : Nat) : Int) from rfl]
      have hw : ∀ x, x < 64 → (bx ((S.2 311 (64 * t.1 + y) &&& S.2 311 (64 * t.2.2 + y)) &&& S.2 101 (64 * t.2.1 + y)) x = true ↔ r (4096 * t.1 + (64 * y + x)) = true ∧ r (4096 * t.2.2 + (64 * y + x)) = true ∧ D (4096 * t.2.1 + (64 * y + x)) = true) := fun x hx => by
        rw [bx_and, bx_and, hRS _ _ (by omega) hx, hRS _ _ (by omega) hx, hDS _ _ (by omega) hx, show 64 * (64 * t.1 + y) + x = 4096 * t.1 + (64 * y + x) by omega, show 64 * (64 * t.2.1 + y) + x = 4096 * t.2.1 + (64 * y + x) by omega, show 64 * (64 * t.2.2 + y) + x = 4096 * t.2.2 + (64 * y + x) by omega, Bool.and_eq_true, Bool.and_eq_true, and_assoc]
      refine wp_s1 _ (w_unite (o := 310) hs9 ht9 (Nat.le_refl _) hN1 hN5 hn hn2 hsS hRS hFS a2 a1 (a := 64 * t.1 + y) (b := 64 * t.2.2 + y) (by omega) (by omega) (fun x hx hb9 => ?_) a4) ?_
      · obtain ⟨u1, u2, u3⟩ := (hw x hx).mp hb9
        rw [show 64 * (64 * t.1 + y) + x = 4096 * t.1 + (64 * y + x) by omega, show 64 * (64 * t.2.2 + y) + x = 4096 * t.2.2 + (64 * y + x) by omega]
        exact ⟨u1, u2, hC _ (by omega) u1 u2 u3⟩
      rintro S2 ⟨lk2, b1, b2, b3, b4, b5, b6⟩
      rw [zI_inc]
      refine ih (y + 1) S2 (by omega) (by omega) ⟨lk2, b1, b2, gO_tr a3 b3, b4, fun i j hij => b5 i j (a5 i j hij), fun s hs6 u1 u2 u3 => ?_⟩
      by_cases hsy : s < 64 * y
      · exact b5 _ _ (a6 s hsy u1 u2 u3)
      · obtain ⟨x, hx⟩ : ∃ x, s = 64 * y + x := ⟨s - 64 * y, by omega⟩
        subst hx
        have hx : x < 64 := by omega
        have := b6 x hx ((hw x hx).mpr ⟨u1, u2, u3⟩)
        rw [show 64 * (64 * t.1 + y) + x = 4096 * t.1 + (64 * y + x) by omega, show 64 * (64 * t.2.2 + y) + x = 4096 * t.2.2 + (64 * y + x) by omega] at this
        exact this
  unfold f_X2_join
  rw [zI_0]
  exact wp_s1 _ (key nm_F 0 M (by omega) (by rw [nm_F_eq]; omega) ⟨lk, hd, hL, gO_rf _ _ _, hS, fun _ _ h => h, fun s hs => absurd hs (Nat.not_lt_zero _)⟩) (fun _ h => wp_r h)
/-- the rows of what conducts -/
theorem w_netRows {S : ca} (hc : cO S.2) (hD : dR S D) (hm : ∀ l, l < 16 → bi (S.1.1 300 0) l = cd l) (h0 : ∀ y, y < 1024 → S.1.2 311 y = 0) :
    wp (f_X2_findNets_L13 nm_F (0 : Int32) S) (fun S' => gR S'.1 310 1024 (nR D cd) ∧ S'.1.1 = S.1.1 ∧ S'.2 = S.2 ∧ ∀ m, m ≠ 311 → S'.1.2 m = S.1.2 m) := by
  have key : ∀ (f l : Nat) (Z : ca), l ≤ 16 → 16 - l < f → (∀ y x, y < 1024 → x < 64 → bx (Z.1.2 311 y) x = (decide (y < 64 * l) && nR D cd (64 * y + x))) → Z.1.1 = S.1.1 → Z.2 = S.2 → (∀ m, m ≠ 311 → Z.1.2 m = S.1.2 m) → wp (f_X2_findNets_L13 f (zI (l : Nat)) Z) (fun S' => gR S'.1 310 1024 (nR D cd) ∧ S'.1.1 = S.1.1 ∧ S'.2 = S.2 ∧ ∀ m, m ≠ 311 → S'.1.2 m = S.1.2 m) := by
    intro f
    induction f with
    | zero => intro y S h1 h2; omega
    | succ f ih =>
      intro l Z hl hf hI e1 e2 e3
      rw [f_X2_findNets_L13, show (16 : Int32) = zI 16 from rfl]
      simp (disch := omega) only [zI_le]
      refine wp_if (fun h => ?_) (fun h => ?_)
      · have : l = 16 := by omega
        subst this
        refine wp_r ⟨fun y x hy hx => ?_, e1, e2, e3⟩
        show bx (Z.1.2 311 y) x = _
        rw [hI y x hy hx, decide_eq_true (by omega), Bool.true_and]
      have hl6 : l < 16 := by omega
      rw [e1]
      refine wp_if (fun h2 => ?_) (fun h2 => ?_)
      · have hb := (bi_0 _ (by omega)).mp h2
        rw [hm l hl6] at hb
        unfold f_X2_findNets_J54
        rw [zI_inc]
        refine ih (l + 1) Z (by omega) (by omega) (fun y x hy hx => ?_) e1 e2 e3
        rw [hI y x hy hx]
        by_cases hy2 : y < 64 * l
        · rw [decide_eq_true hy2, decide_eq_true (by omega)]
        · rw [decide_eq_false hy2, Bool.false_and]
          by_cases hy3 : y < 64 * (l + 1)
          · unfold nR
            rw [show (64 * y + x) / 4096 = l by omega, hb, Bool.false_and, Bool.and_false, Bool.and_false]
          · rw [decide_eq_false hy3, Bool.false_and]
      · have hb : cd l = true := by
          rw [← hm l hl6]
          cases hbb : bi (S.1.1 300 0) l with
          | true => rfl
          | false => exact absurd ((bi_0 _ (by omega)).mpr hbb) h2
        have h64 : (64 : Int32) * zI (l : Nat) = zI ((64 * l : Nat) : Int) := by rw [show (64 : Int32) = zI 64 from rfl, zI_mul]; rfl
        unfold nm_cp
        rw [h64, if_pos (by
          rw [zI_ti (by omega) (by omega), show (64 : Int32).toInt = 64 by decide]
          omega), nm_l_eq, zI_cl (by omega) (by omega), Int.toNat_natCast, show (64 : Int32).toNatClampNeg = 64 by decide]
        unfold f_X2_findNets_J54
        rw [zI_inc]
        refine ih (l + 1) _ (by omega) (by omega) (fun y x hy hx => ?_) rfl e2 (fun m hm9 => ?_)
        · show bx (va_up Z.1.2 311 (va_cpy (Z.1.2 101) (Z.1.2 311) (64 * l) (64 * l) 64) 311 y) x = _
          rw [va_up_self]
          unfold va_cpy
          by_cases hy2 : 64 * l ≤ y ∧ y < 64 * l + 64
          · rw [if_pos hy2, show 64 * l + (y - 64 * l) = y by omega, e3 101 (by omega), hD y x hy hx, decide_eq_true (by omega), Bool.true_and]
            unfold nR
            rw [show (64 * y + x) / 4096 = l by omega, hb, decide_eq_true (by omega)]
            rfl
          · rw [if_neg hy2, hI y x hy hx]
            by_cases hy3 : y < 64 * l
            · rw [decide_eq_true hy3, decide_eq_true (by omega)]
            · rw [decide_eq_false hy3, decide_eq_false (by omega)]
        · show va_up Z.1.2 311 _ m = _
          rw [va_up_ne _ _ hm9]
          exact e3 m hm9
  rw [zI_0]
  refine key nm_F 0 S (by omega) (by rw [nm_F_eq]; omega) (fun y x hy hx => ?_) rfl rfl (fun _ _ => rfl)
  rw [h0 y hy, bx_0, decide_eq_false (by omega), Bool.false_and]
/-- joints, as the program holds them -/
def jX (M : cm) (jl : jo) (jn : Nat) : Prop := M.1 300 1 = zI (jn : Nat) ∧ ∀ i, i < jn → M.1 301 (3 * i) = zI (((jl i).1 : Nat) : Int) ∧ M.1 301 (3 * i + 1) = zI (((jl i).2.1 : Nat) : Int) ∧ M.1 301 (3 * i + 2) = zI (((jl i).2.2 : Nat) : Int)
theorem nR_lt {p : Nat} (h : nR D cd p = true) : p < 65536 := by
  unfold nR at h
  simp only [Bool.and_eq_true, decide_eq_true_eq] at h
  exact h.1
theorem CN_root {lk : Nat → Nat} (hV : gV (nR D cd) 1024 1024 lk) (hJ : ∀ j, j < jn → jnd D (jl j) (nR D cd) lk 4096) {p q : Nat} (h : CQn D cd jl jn p q) : rt lk (stp (nR D cd) p) = rt lk (stp (nR D cd) q) := by
  refine Cn_fn (fun p => rt lk (stp (nR D cd) p)) ?_ h
  intro a b hab
  rcases hab with hab | ⟨h1, h2, h3, h4⟩ | ⟨j, hj, s, hs, h1, h2, h3, h4, h5⟩
  · show rt lk (stp (nR D cd) a) = rt lk (stp (nR D cd) b)
    rw [Ah_stp hab]
  · have hb := nR_lt h4
    have := hV (a / 64) (a % 64) (by omega) (by omega) (by omega) (by omega) (by rw [show 64 * (a / 64) + a % 64 = a by omega]; exact h3) (by rw [show 64 * (a / 64 + 1) + a % 64 = b by omega]; exact h4)
    rw [show 64 * (a / 64) + a % 64 = a by omega, show 64 * (a / 64 + 1) + a % 64 = b by omega] at this
    exact this
  · have := hJ j hj s hs (by rw [← h1]; exact h3) (by rw [← h2]; exact h4) h5
    rw [← h1, ← h2] at this
    exact this
set_option maxHeartbeats 1000000 in
theorem w_findNets (hj : jok jl jn) {S : ca} (hc : cO S.2) (hD : dR S D) (hm : ∀ l, l < 16 → bi (S.1.1 300 0) l = cd l) (hX : jX S.1 jl jn) :
    wc sN (f_X2_findNets S) S.2 (fun S' => (∃ lab cnt, gD S' 310 1024 (nR D cd) (CQn D cd jl jn) lab cnt) ∧ cO S'.2 ∧ (∀ m, m ≠ 311 → S'.1.2 m = S.1.2 m) ∧ (∀ x, x ≠ 316 → S'.2 x = S.2 x) ∧ S'.1.1 300 9 = S.1.1 300 0 ∧ fr S S' (fun m k => (m = 300 ∧ k = 9) ∨ (m = 310 ∧ (k = 1 ∨ k = 7)) ∨ m = 315 ∨ m = 316)) := by
  obtain ⟨hjn, hj⟩ := hj
  unfold f_X2_findNets
  have e311 : S.2 311 = 1024 := cl_l311 hc.1
  rw [w_fillJ (a := 311) (by omega), nm_s1_some, nm_l_eq]
  obtain ⟨J, hJ⟩ : ∃ J, J = va_up S.1.2 311 (fun j => if j < S.2 311 then 0 else S.1.2 311 j) := ⟨_, rfl⟩
  have hJ1 : ∀ m, m ≠ 311 → J m = S.1.2 m := fun m hm9 => by rw [hJ, va_up_ne _ _ hm9]
  have hJ2 : ∀ y, y < 1024 → J 311 y = 0 := fun y hy => by rw [hJ, va_up_self, e311, if_pos hy]
  rw [← hJ]
  clear hJ
  refine wc_s1 _ (w_netRows (S := ((S.1.1, J), S.2)) (D := D) (cd := cd) hc (fun y x hy hx => by
    show bx (J 101 y) x = _
    rw [hJ1 101 (by omega)]
    exact hD y x hy hx) hm hJ2) ?_
  rintro S1 ⟨a1, a2, a3, a4⟩
  rw [nm_l_eq]
  obtain ⟨B, hB⟩ : ∃ B, B = nm_up S1.1.1 300 9 (S1.1.1 300 0) := ⟨_, rfl⟩
  rw [← hB]
  have b1 : ∀ m k, ¬ (m = 300 ∧ k = 9) → B m k = S.1.1 m k := fun m k h => by rw [hB, nm_up_ap, if_neg h, a2]
  have b2 : B 300 9 = S.1.1 300 0 := by rw [hB, nm_up_ap, if_pos ⟨rfl, rfl⟩, a2]
  clear hB
  have hD1 : ∀ m, m ≠ 311 → S1.1.2 m = S.1.2 m := fun m hm9 => by
    rw [a4 m hm9]
    exact hJ1 m hm9
  have a3' : S.2 = S1.2 := a3.symm
  have hc1 : cO S1.2 := by rw [← a3']; exact hc
  rw [a3']
  refine wc_a1 _ (w_gather gN_310 CN_rf CN_sy CN_tr (C := CQn D cd jl jn) (fun p q h => Cn_of (Or.inl h)) (fun y x h1 h2 h3 h4 h5 => Cn_of (Or.inr (Or.inl ⟨by omega, by omega, h4, h5⟩))) (S := ((B, S1.1.2), S1.2)) hc1 a1) ?_
  rintro S2 ⟨lk, ⟨g1, g2, g3, g4, g5, g6, g7⟩, hS, hV, c1, c2, c3⟩
  obtain ⟨n, hnn⟩ : ∃ n, n = pc (hdp (nR D cd)) (64 * 1024) := ⟨_, rfl⟩
  have hn : n ≤ 65536 := by
    rw [hnn]
    exact pc_le2 (by omega)
  rw [← hnn] at g3 g4 g5
  have hX2 : jX S2.1 jl jn := by
    obtain ⟨x0, x1⟩ := hX
    have ez : ∀ m k, m = 300 ∨ m = 301 → ¬ (m = 300 ∧ k = 9) → S2.1.1 m k = S.1.1 m k := fun m k h h2 => (c3 m k (by omega)).trans (b1 m k h2)
    refine ⟨(ez _ _ (by omega) (by omega)).trans x0, fun i hi => ?_⟩
    obtain ⟨y1, y2, y3⟩ := x1 i hi
    exact ⟨(ez _ _ (by omega) (by omega)).trans y1, (ez _ _ (by omega) (by omega)).trans y2, (ez _ _ (by omega) (by omega)).trans y3⟩
  have hD2 : dM S2.1 D := fun y x hy hx => by
    rw [c1]
    show bx (S1.1.2 101 y) x = _
    rw [hD1 101 (by omega)]
    exact hD y x hy hx
  have hN1 : S2.2 311 = 1024 := cl_l311 g7.1
  have hN5 : S2.2 315 = 1024 := g7.1 (315, 1024) (by decide)
  obtain ⟨x0, x1⟩ := hX2
  have key : ∀ (f i : Nat) (Z : ca), i ≤ jn → jn - i < f → (∃ lk', dn lk' ∧ gL Z.1 310 n lk' ∧ gO S2.1 Z.1 310 n ∧ Z.2 = S2.2 ∧ gS (nR D cd) (CQn D cd jl jn) 1024 lk' ∧ gV (nR D cd) 1024 1024 lk' ∧ ∀ j, j < i → jnd D (jl j) (nR D cd) lk' 4096) →
      wp (f_X2_findNets_L77 f (zI (i : Nat)) Z) (fun Z => ∃ lk', dn lk' ∧ gL Z.1 310 n lk' ∧ gO S2.1 Z.1 310 n ∧ Z.2 = S2.2 ∧ gS (nR D cd) (CQn D cd jl jn) 1024 lk' ∧ gV (nR D cd) 1024 1024 lk' ∧ ∀ j, j < jn → jnd D (jl j) (nR D cd) lk' 4096) := by
    intro f
    induction f with
    | zero => intro i Z h1 h2; omega
    | succ f ih =>
      rintro i Z hi hf ⟨lk1, z1, z2, z3, z4, z5, z6, z7⟩
      rw [f_X2_findNets_L77, z3.2 300 1 (by omega), x0]
      simp (disch := omega) only [zI_le]
      refine wp_if (fun h => ?_) (fun h => ?_)
      · have : i = jn := by omega
        subst this
        exact wp_r ⟨lk1, z1, z2, z3, z4, z5, z6, z7⟩
      obtain ⟨j1, j2, j3⟩ := hj i (by omega)
      obtain ⟨y1, y2, y3⟩ := x1 i (by omega)
      have hmul : ∀ k : Nat, (64 : Int32) * zI (k : Nat) = zI ((64 * k : Nat) : Int) := fun k => by rw [show (64 : Int32) = zI 64 from rfl, zI_mul]; rfl
      rw [show (3 : Int32) = zI 3 from rfl, show (1 : Int32) = zI 1 from rfl, show (2 : Int32) = zI 2 from rfl, zI_mul, zI_add, zI_add, nm_cz (by omega) (by omega) (by omega), nm_cz (by omega) (by omega) (by omega), nm_cz (by omega) (by omega) (by omega), zI_cl (by omega) (by omega), zI_cl (by omega) (by omega), zI_cl (by omega) (by omega), show (3 * ((i : Nat) : Int)).toNat = 3 * i by omega, show (3 * ((i : Nat) : Int) + 1).toNat = 3 * i + 1 by omega, show (3 * ((i : Nat) : Int) + 2).toNat = 3 * i + 2 by omega, z3.2 301 _ (by omega), z3.2 301 _ (by omega), z3.2 301 _ (by omega), y1, y2, y3, hmul, hmul, hmul]
      refine wp_s1 _ (w_join (D := D) (r := nR D cd) (C := CQn D cd jl jn) CN_sy CN_tr (by rw [z4]; exact hN1) (by rw [z4]; exact hN5) (by rw [z4]; exact g5) hnn ((z3.2 310 7 (by omega)).trans g4) (gO_R z3 g1) (gO_F z3 g2) z2 z1 z5 (fun y x hy hx => by rw [z3.1]; exact hD2 y x hy hx) (t := jl i) j1 j2 j3 (fun s hs u1 u2 u3 => Cn_of (Or.inr (Or.inr ⟨i, by omega, s, hs, rfl, rfl, u1, u2, u3⟩)))) ?_
      rintro M' ⟨lk2, v1, v2, v3, v4, v5, v6⟩
      rw [nm_l_eq, show (zI ((i : Nat) : Int) + zI 1) = zI ((i : Nat) : Int) + 1 from rfl, zI_inc]
      refine ih (i + 1) (M', Z.2) (by omega) (by omega) ⟨lk2, v1, v2, gO_tr z3 v3, z4, v4, fun y x q1 q2 q3 q4 q5 q6 => v5 _ _ (z6 y x q1 q2 q3 q4 q5 q6), fun j hj9 s hs u1 u2 u3 => ?_⟩
      by_cases hji : j = i
      · subst hji
        exact v6 s hs u1 u2 u3
      · exact v5 _ _ (z7 j (by omega) s hs u1 u2 u3)
  rw [zI_0]
  refine wc_s1 _ (key nm_F 0 S2 (by omega) (by rw [nm_F_eq]; omega) ⟨lk, g6, g3, gO_rf _ _ _, rfl, hS, hV, fun j hj9 => absurd hj9 (Nat.not_lt_zero _)⟩) ?_
  rintro S3 ⟨lk3, d1, d2, d3, d4, d5, d6, d7⟩
  refine wc_s1 _ (w_number (o := 310) (N := S3.2) (by rw [d4]; exact g5) (by omega) ((d3.2 310 7 (by omega)).trans g4) d2 d1) ?_
  rintro M4 ⟨k1, k2, k3, k4⟩
  rw [nm_l_eq]
  obtain ⟨-, hLb⟩ := Lab_of hnn.symm d1 d5 (fun p q _ _ _ _ h => CN_root d6 d7 h)
  have e42 : ∀ m, m ≠ 311 → M4.2 m = S.1.2 m := fun m hm9 => by
    rw [k3, d3.1, c1]
    exact hD1 m hm9
  have d4' : S2.2 = S3.2 := d4.symm
  show wc sN (some ((M4, S3.2), 0, 0)) S2.2 _
  rw [d4']
  refine wc_r ⟨⟨_, _, ⟨?_, ?_, ?_, ?_, ?_, k1, hLb⟩⟩, by rw [show (M4, S3.2).2 = S2.2 from d4]; exact g7, e42, fun x hx => ?_, ?_, ?_⟩
  · intro y x hy hx
    show bx (M4.2 _ _) _ = _
    rw [k3, d3.1]
    exact g1 y x hy hx
  · intro y hy
    show M4.1 _ _ = _
    rw [k4 _ _ (by omega), d3.2 _ _ (by omega)]
    exact g2 y hy
  · intro p hp hr
    show M4.1 _ _ = zI (if nR D cd p = true then _ else _)
    rw [if_pos hr]
    exact k2 _ (by rw [hnn]; exact stp_lt hp hr)
  · show M4.1 310 7 = _
    rw [← hnn, k4 _ _ (by omega), d3.2 310 7 (by omega)]
    exact g4
  · show _ ≤ S3.2 316
    rw [← hnn, d4]
    exact g5
  · show S3.2 x = S1.2 x
    rw [d4, c2 x hx]
  · show M4.1 300 9 = _
    rw [k4 _ _ (by omega), d3.2 300 9 (by omega), c3 300 9 (by omega)]
    exact b2
  · intro m k h
    have h9 : ¬ ((m = 300 ∧ k = 9) ∨ (m = 310 ∧ (k = 1 ∨ k = 7)) ∨ m = 315 ∨ m = 316) := h
    show M4.1 m k = _
    rw [k4 m k (by omega), d3.2 m k (by omega), c3 m k (by omega)]
    exact b1 m k (by omega)
end
